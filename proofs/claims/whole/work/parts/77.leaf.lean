/-! reading: both at the i-th token -/
def Tk (T : Nat → Int) (n c i : Nat) (X M : Mm) : Prop := n ≤ 600 ∧ TkX T n c X ∧ i ≤ c ∧ X.1 14 2 = iI (i : Int) ∧ X.1 14 4 = 0 ∧ TapX T X ∧ TapM T M ∧ TkM T n (sqS T n i) M ∧ M.1 0 7 = 0
/-- both have found the same fault -/
def Fl (T : Nat → Int) (n c : Nat) (X M : Mm) : Prop := ∃ (v : Int) (i : Nat), 1 ≤ v ∧ v ≤ 5 ∧ X.1 14 4 = iI v ∧ M.1 0 7 = iI v ∧ i ≤ c ∧ X.1 14 2 = iI (i : Int) ∧ M.1 0 8 = iI (sqS T n i : Int) ∧ TkX T n c X
def SX (X Y : Mm) : Prop := (∀ q, q ≠ 14 → Y.1 q = X.1 q) ∧ Y.1 14 3 = X.1 14 3
theorem SX.rf {X : Mm} : SX X X := ⟨fun _ _ => rfl, rfl⟩
theorem SX.tr {X Y Z : Mm} (h : SX X Y) (h2 : SX Y Z) : SX X Z := ⟨fun q a => (h2.1 q a).trans (h.1 q a), h2.2.trans h.2⟩
theorem SX.u {X : Mm} {i : Nat} {x : Int32} (hi : i ≠ 3) : SX X (u1 X 14 i x) := ⟨fun q a => u1_ne a, u1_s _ _ _ _ (Ne.symm hi)⟩
def OnH (M N : Mm) : Prop := (∀ q, q ≠ 0 → N.1 q = M.1 q) ∧ (∀ i, i < 6 ∨ 12 < i → N.1 0 i = M.1 0 i) ∧ ∀ q, q ≠ 0 → N.2 q = M.2 q
theorem OnH.rf {M : Mm} : OnH M M := ⟨fun _ _ => rfl, fun _ _ => rfl, fun _ _ => rfl⟩
theorem OnH.tr {M N O : Mm} (h : OnH M N) (h2 : OnH N O) : OnH M O := ⟨fun q a => (h2.1 q a).trans (h.1 q a), fun i a => (h2.2.1 i a).trans (h.2.1 i a), fun q a => (h2.2.2 q a).trans (h.2.2 q a)⟩
theorem OnG.h {M N : Mm} (h : OnG M N) : OnH M N := ⟨h.1, fun i a => h.2.1 i (by omega) (by omega) (by omega) (by omega) (by omega), h.2.2⟩
theorem TkX.fr {T : Nat → Int} {n c : Nat} {X Y : Mm} (h : TkX T n c X) (e : ∀ q, 28 ≤ q → q ≤ 31 → Y.1 q = X.1 q) : TkX T n c Y := by
  obtain ⟨a, b, d, f, g⟩ := h
  refine ⟨a, b, fun i hi => ⟨(d i hi).1, ?_⟩, by rw [e 28 (by omega) (by omega)]; exact f, by rw [e 29 (by omega) (by omega)]; exact g⟩
  unfold TokAt
  rw [e 28 (by omega) (by omega), e 29 (by omega) (by omega), e 30 (by omega) (by omega), e 31 (by omega) (by omega)]
  exact (d i hi).2
/-- other rows may change -/
theorem Tk.fr {T : Nat → Int} {n c i : Nat} {X M Y N : Mm} (h : Tk T n c i X M) (e1 : ∀ q, q = 1 ∨ q = 14 ∨ (28 ≤ q ∧ q ≤ 31) → Y.1 q = X.1 q) (e2 : N.1 1 = M.1 1) (e3 : ∀ i, 5 ≤ i → i ≤ 12 → N.1 0 i = M.1 0 i) (e4 : N.2 0 = M.2 0) : Tk T n c i Y N := by
  obtain ⟨h1, h2, h3, h4, h5, h6, h7, h8, h9⟩ := h
  refine ⟨h1, h2.fr (fun q a b => e1 q (by omega)), h3, by rw [e1 14 (by omega)]; exact h4, by rw [e1 14 (by omega)]; exact h5, fun q hq => by rw [e1 1 (by omega)]; exact h6 q hq, fun q hq => by rw [e2]; exact h7 q hq, ?_, by rw [e3 7 (by omega) (by omega)]; exact h9⟩
  unfold TkM
  rw [e3 5 (by omega) (by omega), e3 10 (by omega) (by omega), e3 6 (by omega) (by omega), e3 9 (by omega) (by omega), e3 12 (by omega) (by omega), e3 11 (by omega) (by omega), e4]
  exact h8
theorem Tk.at {T : Nat → Int} {n c i : Nat} {X M : Mm} (h : Tk T n c i X M) : X.1 28 i = iI (srS T n (sqS T n i)) ∧ X.1 29 i = iI (sqS T n i : Int) ∧ (srS T n (sqS T n i) ≠ 0 → i < c ∧ sqS T n i < n ∧ TokAt T n i (sqS T n i) X) := by
  obtain ⟨h1, ⟨t1, t2, t3, t4, t5⟩, h3, -⟩ := h
  by_cases e : i = c
  · subst e
    have sr : srS T n (sqS T n i) = 0 := by rw [t2]; unfold srS; rw [if_neg (Nat.lt_irrefl n)]
    exact ⟨by rw [sr]; exact t4, by rw [t2]; exact t5, fun q => absurd sr q⟩
  · have := t3 i (by omega)
    exact ⟨this.2.1, this.2.2.1, fun _ => ⟨by omega, this.1, this.2⟩⟩
theorem sr_b {T : Nat → Int} {n s : Nat} : 0 ≤ srS T n s ∧ srS T n s ≤ 5 ∧ (srS T n s = 0 ↔ ¬ s < n) := by
  unfold srS
  by_cases e : s < n
  · rw [if_pos e]
    split
    · split <;> omega
    · split
      · split <;> omega
      · split
        · omega
        · split <;> omega
  · rw [if_neg e]; omega
theorem Tk.rd28 {T : Nat → Int} {n c i : Nat} {X M : Mm} (h : Tk T n c i X M) : rd (X.1 28) 601 (X.1 14 2) = some (iI (srS T n (sqS T n i))) := by
  have h3 := h.2.2.1
  have h2 := h.2.1.1
  rw [h.2.2.2.1, rdK (by omega), h.at.1]
theorem Tk.step {T : Nat → Int} {n c i : Nat} {X M : Mm} (h : Tk T n c i X M) : ∃ j Y N, f_R_step_14 X = some Y ∧ f_M_goOn_0 M = some N ∧ Tk T n c j Y N ∧ SX X Y ∧ OnH M N ∧ i ≤ j ∧ (srS T n (sqS T n i) ≠ 0 → i < j) := by
  have hc := h
  obtain ⟨h1, h2, h3, h4, h5, h6, h7, h8, h9⟩ := h
  obtain ⟨k1, k2, k3⟩ := hc.at
  have sb := sr_b (T := T) (n := n) (s := sqS T n i)
  have c600 := h2.1
  obtain ⟨N, n1, n2, n3⟩ := M_goOn (p := enS T n (sqS T n i)) h1 (en_le (sq_le i)) h7 h8.1 h8.2.2.1 h9
  have c0 : (iI (srS T n (sqS T n i)) = 0) ↔ srS T n (sqS T n i) = 0 := by rw [l0]; exact iI_eq (by omega) (by omega) (by omega) (by omega)
  have nf : ∀ j, j ≠ 6 → j ≠ 9 → j ≠ 10 → j ≠ 11 → j ≠ 12 → N.1 0 j = M.1 0 j := n3.2.1
  have e0 : f_R_step_14 X = if iI (srS T n (sqS T n i)) = 0 then some X else if 600 ≤ iI (i : Int) then some X else some (u1 X 14 2 (iI ((i + 1 : Nat) : Int))) := by
    unfold f_R_step_14
    rw [hc.rd28, Option.bind_some, h4, Option.bind_some, show iI (i : Int) + 1 = iI ((i + 1 : Nat) : Int) by rw [l1, iI_add]; rfl]
  by_cases e : srS T n (sqS T n i) = 0
  · rw [if_pos (c0.mpr e)] at e0
    have sn : sqS T n i = n := by have := sq_le (T := T) (n := n) i; omega
    have nx : rnE isSp T n (enS T n (sqS T n i)) = sqS T n i := (sq_n sn).trans sn.symm
    rw [nx] at n2
    exact ⟨i, X, N, e0, n1, ⟨h1, h2, h3, h4, h5, h6, n3.tap h7, n2, by rw [nf 7 (by decide) (by decide) (by decide) (by decide) (by decide)]; exact h9⟩, SX.rf, n3.h, Nat.le_refl i, fun q => absurd e q⟩
  · obtain ⟨q1, q2, q3⟩ := k3 e
    have c1 : ¬ (600 ≤ iI (i : Int)) := by rw [show (600 : Int32) = iI 600 from rfl, iI_le (by omega) (by omega) (by omega) (by omega)]; omega
    rw [if_neg (fun q => e (c0.mp q)), if_neg c1] at e0
    refine ⟨i + 1, _, N, e0, n1, ⟨h1, h2.fr (fun q a b => u1_ne (by omega)), by omega, u1_self _ _ _ _, by rw [u1_s _ _ _ _ (by decide)]; exact h5, fun q hq => by rw [u1_ne (by decide)]; exact h6 q hq, n3.tap h7, n2, by rw [nf 7 (by decide) (by decide) (by decide) (by decide) (by decide)]; exact h9⟩, SX.u (by decide), n3.h, by omega, fun _ => by omega⟩
theorem Tk.blame {T : Nat → Int} {n c i : Nat} {X M : Mm} (h : Tk T n c i X M) (v : Int) (h1 : 1 ≤ v) (h2 : v ≤ 5) : ∃ Y N, f_R_blame_14 (iI v) X = some (0, Y) ∧ f_M_flaw_0 (iI v) M = some N ∧ Fl T n c Y N ∧ SX X Y ∧ OnH M N := by
  obtain ⟨a1, a2, a3, a4, a5, a6, a7, a8, a9⟩ := h
  refine ⟨u1 X 14 4 (iI v), u1 (u1 M 0 7 (iI v)) 0 8 (iI (sqS T n i : Int)), rfl, ?_, ⟨v, i, h1, h2, u1_self _ _ _ _, by rw [u1_s _ _ _ _ (by decide), u1_self], a3, by rw [u1_s _ _ _ _ (by decide)]; exact a4, u1_self _ _ _ _, a2.fr (fun q a b => u1_ne (by omega))⟩, SX.u (by decide), ⟨fun q hq => by rw [u1_ne hq, u1_ne hq], fun j hj => by rw [u1_s _ _ _ _ (by omega), u1_s _ _ _ _ (by omega)], fun q _ => rfl⟩⟩
  unfold f_M_flaw_0
  rw [a9, if_pos (Int32.le_refl 0), Option.bind_some, Option.bind_some, u1_s _ _ _ _ (by decide), a8.2.1]
theorem Tk.sort {T : Nat → Int} {n c i : Nat} {X M : Mm} (h : Tk T n c i X M) (k : Int) (h1 : 0 ≤ k) (h2 : k ≤ 5) : (srS T n (sqS T n i) = k ∧ f_R_isSort_14 (iI k) X = some 1) ∨ (srS T n (sqS T n i) ≠ k ∧ f_R_isSort_14 (iI k) X = some 0) := by
  have sb := sr_b (T := T) (n := n) (s := sqS T n i)
  have c0 : (iI (srS T n (sqS T n i)) = iI k) ↔ srS T n (sqS T n i) = k := iI_eq (by omega) (by omega) (by omega) (by omega)
  unfold f_R_isSort_14
  rw [h.rd28, Option.bind_some]
  by_cases e : srS T n (sqS T n i) = k
  · exact Or.inl ⟨e, if_pos (c0.mpr e)⟩
  · exact Or.inr ⟨e, if_neg (fun q => e (c0.mp q))⟩
/-- letters of a word -/
theorem sr_1 {T : Nat → Int} {n s : Nat} (h : srS T n s = 1) : s < n ∧ enS T n s - s ≤ 6 ∧ s < enS T n s ∧ enS T n s ≤ n ∧ ∀ j, j < enS T n s - s → 0 ≤ ltS T s j ∧ ltS T s j ≤ 25 := by
  have hs : s < n := by
    have := sr_b (T := T) (n := n) (s := s)
    omega
  have eL : isLt (T s) = true := by
    apply Classical.byContradiction
    intro q
    unfold srS at h
    rw [if_pos hs, if_neg q] at h
    split at h
    · split at h <;> omega
    · split at h
      · omega
      · split at h <;> omega
  have en : enS T n s = rnE isLt T n s := by unfold enS; rw [if_pos hs, if_pos eL]
  refine ⟨hs, ?_, en_gt hs, en_le (Nat.le_of_lt hs), fun j hj => ?_⟩
  · unfold srS at h
    rw [if_pos hs, if_pos eL] at h
    apply Classical.byContradiction
    intro q
    rw [if_neg q] at h
    omega
  · have := rn_in (P := isLt) (T := T) (n := n) (p := s) (q := s + j) (by omega) (by rw [← en]; omega)
    unfold isLt at this
    rw [decide_eq_true_eq] at this
    unfold ltS
    omega
theorem sr_2 {T : Nat → Int} {n s : Nat} (h : srS T n s = 2) : s < n ∧ enS T n s - s ≤ 4 ∧ ∀ j, j < enS T n s - s → 48 ≤ T (s + j) ∧ T (s + j) ≤ 57 := by
  have hs : s < n := by
    have := sr_b (T := T) (n := n) (s := s)
    omega
  have eL : ¬ isLt (T s) = true := by
    intro q
    unfold srS at h
    rw [if_pos hs, if_pos q] at h
    split at h <;> omega
  have eD : isDg (T s) = true := by
    apply Classical.byContradiction
    intro q
    unfold srS at h
    rw [if_pos hs, if_neg eL, if_neg q] at h
    split at h
    · omega
    · split at h <;> omega
  have en : enS T n s = rnE isDg T n s := by unfold enS; rw [if_pos hs, if_neg eL, if_pos eD]
  refine ⟨hs, ?_, fun j hj => ?_⟩
  · unfold srS at h
    rw [if_pos hs, if_neg eL, if_pos eD] at h
    apply Classical.byContradiction
    intro q
    rw [if_neg q] at h
    omega
  · have := rn_in (P := isDg) (T := T) (n := n) (p := s) (q := s + j) (by omega) (by rw [← en]; omega)
    unfold isDg at this
    rw [decide_eq_true_eq] at this
    exact this
theorem nu_b {T : Nat → Int} {s z : Nat} (h : ∀ j, j < z → 48 ≤ T (s + j) ∧ T (s + j) ≤ 57) : ∀ k, k ≤ z → 0 ≤ nuN T s k ∧ nuN T s k < 10 ^ k
  | 0, _ => ⟨Int.le_refl _, (by decide : (0 : Int) < 10 ^ 0)⟩
  | k + 1, hk => by
    have a := nu_b h k (by omega)
    have b := h k (by omega)
    have p : (10 : Int) ^ (k + 1) = 10 ^ k * 10 := Int.pow_succ 10 k
    show 0 ≤ 10 * nuN T s k + T (s + k) - 48 ∧ 10 * nuN T s k + T (s + k) - 48 < 10 ^ (k + 1)
    omega
theorem nu_b4 {T : Nat → Int} {n s : Nat} (h : srS T n s = 2) : 0 ≤ nuN T s (enS T n s - s) ∧ nuN T s (enS T n s - s) ≤ 9999 := by
  obtain ⟨a, b, c⟩ := sr_2 h
  have q := nu_b c _ (Nat.le_refl _)
  have e : enS T n s - s = 0 ∨ enS T n s - s = 1 ∨ enS T n s - s = 2 ∨ enS T n s - s = 3 ∨ enS T n s - s = 4 := by omega
  have p0 : (10 : Int) ^ 0 = 1 := by decide
  have p1 : (10 : Int) ^ 1 = 10 := by decide
  have p2 : (10 : Int) ^ 2 = 100 := by decide
  have p3 : (10 : Int) ^ 3 = 1000 := by decide
  have p4 : (10 : Int) ^ 4 = 10000 := by decide
  rcases e with e | e | e | e | e <;> rw [e] at q ⊢ <;> omega
theorem M_wordOf {w : Nat} (hw : w < 12) : f_M_wordOf (w + 1) = some (jI (wdS (kc w) (kl w))) := by
  have kb := kl_b w hw
  have ln : sln (w + 1) = some (iI (kl w : Int)) := by
    unfold sln
    rw [if_pos (by omega), kw_l w hw, nI_iI]
  have sc : ∀ j : Nat, j < kl w → sch (w + 1) (iI (j : Int)) = some (iI (kc w j + 97)) := fun j hj => by
    unfold sch
    have hz0 : (0 : Int32) ≤ iI (j : Int) := (iI_le (a := 0) (by omega) (by omega) (by omega) (by omega)).mpr (by omega)
    have hc : (iI (j : Int)).toNatClampNeg = j := by rw [iI_clamp (by omega) (by omega)]; omega
    rw [hc, kw_l w hw, if_pos ⟨by omega, hz0, hj⟩, kw_M w hw j hj]
  have loop := loop_up (σ := Int64 × Int32) (γ := Option Int64) (fun f s => lp_M_wordOf_4 f (w + 1) s.1 s.2) (kl w) (fun i s => s.1 = jI (wdS (kc w) i) ∧ s.2 = iI (i : Int)) (fun s => some s.1) ?_ ?_ FW (FW_gt (by omega)) (0, iI 0) ⟨rfl, rfl⟩
  · obtain ⟨⟨x, y⟩, ⟨e1, -⟩, ev⟩ := loop
    dsimp only at e1
    unfold f_M_wordOf
    rw [l0]
    exact ev.trans (by rw [e1])
  · rintro f i ⟨x, y⟩ hi ⟨ex, ey⟩
    dsimp only at ex ey
    subst ex; subst ey
    have c0 : ¬ (iI (kl w : Int) ≤ iI (i : Int)) := by rw [iI_le (by omega) (by omega) (by omega) (by omega)]; omega
    have cb := kc_b w hw i (by omega)
    refine ⟨(jI (wdS (kc w) (i + 1)), iI ((i + 1 : Nat) : Int)), ?_, rfl, rfl⟩
    show blp_M_wordOf_4 (lp_M_wordOf_4 f) (w + 1) _ _ = lp_M_wordOf_4 f _ _ _
    unfold blp_M_wordOf_4
    rw [ln, Option.bind_some, if_neg c0, sc i hi, Option.bind_some, Option.bind_some, i64' (by omega) (by omega), show (32 : Int64) = jI 32 from rfl, show (97 : Int64) = jI 97 from rfl, show (1 : Int64) = jI 1 from rfl, jI_mul, jI_add, jI_sub, jI_add, show iI (i : Int) + 1 = iI ((i + 1 : Nat) : Int) by rw [l1, iI_add]; rfl]
    congr 2
    show _ = wdS (kc w) i * 32 + kc w i + 1
    omega
  · rintro f ⟨x, y⟩ ⟨ex, ey⟩
    dsimp only at ex ey
    subst ex; subst ey
    show blp_M_wordOf_4 (lp_M_wordOf_4 f) (w + 1) _ _ = _
    unfold blp_M_wordOf_4
    rw [ln, Option.bind_some, if_pos (Int32.le_refl _)]
def wdP (T : Nat → Int) (n s w : Nat) : Prop := srS T n s = 1 ∧ kwS T s (enS T n s - s) = w
theorem tk_2 {z : Int} (h1 : 0 ≤ z) (h2 : z ≤ 5) : (iI (tkM z) = 2 ↔ z = 1) ∧ (iI (tkM z) = 3 ↔ z = 2) ∧ (iI (tkM z) = 4 ↔ z = 3 ∨ z = 4) ∧ (iI (tkM z) = 1 ↔ z = 0) := by
  have q : z = 0 ∨ z = 1 ∨ z = 2 ∨ z = 3 ∨ z = 4 ∨ z = 5 := by omega
  rcases q with rfl | rfl | rfl | rfl | rfl | rfl <;> decide
theorem Tk.isw {T : Nat → Int} {n c i : Nat} {X M : Mm} (h : Tk T n c i X M) {w : Nat} (hw : w < 12) : (wdP T n (sqS T n i) w ∧ f_R_isWord_14 (iI (w : Int)) X = some 1 ∧ f_M_isWord_0 (w + 1) M = some 1) ∨ (¬ wdP T n (sqS T n i) w ∧ f_R_isWord_14 (iI (w : Int)) X = some 0 ∧ f_M_isWord_0 (w + 1) M = some 0) := by
  have hc := h
  obtain ⟨h1, h2, h3, h4, h5, h6, h7, h8, h9⟩ := h
  have sb := sr_b (T := T) (n := n) (s := sqS T n i)
  have c6 := h2.1
  unfold f_R_isWord_14 f_M_isWord_0 wdP
  rw [hc.rd28, Option.bind_some, h9, if_pos rfl, h8.2.2.2.1]
  have t2 := (tk_2 sb.1 sb.2.1).1
  have c1 : (iI (srS T n (sqS T n i)) = 1) ↔ srS T n (sqS T n i) = 1 := by rw [l1]; exact iI_eq (by omega) (by omega) (by omega) (by omega)
  by_cases e : srS T n (sqS T n i) = 1
  · have lo := sr_1 e
    obtain ⟨-, -, q3⟩ := hc.at
    obtain ⟨q4, q5, q6⟩ := q3 (by omega)
    have v := q6.2.2.2.1 e
    have kle := kw_le (T := T) (s := sqS T n i) (z := enS T n (sqS T n i) - sqS T n i)
    have cw : (iI (kwS T (sqS T n i) (enS T n (sqS T n i) - sqS T n i) : Int) = iI (w : Int)) ↔ kwS T (sqS T n i) (enS T n (sqS T n i) - sqS T n i) = w := by rw [iI_eq (by omega) (by omega) (by omega) (by omega)]; omega
    have kb := kl_b w hw
    have b1 := wd_b6 lo.2.1 lo.2.2.2.2 _ (Nat.le_refl _)
    have b2 := wd_b6 (l := kc w) (z := kl w) (by omega) (fun j hj => kc_b w hw j (by omega)) _ (Nat.le_refl _)
    have cm : (lg_cmp (M.2 0 13) (jI (wdS (kc w) (kl w))) = 0) ↔ kwS T (sqS T n i) (enS T n (sqS T n i) - sqS T n i) = w := by
      rw [h8.2.2.2.2.1 e, lg_eq, jI_eq (by omega) (by omega) (by omega) (by omega), wd_inj _ _ lo.2.2.2.2 (fun j hj => kc_b w hw j (by omega)), kw_iff hw]
      exact Iff.rfl
    rw [if_pos (c1.mpr e), if_pos (t2.mpr e), h4, rdK (by omega), Option.bind_some, v, M_wordOf hw, Option.bind_some]
    by_cases k : kwS T (sqS T n i) (enS T n (sqS T n i) - sqS T n i) = w
    · exact Or.inl ⟨⟨e, k⟩, if_pos (cw.mpr k), if_pos (cm.mpr k)⟩
    · exact Or.inr ⟨fun q => k q.2, if_neg (fun q => k (cw.mp q)), if_neg (fun q => k (cm.mp q))⟩
  · rw [if_neg (fun q => e (c1.mp q)), if_neg (fun q => e (t2.mp q))]
    exact Or.inr ⟨fun q => e q.1, rfl, rfl⟩
theorem Tk.own {T : Nat → Int} {n c i : Nat} {X M : Mm} (h : Tk T n c i X M) (e : srS T n (sqS T n i) = 1) : (kwS T (sqS T n i) (enS T n (sqS T n i) - sqS T n i) = 12 ∧ f_R_isWord_14 12 X = some 1 ∧ f_M_isOwn_0 M = some 0) ∨ (kwS T (sqS T n i) (enS T n (sqS T n i) - sqS T n i) ≠ 12 ∧ f_R_isWord_14 12 X = some 0 ∧ f_M_isOwn_0 M = some 1) := by
  have kle := kw_le (T := T) (s := sqS T n i) (z := enS T n (sqS T n i) - sqS T n i)
  have iw : ∀ w, w < 12 → f_M_isWord_0 (w + 1) M = some (if kwS T (sqS T n i) (enS T n (sqS T n i) - sqS T n i) = w then 1 else 0) := fun w hw => by
    rcases h.isw hw with ⟨a, -, b⟩ | ⟨a, -, b⟩
    · rw [b, if_pos a.2]
    · rw [b, if_neg (fun q => a ⟨e, q⟩)]
  have xw : f_R_isWord_14 12 X = some (if kwS T (sqS T n i) (enS T n (sqS T n i) - sqS T n i) = 12 then 1 else 0) := by
    obtain ⟨-, -, q3⟩ := h.at
    obtain ⟨q4, q5, q6⟩ := q3 (by omega)
    have c6 := h.2.1.1
    have c1 : iI (srS T n (sqS T n i)) = 1 := by rw [e, l1]
    have cw : (iI (kwS T (sqS T n i) (enS T n (sqS T n i) - sqS T n i) : Int) = 12) ↔ kwS T (sqS T n i) (enS T n (sqS T n i) - sqS T n i) = 12 := by rw [show (12 : Int32) = iI 12 from rfl, iI_eq (by omega) (by omega) (by omega) (by omega)]; omega
    unfold f_R_isWord_14
    rw [h.rd28, Option.bind_some, if_pos c1, h.2.2.2.1, rdK (by omega), Option.bind_some, q6.2.2.2.1 e]
    by_cases k : kwS T (sqS T n i) (enS T n (sqS T n i) - sqS T n i) = 12
    · rw [if_pos k, if_pos (cw.mpr k)]
    · rw [if_neg k, if_neg (fun q => k (cw.mp q))]
  have mo : f_M_isOwn_0 M = some (if kwS T (sqS T n i) (enS T n (sqS T n i) - sqS T n i) = 12 then 0 else 1) := by
    unfold f_M_isOwn_0 j_M_isOwn_0_54 j_M_isOwn_0_59
    rw [iw 0 (by omega), iw 1 (by omega), iw 2 (by omega), iw 3 (by omega), iw 4 (by omega), iw 5 (by omega), iw 6 (by omega), iw 7 (by omega), iw 8 (by omega), iw 9 (by omega), iw 10 (by omega), iw 11 (by omega)]
    generalize kwS T (sqS T n i) (enS T n (sqS T n i) - sqS T n i) = k at kle
    have q : k = 0 ∨ k = 1 ∨ k = 2 ∨ k = 3 ∨ k = 4 ∨ k = 5 ∨ k = 6 ∨ k = 7 ∨ k = 8 ∨ k = 9 ∨ k = 10 ∨ k = 11 ∨ k = 12 := by omega
    rcases q with rfl | rfl | rfl | rfl | rfl | rfl | rfl | rfl | rfl | rfl | rfl | rfl | rfl <;> rfl
  rw [xw, mo]
  by_cases k : kwS T (sqS T n i) (enS T n (sqS T n i) - sqS T n i) = 12
  · exact Or.inl ⟨k, by rw [if_pos k], by rw [if_pos k]⟩
  · exact Or.inr ⟨k, by rw [if_neg k], by rw [if_neg k]⟩
/-! the reference once a fault is found: nothing moves -/
def FM (M : Mm) : Prop := ∃ v : Int, 1 ≤ v ∧ v ≤ 5 ∧ M.1 0 7 = iI v
theorem Fl.m {T : Nat → Int} {n c : Nat} {X M : Mm} (h : Fl T n c X M) : FM M := by
  obtain ⟨v, i, a, b, -, d, -⟩ := h
  exact ⟨v, a, b, d⟩
theorem FM.c {M : Mm} (h : FM M) : ¬ (M.1 0 7 ≤ 0) ∧ ¬ (M.1 0 7 = 0) := by
  obtain ⟨v, a, b, d⟩ := h
  rw [d, l0, iI_le (by omega) (by omega) (by omega) (by omega), iI_eq (by omega) (by omega) (by omega) (by omega)]
  omega
theorem FM.goOn {M : Mm} (h : FM M) : f_M_goOn_0 M = some M := if_neg h.c.1
theorem FM.flaw {M : Mm} (h : FM M) (v : Int32) : f_M_flaw_0 v M = some M := if_neg h.c.1
theorem FM.isw {M : Mm} (h : FM M) (w : Nat) : f_M_isWord_0 w M = some 0 := if_neg h.c.2
theorem FM.sign {M : Mm} (h : FM M) (v : Int32) : f_M_isSign_0 v M = some 0 := if_neg h.c.2
theorem FM.needs {M : Mm} (h : FM M) (w : Nat) : f_M_needs_0 w M = some M := by
  unfold f_M_needs_0
  rw [h.isw, Option.bind_some, if_pos rfl, h.flaw, Option.bind_some, h.goOn, Option.bind_some]
theorem FM.passes {M : Mm} (h : FM M) (w : Nat) : f_M_passes_0 w M = some (0, M) := by
  unfold f_M_passes_0
  rw [h.isw, Option.bind_some, if_pos rfl]
theorem in_01 (a b c : Int32) : f_M_in a b c = some 0 ∨ f_M_in a b c = some 1 := by
  unfold f_M_in
  split
  · exact Or.inl rfl
  · split
    · exact Or.inl rfl
    · exact Or.inr rfl
theorem FM.whole {M : Mm} (h : FM M) (a b : Int32) : f_M_readWhole_0 a b M = some (M.1 0 12, M) := by
  unfold f_M_readWhole_0
  split
  · rcases in_01 (M.1 0 12) a b with e | e
    · rw [e, Option.bind_some, if_pos rfl, h.flaw, Option.bind_some, h.goOn, Option.bind_some]
    · rw [e, Option.bind_some, if_neg n10, h.goOn, Option.bind_some]
  · rw [h.flaw, Option.bind_some, h.goOn, Option.bind_some]
/-! wholes and words -/
theorem Tk.whole {T : Nat → Int} {n c i : Nat} {X M : Mm} (h : Tk T n c i X M) {a b : Int} (ha : 0 ≤ a) (hb : b ≤ 9999) (hab : a ≤ 9999) (hb0 : 0 ≤ b) : (∃ (j : Nat) (v : Int) (Y N : Mm), a ≤ v ∧ v ≤ b ∧ f_R_readWhole_14 (iI a) (iI b) X = some (iI v, Y) ∧ f_M_readWhole_0 (iI a) (iI b) M = some (iI v, N) ∧ Tk T n c j Y N ∧ SX X Y ∧ OnH M N ∧ i ≤ j) ∨ (∃ (r : Int32) (Y N : Mm), f_R_readWhole_14 (iI a) (iI b) X = some (-1, Y) ∧ f_M_readWhole_0 (iI a) (iI b) M = some (r, N) ∧ Fl T n c Y N ∧ SX X Y ∧ OnH M N) := by
  have hc := h
  obtain ⟨h1, h2, h3, h4, h5, h6, h7, h8, h9⟩ := h
  have sb := sr_b (T := T) (n := n) (s := sqS T n i)
  have c6 := h2.1
  unfold f_R_readWhole_14 f_M_readWhole_0
  have t3 := (tk_2 sb.1 sb.2.1).2.1
  rw [h8.2.2.2.1, l2]
  rcases hc.sort 2 (by omega) (by omega) with ⟨e, s⟩ | ⟨e, s⟩
  · obtain ⟨-, -, q3⟩ := hc.at
    obtain ⟨q4, q5, q6⟩ := q3 (by omega)
    have nb := nu_b4 e
    have v := q6.2.2.2.2 e
    have mv := h8.2.2.2.2.2.1 e
    rw [s, Option.bind_some, if_neg n10, if_pos (t3.mpr e), h4, rdK (by omega), Option.bind_some, v, mv]
    generalize nuN T (sqS T n i) (enS T n (sqS T n i) - sqS T n i) = z at nb v mv
    have ca : (iI z < iI a) ↔ z < a := iI_lt (by omega) (by omega) (by omega) (by omega)
    have cb : (iI z ≤ iI b) ↔ z ≤ b := iI_le (by omega) (by omega) (by omega) (by omega)
    have cb2 : (iI b < iI z) ↔ b < z := iI_lt (by omega) (by omega) (by omega) (by omega)
    unfold f_M_in
    by_cases e1 : z < a
    · right
      obtain ⟨Y, N, y1, y2, y3, y4, y5⟩ := hc.blame 2 (by omega) (by omega)
      rw [← l2] at y1 y2
      rw [if_pos (ca.mpr e1), ← l2, y1, Option.bind_some, if_pos (ca.mpr e1), Option.bind_some, if_pos rfl, y2, Option.bind_some, y3.m.goOn, Option.bind_some]
      exact ⟨_, Y, N, rfl, rfl, y3, y4, y5⟩
    · rw [if_neg (fun q => e1 (ca.mp q)), if_neg (fun q => e1 (ca.mp q))]
      by_cases e2 : z ≤ b
      · left
        obtain ⟨j, Y, N, y1, y2, y3, y4, y5, y6, -⟩ := hc.step
        rw [if_pos (cb.mpr e2), y1, Option.bind_some, if_neg (fun q => by have := cb2.mp q; omega), Option.bind_some, if_neg n10, y2, Option.bind_some]
        exact ⟨j, z, Y, N, by omega, e2, rfl, rfl, y3, y4, y5, y6⟩
      · right
        obtain ⟨Y, N, y1, y2, y3, y4, y5⟩ := hc.blame 2 (by omega) (by omega)
        rw [← l2] at y1 y2
        rw [if_neg (fun q => e2 (cb.mp q)), ← l2, y1, Option.bind_some, if_pos (cb2.mpr (by omega)), Option.bind_some, if_pos rfl, y2, Option.bind_some, y3.m.goOn, Option.bind_some]
        exact ⟨_, Y, N, rfl, rfl, y3, y4, y5⟩
  · right
    obtain ⟨Y, N, y1, y2, y3, y4, y5⟩ := hc.blame 1 (by omega) (by omega)
    rw [← l1] at y1 y2
    rw [s, Option.bind_some, if_pos rfl, y1, Option.bind_some, if_neg (fun q => e (t3.mp q)), y2, Option.bind_some, y3.m.goOn, Option.bind_some]
    exact ⟨_, Y, N, rfl, rfl, y3, y4, y5⟩
theorem zr_0 : zr 0 = some 0 := rfl
theorem Tk.word {T : Nat → Int} {n c i : Nat} {X M : Mm} (h : Tk T n c i X M) {w : Nat} (hw : w < 12) : (∃ (j : Nat) (Y N : Mm), f_R_readWord_14 (iI (w : Int)) X = some (1, Y) ∧ f_M_needs_0 (w + 1) M = some N ∧ Tk T n c j Y N ∧ SX X Y ∧ OnH M N ∧ i ≤ j) ∨ (∃ (Y N : Mm), f_R_readWord_14 (iI (w : Int)) X = some (0, Y) ∧ f_M_needs_0 (w + 1) M = some N ∧ Fl T n c Y N ∧ SX X Y ∧ OnH M N) := by
  unfold f_R_readWord_14 f_M_needs_0
  rcases h.isw hw with ⟨e, s1, s2⟩ | ⟨e, s1, s2⟩
  · left
    obtain ⟨j, Y, N, y1, y2, y3, y4, y5, y6, -⟩ := h.step
    rw [s1, s2, Option.bind_some, Option.bind_some, if_neg n10, if_neg n10, y1, y2, Option.bind_some, Option.bind_some]
    exact ⟨j, Y, N, rfl, rfl, y3, y4, y5, y6⟩
  · right
    obtain ⟨Y, N, y1, y2, y3, y4, y5⟩ := h.blame 1 (by omega) (by omega)
    rw [← l1] at y1 y2
    rw [s1, s2, Option.bind_some, Option.bind_some, if_pos rfl, if_pos rfl, y1, y2, Option.bind_some, Option.bind_some, zr_0, Option.bind_some, y3.m.goOn, Option.bind_some]
    exact ⟨Y, N, rfl, rfl, y3, y4, y5⟩

/-! the class's scan -/
theorem u1_self (M : Mm) (k i : Nat) (x : Int32) : (u1 M k i x).1 k i = x := by rw [u1_at, if_pos ⟨rfl, rfl⟩]
def TapX (T : Nat → Int) (X : Mm) : Prop := ∀ q, q < 600 → -128 ≤ T q ∧ T q ≤ 127 ∧ X.1 1 q = iI (T q)
theorem TapX.rd {T : Nat → Int} {X : Mm} (h : TapX T X) {q : Nat} (hq : q < 600) {z : Int} (hz : z = q) : rd (X.1 1) 600 (iI z) = some (iI (T q)) := by
  subst hz
  rw [rd_iI (by omega) (by omega) (by omega), Int.toNat_natCast, (h q hq).2.2]
theorem X_isLt {T : Nat → Int} {X : Mm} (h : TapX T X) {q : Nat} (hq : q < 600) : f_K_isLetter_27 (iI (q : Int)) X = some (if isLt (T q) = true then 1 else 0) := by
  obtain ⟨a, b, -⟩ := h q hq
  unfold f_K_isLetter_27 isLt
  have c1 : (iI (T q) < 97) ↔ T q < 97 := by rw [show (97 : Int32) = iI 97 from rfl]; exact iI_lt (by omega) (by omega) (by omega) (by omega)
  have c2 : (122 < iI (T q)) ↔ 122 < T q := by rw [show (122 : Int32) = iI 122 from rfl]; exact iI_lt (by omega) (by omega) (by omega) (by omega)
  rw [h.rd hq rfl, Option.bind_some, Option.bind_some]
  by_cases e1 : T q < 97
  · rw [if_pos (c1.mpr e1), if_neg (by rw [decide_eq_true_eq]; omega)]
  · rw [if_neg (fun z => e1 (c1.mp z))]
    by_cases e2 : 122 < T q
    · rw [if_pos (c2.mpr e2), if_neg (by rw [decide_eq_true_eq]; omega)]
    · rw [if_neg (fun z => e2 (c2.mp z)), if_pos (by rw [decide_eq_true_eq]; omega)]
theorem X_isDg {T : Nat → Int} {X : Mm} (h : TapX T X) {q : Nat} (hq : q < 600) : f_K_isDigit_27 (iI (q : Int)) X = some (if isDg (T q) = true then 1 else 0) := by
  obtain ⟨a, b, -⟩ := h q hq
  unfold f_K_isDigit_27 isDg
  have c1 : (iI (T q) < 48) ↔ T q < 48 := by rw [show (48 : Int32) = iI 48 from rfl]; exact iI_lt (by omega) (by omega) (by omega) (by omega)
  have c2 : (57 < iI (T q)) ↔ 57 < T q := by rw [show (57 : Int32) = iI 57 from rfl]; exact iI_lt (by omega) (by omega) (by omega) (by omega)
  rw [h.rd hq rfl, Option.bind_some, Option.bind_some]
  by_cases e1 : T q < 48
  · rw [if_pos (c1.mpr e1), if_neg (by rw [decide_eq_true_eq]; omega)]
  · rw [if_neg (fun z => e1 (c1.mp z))]
    by_cases e2 : 57 < T q
    · rw [if_pos (c2.mpr e2), if_neg (by rw [decide_eq_true_eq]; omega)]
    · rw [if_neg (fun z => e2 (c2.mp z)), if_pos (by rw [decide_eq_true_eq]; omega)]
theorem X_word1 {T : Nat → Int} {X : Mm} {n : Nat} {x1 x2 : Int32} (h : TapX T X) (hl : X.1 27 5 = iI n) (hn : n ≤ 600) : ∀ k p f, n - p = k → p ≤ n → k < f → lp_K_scanWord_27_2 f x1 x2 (iI (p : Int)) X = j_K_scanWord_27_24 x1 x2 (iI (rnE isLt T n p : Int)) X := by
  intro k
  induction k with
  | zero =>
    intro p f hk hp hf
    obtain ⟨f, rfl⟩ : ∃ g, f = g + 1 := ⟨f - 1, by omega⟩
    show blp_K_scanWord_27_2 (lp_K_scanWord_27_2 f) _ _ _ X = _
    unfold blp_K_scanWord_27_2
    have c0 : iI (n : Int) ≤ iI (p : Int) := (iI_le (by omega) (by omega) (by omega) (by omega)).mpr (by omega)
    rw [hl, if_pos c0, rn_no (fun q => by omega)]
  | succ k ih =>
    intro p f hk hp hf
    obtain ⟨f, rfl⟩ : ∃ g, f = g + 1 := ⟨f - 1, by omega⟩
    show blp_K_scanWord_27_2 (lp_K_scanWord_27_2 f) _ _ _ X = _
    unfold blp_K_scanWord_27_2
    have c0 : ¬ (iI (n : Int) ≤ iI (p : Int)) := by rw [iI_le (by omega) (by omega) (by omega) (by omega)]; omega
    rw [hl, if_neg c0, X_isLt h (by omega), Option.bind_some]
    by_cases e : isLt (T p) = true
    · rw [if_pos e, if_neg n10, rn_go (by omega) e, show iI (p : Int) + 1 = iI ((p + 1 : Nat) : Int) by rw [l1, iI_add]; rfl]
      exact ih (p + 1) f (by omega) (by omega) (by omega)
    · rw [if_neg e, if_pos rfl, rn_no (fun q => e q.2)]
theorem X_whole1 {T : Nat → Int} {X : Mm} {n s : Nat} {x1 : Int32} (h : TapX T X) (hl : X.1 27 5 = iI n) (hn : n ≤ 600) : ∀ k p f, n - p = k → s ≤ p → p ≤ n → k < f → lp_K_scanWhole_27_5 f x1 (iI (s : Int)) (iI (p : Int)) (iI (nuN T s (p - s))) X = j_K_scanWhole_27_44 x1 (iI (s : Int)) (iI (rnE isDg T n p : Int)) (iI (nuN T s (rnE isDg T n p - s))) X := by
  intro k
  induction k with
  | zero =>
    intro p f hk hs hp hf
    obtain ⟨f, rfl⟩ : ∃ g, f = g + 1 := ⟨f - 1, by omega⟩
    show blp_K_scanWhole_27_5 (lp_K_scanWhole_27_5 f) _ _ _ _ X = _
    unfold blp_K_scanWhole_27_5
    have c0 : iI (n : Int) ≤ iI (p : Int) := (iI_le (by omega) (by omega) (by omega) (by omega)).mpr (by omega)
    rw [hl, if_pos c0, rn_no (fun q => by omega)]
  | succ k ih =>
    intro p f hk hs hp hf
    obtain ⟨f, rfl⟩ : ∃ g, f = g + 1 := ⟨f - 1, by omega⟩
    show blp_K_scanWhole_27_5 (lp_K_scanWhole_27_5 f) _ _ _ _ X = _
    unfold blp_K_scanWhole_27_5
    have c0 : ¬ (iI (n : Int) ≤ iI (p : Int)) := by rw [iI_le (by omega) (by omega) (by omega) (by omega)]; omega
    rw [hl, if_neg c0, X_isDg h (by omega), Option.bind_some]
    by_cases e : isDg (T p) = true
    · rw [if_pos e, if_neg n10, rn_go (by omega) e, h.rd (q := p) (by omega) rfl, Option.bind_some, show iI (p : Int) + 1 = iI ((p + 1 : Nat) : Int) by rw [l1, iI_add]; rfl]
      have nu : nuN T s (p + 1 - s) = 10 * nuN T s (p - s) + T p - 48 := by
        rw [show p + 1 - s = (p - s) + 1 by omega]
        show 10 * nuN T s (p - s) + T (s + (p - s)) - 48 = _
        rw [show s + (p - s) = p by omega]
      rw [show (10 : Int32) = iI 10 from rfl, show (48 : Int32) = iI 48 from rfl, iI_mul, iI_add, iI_sub, ← nu]
      exact ih (p + 1) f (by omega) (by omega) (by omega) (by omega)
    · rw [if_neg e, if_pos rfl, rn_no (fun q => e q.2)]
/-- what stands in the token rows at i -/
def TokAt (T : Nat → Int) (n i s : Nat) (X : Mm) : Prop := X.1 28 i = iI (srS T n s) ∧ X.1 29 i = iI (s : Int) ∧ X.1 30 i = iI ((enS T n s - s : Nat) : Int) ∧ (srS T n s = 1 → X.1 31 i = iI (kwS T s (enS T n s - s) : Int)) ∧ (srS T n s = 2 → X.1 31 i = iI (nuN T s (enS T n s - s)))
def OnK (i : Nat) (X Y : Mm) : Prop := (∀ q, q < 28 ∨ 31 < q → Y.1 q = X.1 q) ∧ ∀ q j, j ≠ i → Y.1 q j = X.1 q j
theorem OnK.rf {i : Nat} {X : Mm} : OnK i X X := ⟨fun _ _ => rfl, fun _ _ _ => rfl⟩
theorem OnK.u {i q : Nat} {X Y : Mm} {x : Int32} (h : OnK i X Y) (h1 : 28 ≤ q) (h2 : q ≤ 31) : OnK i X (u1 Y q i x) := ⟨fun r hr => by rw [u1_ne (by omega)]; exact h.1 r hr, fun r j hj => by rw [u1_at, if_neg (fun z => hj z.2)]; exact h.2 r j hj⟩
theorem OnK.tp {i : Nat} {X Y : Mm} {T : Nat → Int} (h : OnK i X Y) (ht : TapX T X) : TapX T Y := fun q hq => by rw [h.1 1 (by omega)]; exact ht q hq
theorem wrK {X : Mm} {k i : Nat} {x : Int32} (hi : i ≤ 600) : wr X k 601 (iI (i : Int)) x = some (u1 X k i x) := by rw [wr_iI (by omega) (by omega) (by omega), Int.toNat_natCast]
theorem rdK {X : Mm} {k i : Nat} (hi : i ≤ 600) : rd (X.1 k) 601 (iI (i : Int)) = some (X.1 k i) := by rw [rd_iI (by omega) (by omega) (by omega), Int.toNat_natCast]
theorem X_spl {T : Nat → Int} {X : Mm} {s z w : Nat} (h : TapX T X) (hw : w < 12) (hz : s + z ≤ 600) (hL : ∀ j, j < z → isLt (T (s + j)) = true) : (spl T s z w ∧ f_K_isSpelled_27 (iI (s : Int)) (iI (z : Int)) (iI (6 * (w : Int))) X = some 1) ∨ (¬ spl T s z w ∧ f_K_isSpelled_27 (iI (s : Int)) (iI (z : Int)) (iI (6 * (w : Int))) X = some 0) := by
  have kb := kl_b w hw
  have lb : ∀ j, j < z → 97 ≤ T (s + j) ∧ T (s + j) ≤ 122 := fun j hj => by have := hL j hj; unfold isLt at this; rw [decide_eq_true_eq] at this; exact this
  have sc : ∀ j : Nat, j < 6 → sch 0 (iI (6 * (w : Int) + j)) = some (iI (if j < kl w then kc w j + 97 else 32)) := fun j hj => by
    unfold sch
    have hz0 : (0 : Int32) ≤ iI (6 * (w : Int) + j) := (iI_le (a := 0) (by omega) (by omega) (by omega) (by omega)).mpr (by omega)
    have hc : (iI (6 * (w : Int) + j)).toNatClampNeg = 6 * w + j := by rw [iI_clamp (by omega) (by omega)]; omega
    rw [hc, if_pos ⟨by decide, hz0, by show 6 * w + j < 72; omega⟩, kw_X w hw j hj]
  have bt : ∀ j : Nat, j < 6 → (32 : Int) ≤ (if j < kl w then kc w j + 97 else 32) ∧ (if j < kl w then kc w j + 97 else 32) ≤ (122 : Int) := fun j hj => by
    have := kc_b w hw j hj
    split <;> omega
  have key : ∀ k j f : Nat, j + k = 6 → k < f → (∀ i, i < j → (if i < kl w then kc w i + 97 else 32) = (if i < z then T (s + i) else 32)) → ((∀ i, i < 6 → (if i < kl w then kc w i + 97 else 32) = (if i < z then T (s + i) else 32)) ∧ lp_K_isSpelled_27_3 f (iI (s : Int)) (iI (z : Int)) (iI (6 * (w : Int))) (iI (j : Int)) X = some 1) ∨ (¬ (∀ i, i < 6 → (if i < kl w then kc w i + 97 else 32) = (if i < z then T (s + i) else 32)) ∧ lp_K_isSpelled_27_3 f (iI (s : Int)) (iI (z : Int)) (iI (6 * (w : Int))) (iI (j : Int)) X = some 0) := by
    intro k
    induction k with
    | zero =>
      intro j f hj hf ha
      obtain ⟨f, rfl⟩ : ∃ g, f = g + 1 := ⟨f - 1, by omega⟩
      have : j = 6 := by omega
      subst this
      exact Or.inl ⟨ha, rfl⟩
    | succ k ih =>
      intro j f hj hf ha
      obtain ⟨f, rfl⟩ : ∃ g, f = g + 1 := ⟨f - 1, by omega⟩
      have c0 : ¬ (6 ≤ iI (j : Int)) := by rw [l6, iI_le (by omega) (by omega) (by omega) (by omega)]; omega
      have c1 : (iI (z : Int) ≤ iI (j : Int)) ↔ ¬ (j < z) := by rw [iI_le (by omega) (by omega) (by omega) (by omega)]; omega
      have b1 := bt j (by omega)
      have ev : lp_K_isSpelled_27_3 (f + 1) (iI (s : Int)) (iI (z : Int)) (iI (6 * (w : Int))) (iI (j : Int)) X = if iI (if j < kl w then kc w j + 97 else 32) = iI (if j < z then T (s + j) else 32) then lp_K_isSpelled_27_3 f (iI (s : Int)) (iI (z : Int)) (iI (6 * (w : Int))) (iI ((j + 1 : Nat) : Int)) X else some 0 := by
        show blp_K_isSpelled_27_3 (lp_K_isSpelled_27_3 f) _ _ _ _ X = _
        unfold blp_K_isSpelled_27_3 j_K_isSpelled_27_30
        rw [if_neg c0, iI_add, sc j (by omega), Option.bind_some, show iI (j : Int) + 1 = iI ((j + 1 : Nat) : Int) by rw [l1, iI_add]; rfl]
        by_cases e : j < z
        · rw [if_neg (fun q => c1.mp q e), iI_add, h.rd (q := s + j) (by omega) (by omega), Option.bind_some, Option.bind_some, if_pos e]
        · rw [if_pos (c1.mpr e), if_neg e]
          rfl
      rw [ev]
      have b2 : (32 : Int) ≤ (if j < z then T (s + j) else 32) ∧ (if j < z then T (s + j) else 32) ≤ (122 : Int) := by
        split
        · rename_i q; have := lb j q; omega
        · omega
      by_cases e : (if j < kl w then kc w j + 97 else 32) = (if j < z then T (s + j) else 32)
      · rw [if_pos (by rw [e])]
        exact ih (j + 1) f (by omega) (by omega) (fun i hi => by
          by_cases q : i = j
          · rw [q]; exact e
          · exact ha i (by omega))
      · rw [if_neg (fun q => e ((iI_eq (by omega) (by omega) (by omega) (by omega)).mp q))]
        exact Or.inr ⟨fun q => e (q j (by omega)), rfl⟩
  have iff : (∀ i, i < 6 → (if i < kl w then kc w i + 97 else 32) = (if i < z then T (s + i) else 32)) ↔ spl T s z w := by
    constructor
    · intro q
      have e : z = kl w := by
        rcases Nat.lt_trichotomy z (kl w) with g | g | g
        · have := q z (by omega)
          have := kc_b w hw z (by omega)
          rw [if_pos g, if_neg (Nat.lt_irrefl z)] at *
          omega
        · exact g
        · have a := q (kl w) (by omega)
          have := lb (kl w) g
          rw [if_neg (Nat.lt_irrefl _), if_pos g] at a
          omega
      refine ⟨e, fun j hj => ?_⟩
      have := q j (by omega)
      rw [if_pos (by omega), if_pos hj] at this
      unfold ltS
      omega
    · rintro ⟨e, q⟩ i hi
      by_cases g : i < z
      · have := q i g
        unfold ltS at this
        rw [if_pos (by omega), if_pos g]; omega
      · rw [if_neg (by omega), if_neg g]
  unfold f_K_isSpelled_27
  rw [l0]
  rcases key 6 0 FW (by omega) (FW_gt (by omega)) (fun i hi => absurd hi (by omega)) with ⟨a, b⟩ | ⟨a, b⟩
  · exact Or.inl ⟨iff.mp a, b⟩
  · exact Or.inr ⟨fun q => a (iff.mpr q), b⟩
theorem X_word2 {T : Nat → Int} {X : Mm} {i s z : Nat} (h : TapX T X) (hi : i ≤ 600) (hz : s + z ≤ 600) (hL : ∀ j, j < z → isLt (T (s + j)) = true) (h30 : X.1 30 i = iI (z : Int)) (h31 : X.1 31 i = iI 12) : ∃ Y, lp_K_scanWord_27_66 FW (iI (i : Int)) (iI (s : Int)) 0 X = some Y ∧ Y.1 31 i = iI (kwS T s z : Int) ∧ OnK i X Y ∧ (∀ q, q ≠ 31 → Y.1 q = X.1 q) := by
  have loop := loop_up (σ := Int32 × Mm) (γ := Option Mm) (fun f s' => lp_K_scanWord_27_66 f (iI (i : Int)) (iI (s : Int)) s'.1 s'.2) 12 (fun w s' => s'.1 = iI (w : Int) ∧ s'.2.1 31 i = iI (kwN T s z w : Int) ∧ OnK i X s'.2 ∧ (∀ q, q ≠ 31 → s'.2.1 q = X.1 q)) (fun s' => some s'.2) ?_ ?_ FW (FW_gt (by omega)) (iI 0, X) ⟨rfl, h31, OnK.rf, fun _ _ => rfl⟩
  · obtain ⟨⟨x, Y⟩, ⟨-, a, b, c⟩, ev⟩ := loop
    exact ⟨Y, by rw [l0]; exact ev, a, b, c⟩
  · rintro f w ⟨x, Y⟩ hw ⟨ex, a, b, c⟩
    dsimp only at ex a b c
    subst ex
    have c0 : ¬ (12 ≤ iI (w : Int)) := by rw [show (12 : Int32) = iI 12 from rfl, iI_le (by omega) (by omega) (by omega) (by omega)]; omega
    have ei : iI (w : Int) + 1 = iI ((w + 1 : Nat) : Int) := by rw [l1, iI_add]; rfl
    have ev : ∀ v : Int32, f_K_isSpelled_27 (iI (s : Int)) (iI (z : Int)) (iI (6 * (w : Int))) Y = some v → lp_K_scanWord_27_66 (f + 1) (iI (i : Int)) (iI (s : Int)) (iI (w : Int)) Y = if v = 0 then lp_K_scanWord_27_66 f (iI (i : Int)) (iI (s : Int)) (iI ((w + 1 : Nat) : Int)) Y else lp_K_scanWord_27_66 f (iI (i : Int)) (iI (s : Int)) (iI ((w + 1 : Nat) : Int)) (u1 Y 31 i (iI (w : Int))) := fun v hv => by
      show blp_K_scanWord_27_66 (lp_K_scanWord_27_66 f) _ _ _ Y = _
      unfold blp_K_scanWord_27_66 j_K_scanWord_27_100
      rw [if_neg c0, rdK hi, Option.bind_some, c 30 (by decide), h30, l6, iI_mul, hv, Option.bind_some, wrK hi, Option.bind_some, ei]
    rcases X_spl (b.tp h) hw hz hL with ⟨e1, e2⟩ | ⟨e1, e2⟩
    · refine ⟨(iI ((w + 1 : Nat) : Int), u1 Y 31 i (iI (w : Int))), by rw [ev _ e2, if_neg n10], rfl, ?_, b.u (by decide) (by decide), fun q hq => ?_⟩
      · show (u1 Y 31 i (iI (w : Int))).1 31 i = _
        rw [u1_at, if_pos ⟨rfl, rfl⟩, show kwN T s z (w + 1) = w from if_pos e1]
      · show (u1 Y 31 i (iI (w : Int))).1 q = _
        rw [u1_ne hq]; exact c q hq
    · refine ⟨(iI ((w + 1 : Nat) : Int), Y), by rw [ev _ e2, if_pos rfl], rfl, ?_, b, c⟩
      show Y.1 31 i = _
      rw [show kwN T s z (w + 1) = kwN T s z w from if_neg e1]; exact a
  · rintro f ⟨x, Y⟩ ⟨ex, a, b, c⟩
    dsimp only at ex a b c
    subst ex
    rfl
theorem X_token {T : Nat → Int} {X : Mm} {n i s : Nat} (h : TapX T X) (hl : X.1 27 5 = iI n) (hn : n ≤ 600) (hi : i ≤ 600) (hs : s < n) : ∃ Y, f_K_scanToken_27 (iI (i : Int)) (iI (s : Int)) X = some Y ∧ TokAt T n i s Y ∧ OnK i X Y := by
  unfold f_K_scanToken_27
  have o1 : OnK i X (u1 X 29 i (iI (s : Int))) := OnK.rf.u (by decide) (by decide)
  have t1 := o1.tp h
  have v29 : (u1 X 29 i (iI (s : Int))).1 29 i = iI (s : Int) := by rw [u1_at, if_pos ⟨rfl, rfl⟩]
  have l1' : (u1 X 29 i (iI (s : Int))).1 27 5 = iI n := by rw [u1_ne (by decide)]; exact hl
  rw [wrK hi, Option.bind_some]
  generalize u1 X 29 i (iI (s : Int)) = X1 at o1 t1 v29 l1'
  rw [X_isLt t1 (by omega), Option.bind_some]
  by_cases eL : isLt (T s) = true
  · rw [if_pos eL, if_neg n10]
    have en : enS T n s = rnE isLt T n s := by unfold enS; rw [if_pos hs, if_pos eL]
    have eg := en_gt (T := T) hs
    have ele := en_le (T := T) (Nat.le_of_lt hs)
    have hL : ∀ j, j < enS T n s - s → isLt (T (s + j)) = true := fun j hj => rn_in (P := isLt) (n := n) (p := s) (by omega) (by rw [← en]; omega)
    unfold f_K_scanWord_27
    rw [X_word1 t1 l1' hn (n - s) s FW rfl (by omega) (FW_gt (by omega)), ← en]
    unfold j_K_scanWord_27_24
    rw [iI_sub, show ((enS T n s : Nat) : Int) - (s : Int) = ((enS T n s - s : Nat) : Int) by omega, wrK hi, Option.bind_some, rdK hi, Option.bind_some, u1_self]
    have c6 : (6 < iI ((enS T n s - s : Nat) : Int)) ↔ ¬ (enS T n s - s ≤ 6) := by rw [l6, iI_lt (by omega) (by omega) (by omega) (by omega)]; omega
    have sr : srS T n s = if enS T n s - s ≤ 6 then 1 else 5 := by unfold srS; rw [if_pos hs, if_pos eL]
    have fin : ∀ t : Int, t = srS T n s → ∃ Y, j_K_scanWord_27_54 (iI (i : Int)) (iI (s : Int)) (iI t) (iI (i : Int)) (u1 X1 30 i (iI ((enS T n s - s : Nat) : Int))) = some Y ∧ TokAt T n i s Y ∧ OnK i X Y := by
      intro t ht
      unfold j_K_scanWord_27_54
      rw [wrK hi, Option.bind_some, wrK hi, Option.bind_some]
      have o2 : OnK i X (u1 (u1 (u1 X1 30 i (iI ((enS T n s - s : Nat) : Int))) 28 i (iI t)) 31 i 12) := ((o1.u (by decide) (by decide)).u (by decide) (by decide)).u (by decide) (by decide)
      obtain ⟨Y, y1, y2, y3, y4⟩ := X_word2 (T := T) (X := u1 (u1 (u1 X1 30 i (iI ((enS T n s - s : Nat) : Int))) 28 i (iI t)) 31 i 12) (i := i) (s := s) (z := enS T n s - s) (o2.tp h) hi (by omega) hL (by rw [u1_ne (by decide), u1_ne (by decide), u1_at, if_pos ⟨rfl, rfl⟩]) (by rw [u1_at, if_pos ⟨rfl, rfl⟩]; rfl)
      refine ⟨Y, y1, ⟨?_, ?_, ?_, fun _ => y2, fun q => ?_⟩, ⟨fun q hq => (y3.1 q hq).trans (o2.1 q hq), fun q j hj => (y3.2 q j hj).trans (o2.2 q j hj)⟩⟩
      · rw [y4 28 (by decide), u1_ne (by decide), u1_at, if_pos ⟨rfl, rfl⟩, ht]
      · rw [y4 29 (by decide), u1_ne (by decide), u1_ne (by decide), u1_ne (by decide)]; exact v29
      · rw [y4 30 (by decide), u1_ne (by decide), u1_ne (by decide), u1_at, if_pos ⟨rfl, rfl⟩]
      · rw [sr] at q; split at q <;> omega
    by_cases e6 : enS T n s - s ≤ 6
    · rw [if_neg (fun q => c6.mp q e6), l1]
      obtain ⟨Y, a, b⟩ := fin 1 (by rw [sr, if_pos e6])
      rw [a]; exact ⟨Y, rfl, b⟩
    · rw [if_pos (c6.mpr e6), l5]
      obtain ⟨Y, a, b⟩ := fin 5 (by rw [sr, if_neg e6])
      rw [a]; exact ⟨Y, rfl, b⟩
  · rw [if_neg eL, if_pos rfl, X_isDg t1 (by omega), Option.bind_some]
    by_cases eD : isDg (T s) = true
    · rw [if_pos eD, if_neg n10]
      have en : enS T n s = rnE isDg T n s := by unfold enS; rw [if_pos hs, if_neg eL, if_pos eD]
      have eg := en_gt (T := T) hs
      have ele := en_le (T := T) (Nat.le_of_lt hs)
      have w1 := X_whole1 (s := s) (x1 := iI (i : Int)) t1 l1' hn (n - s) s FW rfl (Nat.le_refl s) (by omega) (FW_gt (by omega))
      rw [Nat.sub_self, ← en] at w1
      unfold f_K_scanWhole_27
      rw [l0]
      rw [show nuN T s 0 = 0 from rfl] at w1
      rw [w1]
      unfold j_K_scanWhole_27_44
      rw [iI_sub, show ((enS T n s : Nat) : Int) - (s : Int) = ((enS T n s - s : Nat) : Int) by omega, wrK hi, Option.bind_some, rdK hi, Option.bind_some, u1_self]
      have c4 : (4 < iI ((enS T n s - s : Nat) : Int)) ↔ ¬ (enS T n s - s ≤ 4) := by rw [l4, iI_lt (by omega) (by omega) (by omega) (by omega)]; omega
      have sr : srS T n s = if enS T n s - s ≤ 4 then 2 else 5 := by unfold srS; rw [if_pos hs, if_neg eL, if_pos eD]
      rw [wrK hi, Option.bind_some, wrK hi, Option.bind_some, wrK hi, Option.bind_some, wrK hi, Option.bind_some]
      have fin : ∀ t : Int, t = srS T n s → TokAt T n i s (u1 (u1 (u1 X1 30 i (iI ((enS T n s - s : Nat) : Int))) 28 i (iI t)) 31 i (iI (nuN T s (enS T n s - s)))) ∧ OnK i X (u1 (u1 (u1 X1 30 i (iI ((enS T n s - s : Nat) : Int))) 28 i (iI t)) 31 i (iI (nuN T s (enS T n s - s)))) := by
        intro t ht
        refine ⟨⟨?_, ?_, ?_, fun q => ?_, fun _ => ?_⟩, ((o1.u (by decide) (by decide)).u (by decide) (by decide)).u (by decide) (by decide)⟩
        · rw [u1_ne (by decide), u1_at, if_pos ⟨rfl, rfl⟩, ht]
        · rw [u1_ne (by decide), u1_ne (by decide), u1_ne (by decide)]; exact v29
        · rw [u1_ne (by decide), u1_ne (by decide), u1_at, if_pos ⟨rfl, rfl⟩]
        · rw [sr] at q; split at q <;> omega
        · rw [u1_at, if_pos ⟨rfl, rfl⟩]
      by_cases e4 : enS T n s - s ≤ 4
      · rw [if_neg (fun q => c4.mp q e4), l2]
        exact ⟨_, rfl, fin 2 (by rw [sr, if_pos e4])⟩
      · rw [if_pos (c4.mpr e4), l5]
        exact ⟨_, rfl, fin 5 (by rw [sr, if_neg e4])⟩
    · rw [if_neg eD, if_pos rfl, t1.rd (q := s) (by omega) rfl, Option.bind_some, Option.bind_some]
      have en : enS T n s = s + 1 := by unfold enS; rw [if_pos hs, if_neg eL, if_neg eD]
      have sr : srS T n s = if T s = 59 then 3 else if T s = 44 then 4 else 5 := by unfold srS; rw [if_pos hs, if_neg eL, if_neg eD]
      obtain ⟨tb1, tb2, -⟩ := h s (by omega)
      have c59 : (iI (T s) = 59) ↔ T s = 59 := by rw [show (59 : Int32) = iI 59 from rfl]; exact iI_eq (by omega) (by omega) (by omega) (by omega)
      have c44 : (iI (T s) = 44) ↔ T s = 44 := by rw [show (44 : Int32) = iI 44 from rfl]; exact iI_eq (by omega) (by omega) (by omega) (by omega)
      rw [wrK hi, Option.bind_some, wrK hi, Option.bind_some, wrK hi, Option.bind_some, wrK hi, Option.bind_some, wrK hi, Option.bind_some, wrK hi, Option.bind_some]
      have fin : ∀ t : Int, t = srS T n s → (3 ≤ t) → TokAt T n i s (u1 (u1 X1 28 i (iI t)) 30 i 1) ∧ OnK i X (u1 (u1 X1 28 i (iI t)) 30 i 1) := by
        intro t ht h3
        refine ⟨⟨?_, ?_, ?_, fun q => absurd q (by omega), fun q => absurd q (by omega)⟩, (o1.u (by decide) (by decide)).u (by decide) (by decide)⟩
        · rw [u1_ne (by decide), u1_at, if_pos ⟨rfl, rfl⟩, ht]
        · rw [u1_ne (by decide), u1_ne (by decide)]; exact v29
        · rw [u1_at, if_pos ⟨rfl, rfl⟩, en, show s + 1 - s = 1 by omega]; rfl
      by_cases e1 : T s = 59
      · rw [if_pos (c59.mpr e1)]
        exact ⟨_, rfl, fin 3 (by rw [sr, if_pos e1]) (by omega)⟩
      · rw [if_neg (fun q => e1 (c59.mp q))]
        by_cases e2 : T s = 44
        · rw [if_pos (c44.mpr e2)]
          exact ⟨_, rfl, fin 4 (by rw [sr, if_neg e1, if_pos e2]) (by omega)⟩
        · rw [if_neg (fun q => e2 (c44.mp q))]
          exact ⟨_, rfl, fin 5 (by rw [sr, if_neg e1, if_neg e2]) (by omega)⟩
/-- the tape's tokens stand in the class's rows, c of them and the end -/
def TkX (T : Nat → Int) (n c : Nat) (X : Mm) : Prop := c ≤ 600 ∧ sqS T n c = n ∧ (∀ i, i < c → sqS T n i < n ∧ TokAt T n i (sqS T n i) X) ∧ X.1 28 c = iI 0 ∧ X.1 29 c = iI (n : Int)
theorem X_scan {T : Nat → Int} {X : Mm} {n : Nat} (h : TapX T X) (hn : n ≤ 600) : ∃ c Y, f_K_scan_27 (iI (n : Int)) X = some Y ∧ TkX T n c Y ∧ (∀ q, q < 27 ∨ 31 < q → Y.1 q = X.1 q) := by
  unfold f_K_scan_27
  rw [Option.bind_some]
  have m0 : mn (iI (n : Int)) 600 = iI (n : Int) := by
    rw [show (600 : Int32) = iI 600 from rfl, mn_iI (by omega) (by omega) (by omega) (by omega)]; congr 1; omega
  rw [m0]
  have l0' : (u1 X 27 5 (iI (n : Int))).1 27 5 = iI n := by rw [u1_at, if_pos ⟨rfl, rfl⟩]
  have f0 : ∀ q, q < 27 ∨ 31 < q → (u1 X 27 5 (iI (n : Int))).1 q = X.1 q := fun q hq => u1_ne (by omega)
  generalize u1 X 27 5 (iI (n : Int)) = X1 at l0' f0
  have key : ∀ k p c f Z, n - p ≤ k → p ≤ n → k < f → sqS T n c = rnE isSp T n p → c ≤ p → (∀ i, i < c → sqS T n i < n ∧ TokAt T n i (sqS T n i) Z) → Z.1 27 5 = iI n → (∀ q, q < 27 ∨ 31 < q → Z.1 q = X.1 q) → ∃ c2 Y, lp_K_scan_27_15 f (iI (c : Int)) (iI (p : Int)) Z = some Y ∧ TkX T n c2 Y ∧ (∀ q, q < 27 ∨ 31 < q → Y.1 q = X.1 q) := by
    intro k
    induction k with
    | zero =>
      intro p c f Z hk hp hf hs hc hi hz hfr
      obtain ⟨f, rfl⟩ : ∃ g, f = g + 1 := ⟨f - 1, by omega⟩
      have e : p = n := by omega
      subst e
      rw [rn_no (fun q => by omega)] at hs
      have c0 : iI (p : Int) ≤ iI (p : Int) := Int32.le_refl _
      refine ⟨c, u1 (u1 Z 28 c 0) 29 c (iI (p : Int)), ?_, ⟨by omega, hs, fun i hic => ⟨(hi i hic).1, ?_⟩, ?_, ?_⟩, fun q hq => ?_⟩
      · show blp_K_scan_27_15 (lp_K_scan_27_15 f) _ _ Z = _
        unfold blp_K_scan_27_15 j_K_scan_27_65
        rw [hz, if_pos c0, wrK (by omega), Option.bind_some, u1_ne (by decide), hz, wrK (by omega), Option.bind_some]
      · obtain ⟨t1, t2, t3, t4, t5⟩ := (hi i hic).2
        have at' : ∀ q, (u1 (u1 Z 28 c 0) 29 c (iI (p : Int))).1 q i = Z.1 q i := fun q => by rw [u1_at, if_neg (by omega), u1_at, if_neg (by omega)]
        unfold TokAt
        rw [at', at', at', at']
        exact ⟨t1, t2, t3, t4, t5⟩
      · rw [u1_ne (by decide), u1_at, if_pos ⟨rfl, rfl⟩]; rfl
      · rw [u1_at, if_pos ⟨rfl, rfl⟩]
      · rw [u1_ne (by omega), u1_ne (by omega)]; exact hfr q hq
    | succ k ih =>
      intro p c f Z hk hp hf hs hc hi hz hfr
      by_cases e : n - p ≤ k
      · exact ih p c f Z e hp (by omega) hs hc hi hz hfr
      · obtain ⟨f, rfl⟩ : ∃ g, f = g + 1 := ⟨f - 1, by omega⟩
        have tz : TapX T Z := fun q hq => by rw [hfr 1 (by omega)]; exact h q hq
        have c0 : ¬ (iI (n : Int) ≤ iI (p : Int)) := by rw [iI_le (by omega) (by omega) (by omega) (by omega)]; omega
        obtain ⟨tb1, tb2, -⟩ := h p (by omega)
        have c32 : (iI (T p) = 32) ↔ T p = 32 := by rw [show (32 : Int32) = iI 32 from rfl]; exact iI_eq (by omega) (by omega) (by omega) (by omega)
        by_cases e2 : T p = 32
        · have sp : isSp (T p) = true := by unfold isSp; rw [decide_eq_true_eq]; exact e2
          have ev : lp_K_scan_27_15 (f + 1) (iI (c : Int)) (iI (p : Int)) Z = lp_K_scan_27_15 f (iI (c : Int)) (iI ((p + 1 : Nat) : Int)) Z := by
            show blp_K_scan_27_15 (lp_K_scan_27_15 f) _ _ Z = _
            unfold blp_K_scan_27_15
            rw [hz, if_neg c0, tz.rd (q := p) (by omega) rfl, Option.bind_some, if_pos (c32.mpr e2), show iI (p : Int) + 1 = iI ((p + 1 : Nat) : Int) by rw [l1, iI_add]; rfl]
          rw [ev]
          exact ih (p + 1) c f Z (by omega) (by omega) (by omega) (by rw [hs, rn_go (by omega) sp]) (by omega) hi hz hfr
        · have sp : ¬ (p < n ∧ isSp (T p) = true) := fun q => e2 (by have := q.2; unfold isSp at this; rw [decide_eq_true_eq] at this; exact this)
          rw [rn_no sp] at hs
          obtain ⟨Y, y1, y2, y3⟩ := X_token (i := c) tz hz hn (by omega) (show p < n by omega)
          have eg := en_gt (T := T) (show p < n by omega)
          have ele := en_le (T := T) (show p ≤ n by omega)
          have ev : lp_K_scan_27_15 (f + 1) (iI (c : Int)) (iI (p : Int)) Z = lp_K_scan_27_15 f (iI ((c + 1 : Nat) : Int)) (iI ((enS T n p : Nat) : Int)) Y := by
            show blp_K_scan_27_15 (lp_K_scan_27_15 f) _ _ Z = _
            unfold blp_K_scan_27_15
            rw [hz, if_neg c0, tz.rd (q := p) (by omega) rfl, Option.bind_some, if_neg (fun q => e2 (c32.mp q)), y1, Option.bind_some, rdK (by omega), Option.bind_some, y2.2.2.1, show iI (c : Int) + 1 = iI ((c + 1 : Nat) : Int) by rw [l1, iI_add]; rfl]
            rw [l1, mx_iI (by omega) (by omega) (by omega) (by omega), iI_add]
            congr 2
            omega
          rw [ev]
          refine ih (enS T n p) (c + 1) f Y (by omega) ele (by omega) ?_ (by omega) (fun i hic => ?_) ?_ (fun q hq => ?_)
          · show rnE isSp T n (enS T n (sqS T n c)) = _
            rw [hs]
          · by_cases e3 : i = c
            · subst e3; rw [hs]; exact ⟨by omega, y2⟩
            · obtain ⟨a, t1, t2, t3, t4, t5⟩ := hi i (by omega)
              refine ⟨a, ?_⟩
              unfold TokAt
              rw [y3.2 28 i e3, y3.2 29 i e3, y3.2 30 i e3, y3.2 31 i e3]
              exact ⟨t1, t2, t3, t4, t5⟩
          · rw [y3.1 27 (by omega)]; exact hz
          · rw [y3.1 q (by omega)]; exact hfr q hq
  obtain ⟨c, Y, a, b⟩ := key n 0 0 FW X1 (by omega) (by omega) (FW_gt (by omega)) rfl (Nat.le_refl 0) (fun i hi => absurd hi (by omega)) l0' f0
  exact ⟨c, Y, by rw [l0]; exact a, b⟩

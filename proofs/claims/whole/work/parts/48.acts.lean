theorem WyX_congr {q : Nat} {w v : Nat → Int} {X : Mm} (h : WyX q w X) (e : ∀ c, c < 37 → v c = w c) : WyX q v X := ⟨fun c hc => by rw [e c (by omega)]; exact h.1 c hc, fun c hc => by rw [e (18 + c) (by omega)]; exact h.2.1 c hc, by rw [e 36 (by omega)]; exact h.2.2⟩
def uw (w : Nat → Int) (L : Nat) (v : Int) (c : Nat) : Int := if c = L then v else w c
theorem uw_eq (w : Nat → Int) (L : Nat) (v : Int) : uw w L v L = v := if_pos rfl
theorem uw_ne {w : Nat → Int} {L c : Nat} {v : Int} (h : c ≠ L) : uw w L v c = w c := if_neg h
theorem X_turn {w : Nat → Int} {X : Mm} {L : Nat} {v : Int} (h : WyX 32 w X) (hL : L < 37) : ∃ Y, f_V_turn_32 (iI L) (iI v) X = some (iI (w L), Y) ∧ WyX 32 (uw w L v) Y ∧ (∀ q, q < 32 ∨ 34 < q → Y.1 q = X.1 q) ∧ Y.2 = X.2 := by
  unfold f_V_turn_32 j_V_turn_32_27 j_V_turn_32_62
  have c0 : ¬ (iI (L : Int) < 0) := by rw [l0, iI_lt (by omega) (by omega) (by omega) (by omega)]; omega
  have d18 : (iI (L : Int) < 18) ↔ L < 18 := by rw [show (18 : Int32) = iI 18 from rfl, iI_lt (by omega) (by omega) (by omega) (by omega)]; omega
  rw [if_neg c0]
  have c18 : (18 ≤ iI (L : Int)) ↔ 18 ≤ L := by rw [show (18 : Int32) = iI 18 from rfl, iI_le (by omega) (by omega) (by omega) (by omega)]; omega
  have c36 : (36 ≤ iI (L : Int)) ↔ 36 ≤ L := by rw [show (36 : Int32) = iI 36 from rfl, iI_le (by omega) (by omega) (by omega) (by omega)]; omega
  by_cases e1 : 18 ≤ L
  · rw [if_pos (c18.mpr e1), if_neg (fun q => by have := d18.mp q; omega)]
    by_cases e2 : 36 ≤ L
    · have : L = 36 := by omega
      subst this
      rw [if_pos (c36.mpr e2), Option.bind_some]
      refine ⟨u1 X 32 2 (iI v), by rw [h.2.2], ⟨fun c hc => ?_, fun c hc => ?_, ?_⟩, fun q hq => u1_ne (by omega), rfl⟩
      · rw [u1_ne (by omega), uw_ne (by omega)]; exact h.1 c hc
      · rw [u1_ne (by omega), uw_ne (by omega)]; exact h.2.1 c hc
      · rw [u1_at, if_pos ⟨rfl, rfl⟩, uw_eq]
    · rw [if_neg (fun q => e2 (c36.mp q)), show (18 : Int32) = iI 18 from rfl, iI_sub]
      have r : rd (X.1 34) 18 (iI ((L : Int) - 18)) = some (iI (w L)) := by
        have := rdt h (L - 18) (z := (L : Int) - 18) (by omega) (by omega)
        rw [show 18 + (L - 18) = L by omega] at this
        exact this
      rw [r, Option.bind_some, wr_iI (by omega) (by omega) (by omega), Option.bind_some]
      refine ⟨_, rfl, ⟨fun c hc => ?_, fun c hc => ?_, ?_⟩, fun q hq => u1_ne (by omega), rfl⟩
      · rw [u1_ne (by omega), uw_ne (by omega)]; exact h.1 c hc
      · rw [u1_at]
        by_cases e : 18 + c = L
        · rw [if_pos ⟨rfl, by omega⟩, e, uw_eq]
        · rw [if_neg (fun q => by have := q.2; omega), uw_ne e]; exact h.2.1 c hc
      · rw [u1_ne (by decide), uw_ne (by omega)]; exact h.2.2
  · rw [if_neg (fun q => e1 (c18.mp q))]
    have r : rd (X.1 33) 18 (iI (L : Int)) = some (iI (w L)) := rdc h L (by omega) rfl
    rw [r, Option.bind_some, wr_iI (by omega) (by omega) (by omega), Option.bind_some]
    refine ⟨_, rfl, ⟨fun c hc => ?_, fun c hc => ?_, ?_⟩, fun q hq => u1_ne (by omega), rfl⟩
    · rw [u1_at]
      by_cases e : c = L
      · rw [if_pos ⟨rfl, by omega⟩, e, uw_eq]
      · rw [if_neg (fun q => by have := q.2; omega), uw_ne e]; exact h.1 c hc
    · rw [u1_ne (by omega), uw_ne (by omega)]; exact h.2.1 c hc
    · rw [u1_ne (by decide), uw_ne (by omega)]; exact h.2.2
/-- only acts' and ways' places of the reference -/
def OnM (M N : Mm) : Prop := (∀ q, q ≠ 0 → q ≠ 10 → q ≠ 13 → N.1 q = M.1 q) ∧ (∀ i, i ≠ 35 → N.1 0 i = M.1 0 i) ∧ N.2 = M.2
theorem OnM.rf {M : Mm} : OnM M M := ⟨fun _ _ _ _ => rfl, fun _ _ => rfl, rfl⟩
theorem OnM.tr {M N O : Mm} (h : OnM M N) (h2 : OnM N O) : OnM M O := ⟨fun q a b c => (h2.1 q a b c).trans (h.1 q a b c), fun i a => (h2.2.1 i a).trans (h.2.1 i a), h2.2.2.trans h.2.2⟩
theorem OnM.u {M N : Mm} {q i : Nat} {x : Int32} (h : OnM M N) (hq : q = 10 ∨ q = 13 ∨ (q = 0 ∧ i = 35)) : OnM M (u1 N q i x) := h.tr ⟨fun r a b c => u1_ne (by omega), fun j hj => by rw [u1_at, if_neg (by omega)], rfl⟩
theorem M_rem53 {w : Nat → Int} {M : Mm} {n : Nat} (hn : n < 10) (h : M.1 0 35 = iI n) (hw : WyM 10 w M) : ∃ N, j_M_remembers_0_53 M = some N ∧ N.1 0 35 = iI ((n + 1 : Nat) : Int) ∧ (∀ c, c < 37 → N.1 13 (37 * n + c) = iI (w c)) ∧ (∀ k, k < 37 * n → N.1 13 k = M.1 13 k) ∧ N.1 10 = M.1 10 ∧ OnM M N := by
  have loop := loop_up (σ := Int32 × Mm) (γ := Option Mm) (fun f s => lp_M_remembers_0_55 f s.1 s.2) 37 (fun i s => s.1 = iI (i : Int) ∧ s.2.1 0 35 = iI n ∧ (∀ c, c < i → s.2.1 13 (37 * n + c) = iI (w c)) ∧ (∀ k, k < 37 * n → s.2.1 13 k = M.1 13 k) ∧ s.2.1 10 = M.1 10 ∧ OnM M s.2) (fun s => some (u1 s.2 0 35 ((s.2.1 0 35) + 1))) ?_ ?_ FW (FW_gt (by omega)) (iI 0, M) ⟨rfl, h, fun c hc => absurd hc (by omega), fun _ _ => rfl, rfl, OnM.rf⟩
  · obtain ⟨⟨x, N⟩, ⟨-, a1, a2, a3, a4, a5⟩, e⟩ := loop
    dsimp only at a1 a2 a3 a4 a5 e
    refine ⟨_, by unfold j_M_remembers_0_53; rw [l0]; exact e, by rw [u1_at, if_pos ⟨rfl, rfl⟩, a1, l1, iI_add]; rfl, fun c hc => by rw [u1_ne (by decide)]; exact a2 c hc, fun k hk => by rw [u1_ne (by decide)]; exact a3 k hk, by rw [u1_ne (by decide)]; exact a4, a5.u (Or.inr (Or.inr ⟨rfl, rfl⟩))⟩
  · rintro f i ⟨x, N⟩ hi ⟨ex, a1, a2, a3, a4, a5⟩
    dsimp only at ex a1 a2 a3 a4 a5
    subst ex
    have r : rd (N.1 10) 37 (iI (i : Int)) = some (iI (w i)) := by rw [a4]; exact rdw hw i hi rfl
    have w2 : wr N 13 370 (iI ((n : Int) * 37 + i)) (iI (w i)) = some (u1 N 13 (37 * n + i) (iI (w i))) := by
      rw [wr_iI (by omega) (by omega) (by omega), show ((n : Int) * 37 + i).toNat = 37 * n + i by omega]
    refine ⟨(iI ((i + 1 : Nat) : Int), u1 N 13 (37 * n + i) (iI (w i))), ?_, rfl, by show (u1 N 13 _ _).1 0 35 = _; rw [u1_ne (by decide)]; exact a1, fun c hc => ?_, fun k hk => ?_, by show (u1 N 13 _ _).1 10 = _; rw [u1_ne (by decide)]; exact a4, a5.u (Or.inr (Or.inl rfl))⟩
    · show blp_M_remembers_0_55 (lp_M_remembers_0_55 f) (iI (i : Int)) N = lp_M_remembers_0_55 f _ _
      unfold blp_M_remembers_0_55
      have c0 : ¬ (37 ≤ iI (i : Int)) := by rw [show (37 : Int32) = iI 37 from rfl, iI_le (by omega) (by omega) (by omega) (by omega)]; omega
      rw [if_neg c0, r, Option.bind_some, a1, show (37 : Int32) = iI 37 from rfl, iI_mul, iI_add, w2, Option.bind_some, l1, iI_add]
      rfl
    · show (u1 N 13 (37 * n + i) (iI (w i))).1 13 (37 * n + c) = _
      rw [u1_at]
      by_cases e : c = i
      · rw [if_pos ⟨rfl, by omega⟩, e]
      · rw [if_neg (by omega)]; exact a2 c (by omega)
    · show (u1 N 13 (37 * n + i) (iI (w i))).1 13 k = _
      rw [u1_at, if_neg (by omega)]; exact a3 k hk
  · rintro f ⟨x, N⟩ ⟨ex, a1, a2, a3, a4, a5⟩
    dsimp only at ex a1 a2 a3 a4 a5
    subst ex
    rfl
theorem M_shift {M : Mm} (h : M.1 0 35 = iI 9) : ∃ N, lp_M_remembers_0_21 FW 0 M = j_M_remembers_0_53 N ∧ (∀ k, k < 333 → N.1 13 k = M.1 13 (k + 37)) ∧ N.1 10 = M.1 10 ∧ N.1 0 = M.1 0 ∧ OnM M N := by
  have loop := loop_up (σ := Int32 × Mm) (γ := Option Mm) (fun f s => lp_M_remembers_0_21 f s.1 s.2) 333 (fun i s => s.1 = iI (i : Int) ∧ (∀ k, k < i → s.2.1 13 k = M.1 13 (k + 37)) ∧ (∀ k, i ≤ k → s.2.1 13 k = M.1 13 k) ∧ s.2.1 10 = M.1 10 ∧ s.2.1 0 = M.1 0 ∧ OnM M s.2) (fun s => j_M_remembers_0_53 s.2) ?_ ?_ FW (FW_gt (by omega)) (iI 0, M) ⟨rfl, fun c hc => absurd hc (by omega), fun _ _ => rfl, rfl, rfl, OnM.rf⟩
  · obtain ⟨⟨x, N⟩, ⟨-, a1, a2, a3, a4, a5⟩, e⟩ := loop
    exact ⟨N, by rw [l0]; exact e, a1, a3, a4, a5⟩
  · rintro f i ⟨x, N⟩ hi ⟨ex, a1, a2, a3, a4, a5⟩
    dsimp only at ex a1 a2 a3 a4 a5
    subst ex
    have r : rd (N.1 13) 370 (iI ((i : Int) + 37)) = some (M.1 13 (i + 37)) := by
      rw [rd_iI (by omega) (by omega) (by omega), show ((i : Int) + 37).toNat = i + 37 by omega, a2 _ (by omega)]
    have w2 : wr N 13 370 (iI (i : Int)) (M.1 13 (i + 37)) = some (u1 N 13 i (M.1 13 (i + 37))) := by
      rw [wr_iI (by omega) (by omega) (by omega), Int.toNat_natCast]
    refine ⟨(iI ((i + 1 : Nat) : Int), u1 N 13 i (M.1 13 (i + 37))), ?_, rfl, fun c hc => ?_, fun k hk => ?_, by show (u1 N 13 _ _).1 10 = _; rw [u1_ne (by decide)]; exact a3, by show (u1 N 13 _ _).1 0 = _; rw [u1_ne (by decide)]; exact a4, a5.u (Or.inr (Or.inl rfl))⟩
    · show blp_M_remembers_0_21 (lp_M_remembers_0_21 f) (iI (i : Int)) N = lp_M_remembers_0_21 f _ _
      unfold blp_M_remembers_0_21
      have c0 : ¬ (iI (9 * 37) ≤ iI (i : Int)) := by rw [iI_le (by omega) (by omega) (by omega) (by omega)]; omega
      rw [a4, h, show (37 : Int32) = iI 37 from rfl, iI_mul, if_neg c0, iI_add, r, Option.bind_some, w2, Option.bind_some, l1, iI_add]
      rfl
    · show (u1 N 13 i (M.1 13 (i + 37))).1 13 c = _
      rw [u1_at]
      by_cases e : c = i
      · rw [if_pos ⟨rfl, e⟩, e]
      · rw [if_neg (by omega)]; exact a1 c (by omega)
    · show (u1 N 13 i (M.1 13 (i + 37))).1 13 k = _
      rw [u1_at, if_neg (by omega)]; exact a2 k (by omega)
  · rintro f ⟨x, N⟩ ⟨ex, a1, a2, a3, a4, a5⟩
    dsimp only at ex a1 a2 a3 a4 a5
    subst ex
    show blp_M_remembers_0_21 (lp_M_remembers_0_21 f) (iI ((333 : Nat) : Int)) N = _
    unfold blp_M_remembers_0_21
    have c0 : (iI (9 * 37) ≤ iI ((333 : Nat) : Int)) := (iI_le (by omega) (by omega) (by omega) (by omega)).mpr (by omega)
    rw [a4, h, show (37 : Int32) = iI 37 from rfl, iI_mul, if_pos c0]
theorem T_act {C : SS} {w v : Nat → Int} {S Q : SS} {X M Y N : Mm} (T : Tld C w S Q X M) (oX : ∀ q, q < 32 ∨ (34 < q ∧ q < 65) ∨ 67 < q → Y.1 q = X.1 q) (oM : OnM M N) (h1 : WyOk C v) (h2 : w0 C v) (h3 : WyX 32 v Y) (h4 : WyM 10 v N) (h5 : ActR C v Y N) : Tld C v S Q Y N := by
  obtain ⟨t1, t2, t3, t4, t5, t6, t7, t8⟩ := T
  refine ⟨t1, t2.fr (fun q _ _ => oX q (by omega)), t3.fr (fun i hi => oM.2.1 i (by omega)) (fun q i _ _ _ _ => by rw [oM.1 q (by omega) (by omega) (by omega)]), ⟨h1, h2, t4.2.2.1, t4.2.2.2.1, t4.2.2.2.2.1, h3, t4.2.2.2.2.2.2.1.other (fun q _ _ => oX q (by omega)), h4, ?_⟩, t5.fr t1 (oX 9 (by omega)) (oX 10 (by omega)) (fun i _ => by rw [oM.2.2]) (fun i _ => by rw [oM.2.2]), h5, ?_, ?_⟩
  · rw [oM.1 15 (by decide) (by decide) (by decide)]; exact t4.2.2.2.2.2.2.2.2
  · exact t7.fr (oX 69 (by omega)) (fun i _ _ => oX i (by omega)) (fun i _ _ => oX i (by omega)) (oM.1 18 (by decide) (by decide) (by decide)) (oM.1 17 (by decide) (by decide) (by decide)) (oM.1 14 (by decide) (by decide) (by decide))
  · exact t8.fr (oX 86 (by omega)) (fun i _ _ => oX i (by omega)) (fun i _ _ => oX i (by omega)) (oM.1 18 (by decide) (by decide) (by decide)) (oM.1 17 (by decide) (by decide) (by decide)) (oM.1 14 (by decide) (by decide) (by decide))
theorem M_chg {w : Nat → Int} {M : Mm} {L : Nat} {v : Int} (hL : L < 37) (hw : WyM 10 w M) : ∃ N, rd (M.1 10) 37 (iI L) = some (iI (w L)) ∧ wr M 10 37 (iI L) (iI v) = some N ∧ WyM 10 (uw w L v) N ∧ OnM M N ∧ N.1 13 = M.1 13 ∧ N.1 0 = M.1 0 := by
  refine ⟨_, rdw hw L hL rfl, wr_iI (by omega) (by omega) (by omega), fun c hc => ?_, OnM.rf.u (Or.inl rfl), u1_ne (by decide), u1_ne (by decide)⟩
  rw [u1_at, Int.toNat_natCast]
  by_cases e : c = L
  · rw [if_pos ⟨rfl, e⟩, e, uw_eq]
  · rw [if_neg (fun q => e q.2), uw_ne e]; exact hw c hc
/-- an act, where there is room -/
theorem A_room {C : SS} {w : Nat → Int} {X M : Mm} {n : Nat} {P : Nat → Nat → Int} {lv : Nat → Nat} {vl : Nat → Int} {L : Nat} {v : Int} (hL : L < 37) (hwX : WyX 32 w X) (hwM : WyM 10 w M) (hw1 : WyOk C w) (hw2 : w0 C w) (hn : n < 10) (hx : X.1 65 2 = iI n) (hm : M.1 0 35 = iI n) (hP : ∀ c, c < 37 → P n c = w c) (hA : ∀ j, j < n → lv j < 37 ∧ X.1 66 j = iI (lv j) ∧ X.1 67 j = iI (vl j) ∧ WyOk C (P j) ∧ w0 C (P j) ∧ ∀ c, c < 37 → M.1 13 (37 * j + c) = iI (P j c) ∧ P j c = (if c = lv j then vl j else P (j + 1) c)) : ∃ Y N1 N, j_A_perform_65_32_45 (iI L) (iI v) X = some (iI (w L), Y) ∧ j_M_remembers_0_53 M = some N1 ∧ rd (N1.1 10) 37 (iI L) = some (iI (w L)) ∧ wr N1 10 37 (iI L) (iI v) = some N ∧ ActR C (uw w L v) Y N ∧ WyX 32 (uw w L v) Y ∧ WyM 10 (uw w L v) N ∧ (∀ q, q < 32 ∨ (34 < q ∧ q < 65) ∨ 67 < q → Y.1 q = X.1 q) ∧ OnM M N := by
  obtain ⟨X1, x1, x2, x3, x4⟩ := X_turn (v := v) hwX hL
  obtain ⟨N1, n1, n2, n3, n4, n5, n6⟩ := M_rem53 hn hm hwM
  obtain ⟨N, c1, c2, c3, c4, c5, c6⟩ := M_chg (v := v) hL (fun c hc => by rw [n5]; exact hwM c hc : WyM 10 w N1)
  have e65 : X1.1 65 2 = iI n := by rw [x3 65 (by omega)]; exact hx
  have y66 : ∀ j, (u1 (u1 (u1 X1 66 n (iI L)) 67 n (iI (w L))) 65 2 (iI ((n + 1 : Nat) : Int))).1 66 j = if j = n then iI L else X.1 66 j := fun j => by
    rw [u1_at, if_neg (by omega), u1_at, if_neg (by omega), u1_at, x3 66 (by omega)]
    by_cases e : j = n
    · rw [if_pos ⟨rfl, e⟩, if_pos e]
    · rw [if_neg (fun q => e q.2), if_neg e]
  have y67 : ∀ j, (u1 (u1 (u1 X1 66 n (iI L)) 67 n (iI (w L))) 65 2 (iI ((n + 1 : Nat) : Int))).1 67 j = if j = n then iI (w L) else X.1 67 j := fun j => by
    rw [u1_at, if_neg (by omega), u1_at, u1_at, if_neg (show ¬ (67 = 66 ∧ j = n) by omega), x3 67 (by omega)]
    by_cases e : j = n
    · rw [if_pos ⟨rfl, e⟩, if_pos e]
    · rw [if_neg (fun q => e q.2), if_neg e]
  refine ⟨u1 (u1 (u1 X1 66 n (iI L)) 67 n (iI (w L))) 65 2 (iI ((n + 1 : Nat) : Int)), N1, N, ?_, n1, c1, c2, ?_, ?_, c3, fun q hq => ?_, n6.tr c4⟩
  · unfold j_A_perform_65_32_45
    rw [x1, Option.bind_some]
    dsimp only
    rw [e65, wr_iI (by omega) (by omega) (by omega), Option.bind_some, Int.toNat_natCast, u1_ne (by decide), e65, wr_iI (by omega) (by omega) (by omega), Option.bind_some, Int.toNat_natCast, u1_ne (by decide), u1_ne (by decide), e65, Option.bind_some, l1, iI_add]
    rfl
  · obtain ⟨P2, p1, p2, p3⟩ : ∃ P2 : Nat → Nat → Int, (∀ j, j < n → P2 j = P j) ∧ P2 n = w ∧ P2 (n + 1) = uw w L v := ⟨fun j => if j < n then P j else if j = n then w else uw w L v, fun j hj => if_pos hj, by dsimp only; rw [if_neg (by omega), if_pos rfl], by dsimp only; rw [if_neg (by omega), if_neg (by omega)]⟩
    obtain ⟨lv2, q1, q2⟩ : ∃ lv2 : Nat → Nat, (∀ j, j ≠ n → lv2 j = lv j) ∧ lv2 n = L := ⟨fun j => if j = n then L else lv j, fun j hj => if_neg hj, if_pos rfl⟩
    obtain ⟨vl2, r1, r2⟩ : ∃ vl2 : Nat → Int, (∀ j, j ≠ n → vl2 j = vl j) ∧ vl2 n = w L := ⟨fun j => if j = n then w L else vl j, fun j hj => if_neg hj, if_pos rfl⟩
    refine ⟨n + 1, P2, lv2, vl2, by omega, by rw [u1_at, if_pos ⟨rfl, rfl⟩], by rw [c6]; exact n2, fun c _ => by rw [p3], fun j hj => ?_⟩
    rw [y66, y67, c5]
    by_cases e : j = n
    · rw [if_pos e, if_pos e, e, p2, p3, q2, r2]
      refine ⟨hL, rfl, rfl, hw1, hw2, fun c hc => ⟨n3 c hc, ?_⟩⟩
      unfold uw
      split
      · rename_i q; rw [q]
      · rfl
    · have hj2 : j < n := by omega
      obtain ⟨a1, a2, a3, a4, a5, a6⟩ := hA j hj2
      rw [if_neg e, if_neg e, p1 j hj2, q1 j e, r1 j e]
      refine ⟨a1, a2, a3, a4, a5, fun c hc => ⟨by rw [n4 _ (by omega)]; exact (a6 c hc).1, ?_⟩⟩
      rw [(a6 c hc).2]
      by_cases e2 : j + 1 < n
      · rw [p1 _ e2]
      · have e3 : j + 1 = n := by omega
        rw [e3, p2, hP c hc]
  · exact ⟨fun c hc => by rw [u1_ne (by decide), u1_ne (by decide), u1_ne (by decide)]; exact x2.1 c hc, fun c hc => by rw [u1_ne (by decide), u1_ne (by decide), u1_ne (by decide)]; exact x2.2.1 c hc, by rw [u1_ne (by decide), u1_ne (by decide), u1_ne (by decide)]; exact x2.2.2⟩
  · rw [u1_ne (by omega), u1_ne (by omega), u1_ne (by omega)]; exact x3 q (by omega)
theorem R_change {C : SS} {w : Nat → Int} {S Q : SS} {X M : Mm} {L : Nat} {v : Int} (h : Rel X M) (t1 : ¬ X.1 0 9 = 0) (T : Tld C w S Q X M) (hL : L < 37) (h1 : WyOk C (uw w L v)) (h2 : w0 C (uw w L v)) : An ((f_A_perform_65_32 (iI L) (iI v) X).bind fun q9 => (f_P_granted_0 q9.1 q9.2).bind fun q10 => some (q10.1, q10.2)) ((f_M_changes_0 (iI L) (iI v) M).bind fun q => some (q.1, q.2)) := by
  obtain ⟨n, P, lv, vl, a1, a2, a3, a4, a5⟩ := T.2.2.2.2.2.1
  unfold f_A_perform_65_32 f_M_changes_0 f_M_remembers_0
  have cx : (iI (n : Int) < 10) ↔ n < 10 := by rw [show (10 : Int32) = iI 10 from rfl, iI_lt (by omega) (by omega) (by omega) (by omega)]; omega
  have cm : (iI (n : Int) = 10) ↔ n = 10 := by rw [show (10 : Int32) = iI 10 from rfl, iI_eq (by omega) (by omega) (by omega) (by omega)]; omega
  rw [a2, a3]
  by_cases e : n < 10
  · obtain ⟨Y, N1, N, b1, b2, b3, b4, b5, b6, b7, b8, b9⟩ := A_room (v := v) hL T.wx T.wm T.wo T.w0 e a2 a3 a4 a5
    have T2 := T_act T b8 b9 h1 h2 b6 b7 b5
    rw [if_pos (cx.mpr e), if_neg (fun q => by have := cm.mp q; omega), b1, b2, Option.bind_some, Option.bind_some, b3, Option.bind_some, b4, Option.bind_some]
    exact An_good (h.upd t1 (b8 0 (by omega)) (b8 1 (by omega)) b9.2.1 (b9.1 1 (by decide) (by decide) (by decide)) T2) _
  · have en : n = 10 := by omega
    subst en
    rw [if_neg (fun q => e (cx.mp q)), if_pos (cm.mpr rfl)]
    have k1 := cpy_iI (M := X) (k0 := 66) (k1 := 66) (s := 1) (d := 0) (n := 9) (n0 := 10) (n1 := 10) (by omega) (by omega) (by omega) (by omega)
    generalize hX1 : s1 X 66 (fun j => if 0 ≤ j ∧ j < 0 + 9 then X.1 66 (1 + (j - 0)) else X.1 66 j) = X1 at k1
    have k2 := cpy_iI (M := X1) (k0 := 67) (k1 := 67) (s := 1) (d := 0) (n := 9) (n0 := 10) (n1 := 10) (by omega) (by omega) (by omega) (by omega)
    generalize hX2 : s1 X1 67 (fun j => if 0 ≤ j ∧ j < 0 + 9 then X1.1 67 (1 + (j - 0)) else X1.1 67 j) = X2 at k2
    have g1 : cpy X 66 10 66 10 1 0 9 = some X1 := k1
    have g2 : cpy X1 67 10 67 10 1 0 9 = some X2 := k2
    rw [g1, Option.bind_some, g2, Option.bind_some, Option.bind_some, Option.bind_some, show iI ((10 : Nat) : Int) - 1 = iI 9 by rw [l1, iI_sub]; rfl, show (9 : Int32) = iI 9 from rfl]
    have f66 : ∀ j, j < 9 → (u1 X2 65 2 (iI 9)).1 66 j = X.1 66 (j + 1) := fun j hj => by
      rw [u1_ne (by decide), ← hX2, s1_ne (by decide), ← hX1, s1_at, if_pos rfl, if_pos (by omega), Nat.sub_zero, Nat.add_comm]
    have f67 : ∀ j, j < 9 → (u1 X2 65 2 (iI 9)).1 67 j = X.1 67 (j + 1) := fun j hj => by
      rw [u1_ne (by decide), ← hX2, s1_at, if_pos rfl, if_pos (by omega), Nat.sub_zero, Nat.add_comm, ← hX1, s1_ne (by decide)]
    have fo : ∀ q, q ≠ 65 → q ≠ 66 → q ≠ 67 → (u1 X2 65 2 (iI 9)).1 q = X.1 q := fun q z1 z2 z3 => by
      rw [u1_ne z1, ← hX2, s1_ne z3, ← hX1, s1_ne z2]
    obtain ⟨M2, m1, m2, m3, m4, m5⟩ := M_shift (M := u1 M 0 35 (iI 9)) (by rw [u1_at, if_pos ⟨rfl, rfl⟩])
    have oM : OnM M M2 := (OnM.rf.u (Or.inr (Or.inr ⟨rfl, rfl⟩))).tr m5
    rw [m1]
    have hwx : WyX 32 w (u1 X2 65 2 (iI 9)) := by
      have q := T.wx
      exact ⟨fun c hc => by rw [fo 33 (by decide) (by decide) (by decide)]; exact q.1 c hc, fun c hc => by rw [fo 34 (by decide) (by decide) (by decide)]; exact q.2.1 c hc, by rw [fo 32 (by decide) (by decide) (by decide)]; exact q.2.2⟩
    have hwm : WyM 10 w M2 := by
      intro c hc
      rw [m3, u1_ne (by decide)]; exact T.wm c hc
    have hA2 : ∀ j, j < 9 → lv (j + 1) < 37 ∧ (u1 X2 65 2 (iI 9)).1 66 j = iI (lv (j + 1)) ∧ (u1 X2 65 2 (iI 9)).1 67 j = iI (vl (j + 1)) ∧ WyOk C (P (j + 1)) ∧ w0 C (P (j + 1)) ∧ ∀ c, c < 37 → M2.1 13 (37 * j + c) = iI (P (j + 1) c) ∧ P (j + 1) c = (if c = lv (j + 1) then vl (j + 1) else P (j + 1 + 1) c) := by
      intro j hj
      obtain ⟨z1, z2, z3, z4, z5, z6⟩ := a5 (j + 1) (by omega)
      rw [f66 j hj, f67 j hj]
      refine ⟨z1, z2, z3, z4, z5, fun c hc => ⟨?_, (z6 c hc).2⟩⟩
      rw [m2 _ (by omega), u1_ne (by decide), show 37 * j + c + 37 = 37 * (j + 1) + c by omega]
      exact (z6 c hc).1
    obtain ⟨Y, N1, N, b1, b2, b3, b4, b5, b6, b7, b8, b9⟩ := A_room (C := C) (w := w) (X := u1 X2 65 2 (iI 9)) (M := M2) (n := 9) (P := fun j => P (j + 1)) (lv := fun j => lv (j + 1)) (vl := fun j => vl (j + 1)) (v := v) hL hwx hwm T.wo T.w0 (by omega) (by rw [u1_at, if_pos ⟨rfl, rfl⟩]; rfl) (by rw [m4, u1_at, if_pos ⟨rfl, rfl⟩]; rfl) a4 hA2
    have b8' : ∀ q, q < 32 ∨ (34 < q ∧ q < 65) ∨ 67 < q → Y.1 q = X.1 q := fun q hq => (b8 q hq).trans (fo q (by omega) (by omega) (by omega))
    have b9' := oM.tr b9
    have T2 := T_act T b8' b9' h1 h2 b6 b7 b5
    rw [b1, b2, Option.bind_some, Option.bind_some, b3, Option.bind_some, b4, Option.bind_some]
    exact An_good (h.upd t1 (b8' 0 (by omega)) (b8' 1 (by omega)) b9'.2.1 (b9'.1 1 (by decide) (by decide) (by decide)) T2) _
theorem R_cards {X M : Mm} (h0 : Rel X M) (p p2 p3 : Int32) : An (f_P_cards_0 p p2 p3 X) (f_M_cards_0 p p2 p3 M) := by
  unfold f_P_cards_0 f_M_cards_0
  rw [Option.bind_some]
  have h := h0.th 0
  generalize u1 M 0 0 0 = N at h
  rcases h.bench p with ⟨e1, e2⟩ | ⟨C, w, S, Q, b, rfl, hb, e1, e2, t1, t2, T⟩
  · rw [e1, e2, Option.bind_some, Option.bind_some, if_pos rfl, if_pos rfl]; exact An_ref h 1
  · have hb6 := sz6 T.1 hb
    have hk3 := T.1.2.1
    rw [e1, e2, Option.bind_some, Option.bind_some, if_neg n10, if_neg n10]
    rcases isK p2 t1 t2 T.1 T.2.1 T.2.2.1 with ⟨e1, e2⟩ | ⟨k, rfl, hk, e1, e2⟩
    · rw [e1, e2, Option.bind_some, Option.bind_some, if_pos rfl, if_pos rfl]; exact An_ref h 1
    · rw [e1, e2, Option.bind_some, Option.bind_some, if_neg n10, if_neg n10, in_wi]
      rcases wi (p := p3) (n := 9) (by omega) (by omega) with ⟨c, rfl, hc, e⟩ | ⟨e, -⟩
      · rw [← l9] at e
        have rc : f_P_cell (iI (b : Int)) (iI (k : Int)) = some (iI (3 * b + k)) := by unfold f_P_cell; rw [ixc]
        rw [e, Option.bind_some, Option.bind_some, if_neg n10, if_neg n10, rc, Option.bind_some, ixc]
        refine R_change (L := 3 * b + k) (v := (c : Int)) h t1 T (by omega) ⟨fun b2 k2 hb2 hk2 => ?_, ?_⟩ (fun b2 k2 hb2 hk2 hn => ?_)
        · have := T.wo.1 b2 k2 hb2 hk2
          have := sz6 T.1 hb2
          rw [uw_ne (c := 18 + (3 * b2 + k2)) (by omega)]
          unfold uw
          split <;> omega
        · rw [uw_ne (by omega)]; exact T.wo.2
        · have := T.w0 b2 k2 hb2 hk2 hn
          rw [uw_ne (c := 18 + (3 * b2 + k2)) (by omega), uw_ne (c := 3 * b2 + k2) (fun q => hn (by
            have : b2 = b := by omega
            have : k2 = k := by omega
            omega))]
          exact this
      · rw [← l9] at e
        rw [e, Option.bind_some, Option.bind_some, if_pos rfl, if_pos rfl]; exact An_ref h 2
theorem R_time {X M : Mm} (h0 : Rel X M) (p p2 p3 : Int32) : An (f_P_time_0 p p2 p3 X) (f_M_time_0 p p2 p3 M) := by
  unfold f_P_time_0 f_M_time_0
  rw [Option.bind_some]
  have h := h0.th 0
  generalize u1 M 0 0 0 = N at h
  rcases h.bench p with ⟨e1, e2⟩ | ⟨C, w, S, Q, b, rfl, hb, e1, e2, t1, t2, T⟩
  · rw [e1, e2, Option.bind_some, Option.bind_some, if_pos rfl, if_pos rfl]; exact An_ref h 1
  · have hb6 := sz6 T.1 hb
    have hk3 := T.1.2.1
    rw [e1, e2, Option.bind_some, Option.bind_some, if_neg n10, if_neg n10]
    rcases isK p2 t1 t2 T.1 T.2.1 T.2.2.1 with ⟨e1, e2⟩ | ⟨k, rfl, hk, e1, e2⟩
    · rw [e1, e2, Option.bind_some, Option.bind_some, if_pos rfl, if_pos rfl]; exact An_ref h 1
    · rw [e1, e2, Option.bind_some, Option.bind_some, if_neg n10, if_neg n10]
      have e := iI_of p3
      have b1 := Int32.le_toInt p3
      have b2 := Int32.toInt_lt p3
      generalize p3.toInt = z at *
      subst e
      have c1 : (iI z < 1) ↔ z < 1 := by rw [l1]; exact iI_lt (by omega) (by omega) (by omega) (by omega)
      have c2 : (iI z ≤ 60) ↔ z ≤ 60 := by rw [show (60 : Int32) = iI 60 from rfl]; exact iI_le (by omega) (by omega) (by omega) (by omega)
      have c3 : (60 < iI z) ↔ 60 < z := by rw [show (60 : Int32) = iI 60 from rfl]; exact iI_lt (by omega) (by omega) (by omega) (by omega)
      unfold f_M_in
      by_cases e1 : z < 1
      · rw [if_pos (c1.mpr e1), if_pos (c1.mpr e1), Option.bind_some, if_pos rfl]; exact An_ref h 2
      · rw [if_neg (fun q => e1 (c1.mp q)), if_neg (fun q => e1 (c1.mp q))]
        by_cases e2 : z ≤ 60
        · have c5 : ¬ (60 < iI z) := fun q => by have := c3.mp q; omega
          have rc : f_P_cell (iI (b : Int)) (iI (k : Int)) = some (iI (3 * b + k)) := by unfold f_P_cell; rw [ixc]
          rw [if_pos (c2.mpr e2), if_neg c5, Option.bind_some, if_neg n10, rc, Option.bind_some, show (18 : Int32) = iI 18 from rfl, l3, iI_mul, iI_add, iI_add, iI_add, show 18 + 3 * (b : Int) + k = ((18 + (3 * b + k) : Nat) : Int) by omega, show 18 + (3 * (b : Int) + k) = ((18 + (3 * b + k) : Nat) : Int) by omega]
          refine R_change (L := 18 + (3 * b + k)) (v := z) h t1 T (by omega) ⟨fun b2 k2 hb2 hk2 => ?_, ?_⟩ (fun b2 k2 hb2 hk2 hn => ?_)
          · have := T.wo.1 b2 k2 hb2 hk2
            have := sz6 T.1 hb2
            rw [uw_ne (c := 3 * b2 + k2) (by omega)]
            unfold uw
            split <;> omega
          · rw [uw_ne (by omega)]; exact T.wo.2
          · have := T.w0 b2 k2 hb2 hk2 hn
            rw [uw_ne (c := 3 * b2 + k2) (by omega), uw_ne (c := 18 + (3 * b2 + k2)) (fun q => hn (by
              have : b2 = b := by omega
              have : k2 = k := by omega
              omega))]
            exact this
        · rw [if_neg (fun q => e2 (c2.mp q)), if_pos (c3.mpr (by omega)), Option.bind_some, if_pos rfl]; exact An_ref h 2
theorem R_rule {X M : Mm} (h0 : Rel X M) (p : Int32) : An (f_P_rule_0 p X) (f_M_rule_0 p M) := by
  unfold f_P_rule_0 f_M_rule_0
  rw [Option.bind_some]
  have h := h0.th 0
  generalize u1 M 0 0 0 = N at h
  rcases h.told with ⟨t1, t2⟩ | ⟨t1, t2, C, w, S, Q, T⟩
  · rw [if_pos t1, if_pos t2]; exact An_ref h 1
  · rw [if_neg t1, if_neg t2, in_wi]
    have hk3 := T.1.2.1
    rcases wi (p := p) (n := 2) (by omega) (by omega) with ⟨c, rfl, hc, e⟩ | ⟨e, -⟩
    · rw [← l2] at e
      rw [e, Option.bind_some, Option.bind_some, if_neg n10, if_neg n10]
      refine R_change (L := 36) (v := (c : Int)) h t1 T (by omega) ⟨fun b2 k2 hb2 hk2 => ?_, ?_⟩ (fun b2 k2 hb2 hk2 hn => ?_)
      · have := T.wo.1 b2 k2 hb2 hk2
        have := sz6 T.1 hb2
        rw [uw_ne (c := 3 * b2 + k2) (by omega), uw_ne (c := 18 + (3 * b2 + k2)) (by omega)]
        omega
      · rw [uw_eq]; omega
      · have := T.w0 b2 k2 hb2 hk2 hn
        rw [uw_ne (c := 3 * b2 + k2) (by omega), uw_ne (c := 18 + (3 * b2 + k2)) (by omega)]
        exact this
    · rw [← l2] at e
      rw [e, Option.bind_some, Option.bind_some, if_pos rfl, if_pos rfl]; exact An_ref h 2
theorem M_undo_in {M : Mm} {m : Nat} {P : Nat → Int} (hm : m < 10) (h : M.1 0 35 = iI m) (hP : ∀ c, c < 37 → M.1 13 (37 * m + c) = iI (P c)) : ∃ N, lp_M_undo_0_43 FW 0 M = ((f_M_good_0 (N.1 0 35) N).bind fun q2 => some (q2.1, q2.2)) ∧ WyM 10 P N ∧ N.1 0 = M.1 0 ∧ N.1 13 = M.1 13 ∧ OnM M N := by
  have loop := loop_up (σ := Int32 × Mm) (γ := Option (Int32 × Mm)) (fun f s => lp_M_undo_0_43 f s.1 s.2) 37 (fun i s => s.1 = iI (i : Int) ∧ (∀ c, c < i → s.2.1 10 c = iI (P c)) ∧ s.2.1 0 = M.1 0 ∧ s.2.1 13 = M.1 13 ∧ OnM M s.2) (fun s => (f_M_good_0 (s.2.1 0 35) s.2).bind fun q2 => some (q2.1, q2.2)) ?_ ?_ FW (FW_gt (by omega)) (iI 0, M) ⟨rfl, fun c hc => absurd hc (by omega), rfl, rfl, OnM.rf⟩
  · obtain ⟨⟨x, N⟩, ⟨-, a1, a2, a3, a4⟩, e⟩ := loop
    exact ⟨N, by rw [l0]; exact e, a1, a2, a3, a4⟩
  · rintro f i ⟨x, N⟩ hi ⟨ex, a1, a2, a3, a4⟩
    dsimp only at ex a1 a2 a3 a4
    subst ex
    have r : rd (N.1 13) 370 (iI ((m : Int) * 37 + i)) = some (iI (P i)) := by
      rw [rd_iI (by omega) (by omega) (by omega), show ((m : Int) * 37 + i).toNat = 37 * m + i by omega, a3, hP i hi]
    have w2 : wr N 10 37 (iI (i : Int)) (iI (P i)) = some (u1 N 10 i (iI (P i))) := by
      rw [wr_iI (by omega) (by omega) (by omega), Int.toNat_natCast]
    refine ⟨(iI ((i + 1 : Nat) : Int), u1 N 10 i (iI (P i))), ?_, rfl, fun c hc => ?_, by show (u1 N 10 _ _).1 0 = _; rw [u1_ne (by decide)]; exact a2, by show (u1 N 10 _ _).1 13 = _; rw [u1_ne (by decide)]; exact a3, a4.u (Or.inl rfl)⟩
    · show blp_M_undo_0_43 (lp_M_undo_0_43 f) (iI (i : Int)) N = lp_M_undo_0_43 f _ _
      unfold blp_M_undo_0_43
      have c0 : ¬ (37 ≤ iI (i : Int)) := by rw [show (37 : Int32) = iI 37 from rfl, iI_le (by omega) (by omega) (by omega) (by omega)]; omega
      rw [if_neg c0, a2, h, show (37 : Int32) = iI 37 from rfl, iI_mul, iI_add, r, Option.bind_some, w2, Option.bind_some, l1, iI_add]
      rfl
    · show (u1 N 10 i (iI (P i))).1 10 c = _
      rw [u1_at]
      by_cases e : c = i
      · rw [if_pos ⟨rfl, e⟩, e]
      · rw [if_neg (fun q => e q.2)]; exact a1 c (by omega)
  · rintro f ⟨x, N⟩ ⟨ex, a1, a2, a3, a4⟩
    dsimp only at ex a1 a2 a3 a4
    subst ex
    rfl
theorem R_undo {X M : Mm} (h0 : Rel X M) : An (f_P_undo_0 X) (f_M_undo_0 M) := by
  unfold f_P_undo_0 f_M_undo_0
  rw [Option.bind_some]
  have h := h0.th 0
  generalize u1 M 0 0 0 = N at h
  rcases h.told with ⟨t1, t2⟩ | ⟨t1, t2, C, w, S, Q, T⟩
  · rw [if_pos t1, if_pos t2]; exact An_ref h 1
  · obtain ⟨n, P, lv, vl, a1, a2, a3, a4, a5⟩ := T.2.2.2.2.2.1
    have c0 : (iI (n : Int) = 0) ↔ n = 0 := by rw [l0, iI_eq (by omega) (by omega) (by omega) (by omega)]; omega
    rw [if_neg t1, if_neg t2, a2, a3]
    by_cases e : n = 0
    · rw [if_pos (c0.mpr e), if_pos (c0.mpr e)]; exact An_ref h 5
    · obtain ⟨m, rfl⟩ : ∃ m, n = m + 1 := ⟨n - 1, by omega⟩
      obtain ⟨b1, b2, b3, b4, b5, b6⟩ := a5 m (by omega)
      have em : iI ((m + 1 : Nat) : Int) - 1 = iI (m : Int) := by rw [l1, iI_sub]; congr 1; omega
      have cx : ¬ (iI ((m + 1 : Nat) : Int) ≤ 0) := by rw [l0, iI_le (by omega) (by omega) (by omega) (by omega)]; omega
      rw [if_neg (fun q => e (c0.mp q)), if_neg (fun q => e (c0.mp q)), Option.bind_some, em]
      unfold f_A_takeBack_65_32
      rw [a2, if_neg cx, Option.bind_some, em]
      have hx : (u1 X 65 2 (iI (m : Int))).1 65 2 = iI (m : Int) := by rw [u1_at, if_pos ⟨rfl, rfl⟩]
      have wx : WyX 32 w (u1 X 65 2 (iI (m : Int))) := by
        have q := T.wx
        exact ⟨fun c hc => by rw [u1_ne (by decide)]; exact q.1 c hc, fun c hc => by rw [u1_ne (by decide)]; exact q.2.1 c hc, by rw [u1_ne (by decide)]; exact q.2.2⟩
      obtain ⟨Y, y1, y2, y3, y4⟩ := X_turn (v := vl m) wx b1
      have r1 : rd ((u1 X 65 2 (iI (m : Int))).1 66) 10 (iI (m : Int)) = some (iI (lv m : Int)) := by
        rw [rd_iI (by omega) (by omega) (by omega), u1_ne (by decide), Int.toNat_natCast, b2]
      have r2 : rd ((u1 X 65 2 (iI (m : Int))).1 67) 10 (iI (m : Int)) = some (iI (vl m)) := by
        rw [rd_iI (by omega) (by omega) (by omega), u1_ne (by decide), Int.toNat_natCast, b3]
      obtain ⟨O, o1, o2, o3, o4, o5⟩ := M_undo_in (M := u1 N 0 35 (iI (m : Int))) (m := m) (P := P m) (by omega) (by rw [u1_at, if_pos ⟨rfl, rfl⟩]) (fun c hc => by rw [u1_ne (by decide)]; exact (b6 c hc).1)
      rw [hx, r1, Option.bind_some, r2, Option.bind_some, y1, Option.bind_some, o1, Option.bind_some]
      have oM : OnM N O := (OnM.rf.u (Or.inr (Or.inr ⟨rfl, rfl⟩))).tr o5
      have oX : ∀ q, q < 32 ∨ (34 < q ∧ q < 65) ∨ 67 < q → Y.1 q = X.1 q := fun q hq => by rw [y3 q (by omega), u1_ne (by omega)]
      have eP : ∀ c, c < 37 → P m c = uw w (lv m) (vl m) c := fun c hc => by
        rw [(b6 c hc).2]
        unfold uw
        split
        · rfl
        · exact a4 c hc
      have y65 : Y.1 65 2 = iI (m : Int) := by rw [y3 65 (by omega)]; exact hx
      have o35 : O.1 0 35 = iI (m : Int) := by rw [o3, u1_at, if_pos ⟨rfl, rfl⟩]
      have T2 := T_act T oX oM b4 b5 (WyX_congr y2 eP) o2 ⟨m, P, lv, vl, by omega, y65, o35, fun c _ => rfl, fun j hj => by
        obtain ⟨d1, d2, d3, d4, d5, d6⟩ := a5 j (by omega)
        refine ⟨d1, by rw [y3 66 (by omega), u1_ne (by decide)]; exact d2, by rw [y3 67 (by omega), u1_ne (by decide)]; exact d3, d4, d5, fun c hc => ⟨?_, (d6 c hc).2⟩⟩
        rw [o4, u1_ne (by decide)]; exact (d6 c hc).1⟩
      exact An_go (h.upd t1 (oX 0 (by omega)) (oX 1 (by omega)) oM.2.1 (oM.1 1 (by decide) (by decide) (by decide)) T2) (y65.trans o35.symm)

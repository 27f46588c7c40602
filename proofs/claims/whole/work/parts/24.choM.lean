theorem ix3_3 (b : Int) : ((3 : Int32) + (9 * iI b)) + 3 = iI (3 + 9 * b + 3) := ix3 b 3
theorem ix3_4 (b : Int) : ((3 : Int32) + (9 * iI b)) + 4 = iI (3 + 9 * b + 4) := ix3 b 4
theorem ix3_5 (b : Int) : ((3 : Int32) + (9 * iI b)) + 5 = iI (3 + 9 * b + 5) := ix3 b 5
theorem ix3_6 (b : Int) : ((3 : Int32) + (9 * iI b)) + 6 = iI (3 + 9 * b + 6) := ix3 b 6
theorem ix3_7 (b : Int) : ((3 : Int32) + (9 * iI b)) + 7 = iI (3 + 9 * b + 7) := ix3 b 7
theorem ix3_8 (b : Int) : ((3 : Int32) + (9 * iI b)) + 8 = iI (3 + 9 * b + 8) := ix3 b 8
theorem ix3_0 (b : Int) : ((3 : Int32) + (9 * iI b)) + 0 = iI (3 + 9 * b + 0) := ix3 b 0
theorem ix3_1 (b : Int) : ((3 : Int32) + (9 * iI b)) + 1 = iI (3 + 9 * b + 1) := ix3 b 1
theorem ix3_2 (b : Int) : ((3 : Int32) + (9 * iI b)) + 2 = iI (3 + 9 * b + 2) := ix3 b 2
theorem ix75_0 (b : Int) : ((75 : Int32) + (5 * iI b)) + 0 = iI (75 + 5 * b + 0) := ix75 b 0
theorem ix75_1 (b : Int) : ((75 : Int32) + (5 * iI b)) + 1 = iI (75 + 5 * b + 1) := ix75 b 1
theorem ix75_2 (b : Int) : ((75 : Int32) + (5 * iI b)) + 2 = iI (75 + 5 * b + 2) := ix75 b 2
theorem ix75_3 (b : Int) : ((75 : Int32) + (5 * iI b)) + 3 = iI (75 + 5 * b + 3) := ix75 b 3
theorem ix75_4 (b : Int) : ((75 : Int32) + (5 * iI b)) + 4 = iI (75 + 5 * b + 4) := ix75 b 4
theorem kiS_lt {C : SS} {w : Nat → Int} {S : SS} {b i : Nat} (hO : CfgOk C) (hi : i < (C 0 0).toNat) : kiS C w S b i < (C 0 0).toNat := by
  unfold kiS
  split
  · exact Nat.mod_lt _ (by omega)
  · exact hi
def enM (q : Option Nat) : Int32 := match q with
  | none => iI (-1)
  | some k => iI (k : Int)
theorem beS_lt {C : SS} {w : Nat → Int} {S : SS} {b : Nat} (hO : CfgOk C) : ∀ n, n ≤ (C 0 0).toNat → ∀ q, beS C w S b n = some q → q < (C 0 0).toNat := by
  intro n
  induction n with
  | zero => intro _ q h; cases h
  | succ n ih =>
    intro hn q h
    have hk := kiS_lt (w := w) (S := S) (b := b) hO (i := n) (by omega)
    unfold beS at h
    split at h
    · cases hb : beS C w S b n with
      | none => rw [hb] at h; cases h; exact hk
      | some q2 =>
        rw [hb] at h
        dsimp only at h
        split at h
        · cases h; exact hk
        · cases h; exact ih (by omega) q hb
    · exact ih (by omega) q h
theorem M_atWork_15 {C S Q : SS} {M : Mm} {b k : Nat} (hO : CfgOk C) (h : RelM 15 S Q M) (hb : (b : Int) < C 0 1) (hk : (k : Int) < C 0 0) (A : AvS C S) : f_M_atWork_0_15 (iI b) (iI k) M = some (iI (if S 0 b = 1 ∧ S 2 b = k then 1 else 0)) := by
  have hb6 := sz6 hO hb
  obtain ⟨a1, a2, a3, a4, a5, a6⟩ := A.1 b hb
  have hk3 := hO.2.1
  unfold f_M_atWork_0_15
  simp only [f_M_of, Option.bind_some, l0, l1, ix3]
  rw [rdM h 0 b (z := 3 + 9 * b + 0) (fd 0 rfl) hb6 (by simp only [lyM]; omega)]
  simp only [Option.bind_some]
  have c0 : (iI (S 0 b) = iI 1) ↔ S 0 b = 1 := iI_eq (by omega) (by omega) (by omega) (by omega)
  simp only [c0]
  by_cases e : S 0 b = 1
  · rw [if_pos e, rdM h 17 b (z := 3 + 9 * b + 1) (fd 17 rfl) hb6 (by simp only [lyM]; omega), a4, if_pos e]
    simp only [Option.bind_some]
    have c1 : (iI (S 2 b) = iI k) ↔ S 2 b = k := iI_eq (by omega) (by omega) (by omega) (by omega)
    simp only [c1]
    by_cases e2 : S 2 b = k
    · rw [if_pos e2, if_pos ⟨e, e2⟩]
    · rw [if_neg e2, if_neg (fun q => e2 q.2)]
  · rw [if_neg e, if_neg (fun q => e q.1)]
theorem M_free_15 {C S Q : SS} {w : Nat → Int} {M : Mm} {b k : Nat} (hO : CfgOk C) (h : RelM 15 S Q M) (hw : WyM 10 w M) (hW : WyOk C w) (hb : (b : Int) < C 0 1) (hk : (k : Int) < C 0 0) (A : AvS C S) : f_M_free_0_15_10 (iI b) (iI k) M = some (iI (max 0 (frS w S b k))) := by
  have hb6 := sz6 hO hb
  have hk3 : k < 3 := by have := hO.2.1; omega
  obtain ⟨s1, s2, s3⟩ := A.2 b k hb hk
  obtain ⟨w1, w2, -⟩ := hW.1 b k hb hk
  unfold f_M_free_0_15_10
  simp only [f_M_store, Option.bind_some, ixc, ix57]
  rw [rd_iI (by omega) (by omega) (by decide), show ((3 * (b : Int) + (k : Int)).toNat) = 3 * b + k by omega, hw _ (by omega)]
  simp only [Option.bind_some]
  rw [rdM h 4 (3 * b + k) (z := 57 + 3 * b + k) (fd 4 rfl) (by simp only [szS]; omega) (by simp only [lyM]; omega), M_atWork_15 hO h hb hk A]
  simp only [Option.bind_some, iI_sub]
  have e : w (3 * b + k) - S 4 (3 * b + k) - (if S 0 b = 1 ∧ S 2 b = k then 1 else 0) = frS w S b k := by unfold frS; rw [s2]; omega
  rw [e]
  have hb1 : -9 ≤ frS w S b k ∧ frS w S b k ≤ 9 := by
    unfold frS
    have : S 4 (3 * b + k) ≤ S 15 (3 * b + k) := by rw [s2]; split <;> omega
    omega
  have c0 : (iI (frS w S b k) ≤ 0) ↔ frS w S b k ≤ 0 := iI_le (b := 0) (by omega) (by omega) (by omega) (by omega)
  simp only [c0]
  by_cases e2 : frS w S b k ≤ 0
  · rw [if_pos e2, Int.max_eq_left e2]; rfl
  · rw [if_neg e2, Int.max_eq_right (by omega)]
theorem M_can_15 {C S Q : SS} {w : Nat → Int} {M : Mm} {b k : Nat} (hO : CfgOk C) (h : RelM 15 S Q M) (hw : WyM 10 w M) (hW : WyOk C w) (hb : (b : Int) < C 0 1) (hk : (k : Int) < C 0 0) (A : AvS C S) : f_M_can_0_15_10 (iI b) (iI k) M = some (iI (if avS w S b k then 1 else 0)) := by
  have hb6 := sz6 hO hb
  have hk3 : k < 3 := by have := hO.2.1; omega
  obtain ⟨s1, s2, s3⟩ := A.2 b k hb hk
  obtain ⟨w1, w2, -⟩ := hW.1 b k hb hk
  unfold f_M_can_0_15_10
  rw [M_free_15 hO h hw hW hb hk A]
  simp only [f_M_store, Option.bind_some]
  have hb1 : -9 ≤ frS w S b k ∧ frS w S b k ≤ 9 := by
    unfold frS
    have : S 4 (3 * b + k) ≤ S 15 (3 * b + k) := by rw [s2]; split <;> omega
    omega
  have c0 : (iI (max 0 (frS w S b k)) ≤ 0) ↔ ¬ 0 < frS w S b k := by
    rw [l0, iI_le (by omega) (by omega) (by omega) (by omega)]; omega
  have c1 : (iI (b : Int) = 0) ↔ b = 0 := by
    rw [l0, iI_eq (by omega) (by omega) (by omega) (by omega)]; omega
  simp only [c0, c1]
  by_cases e : 0 < frS w S b k
  · rw [if_neg (by simpa using e)]
    by_cases e2 : b = 0
    · rw [if_pos e2, if_pos ⟨e, Or.inl e2⟩]; rfl
    · rw [if_neg e2, iI_pred (by omega)]
      simp only [ix57]
      rw [rdM h 4 (3 * (b - 1) + k) (z := 57 + 3 * ((b - 1 : Nat) : Int) + k) (fd 4 rfl) (by simp only [szS]; omega) (by simp only [lyM]; omega)]
      obtain ⟨t1, t2, t3⟩ := A.2 (b - 1) k (by omega) hk
      have t4 : S 4 (3 * (b - 1) + k) ≤ S 15 (3 * (b - 1) + k) := by rw [t2]; split <;> omega
      have c2 : (iI (S 4 (3 * (b - 1) + k)) ≤ 0) ↔ ¬ 0 < S 4 (3 * (b - 1) + k) := by
        rw [l0, iI_le (by omega) (by omega) (by omega) (by omega)]; omega
      simp only [Option.bind_some, c2]
      by_cases e3 : 0 < S 4 (3 * (b - 1) + k)
      · rw [if_neg (by simpa using e3), if_pos ⟨e, Or.inr e3⟩]; rfl
      · rw [if_pos e3, if_neg (fun q => q.2.elim e2 e3)]; rfl
  · rw [if_pos e, if_neg (fun q => e q.1)]; rfl
theorem M_chosen_15 {C S Q : SS} {w : Nat → Int} {M : Mm} {b : Nat} (hC : CfgM C M) (hO : CfgOk C) (h : RelM 15 S Q M) (hw : WyM 10 w M) (hW : WyOk C w) (hb : (b : Int) < C 0 1) (A : AvS C S) : f_M_chosen_0_15_10 (iI b) M = some (enM (beS C w S b (C 0 0).toNat)) := by
  have hb6 := sz6 hO hb
  have hk3 := hO.2.1
  have hk1 := hO.1
  have hr := hW.2
  obtain ⟨a1, a2, a3, a4, a5, a6⟩ := A.1 b hb
  have r3 : rd (M.1 15) 99 (iI (3 + 9 * b + 3)) = some (iI (S 2 b)) := rdM h 2 b (fd 2 rfl) hb6 (by simp only [lyM]; omega)
  have r36 : rd (M.1 10) 37 (iI 36) = some (iI (w 36)) := by
    rw [rd_iI (by omega) (by decide) (by decide), show (36 : Int).toNat = 36 from rfl, hw 36 (by omega)]
  have loop := loop_up (σ := Int32 × Int32) (γ := Option Int32) (fun n s => lp_M_chosen_0_15_10_6 n (iI b) s.1 s.2 M) (C 0 0).toNat (fun i s => s.1 = enM (beS C w S b i) ∧ s.2 = iI ((i : Int) + 1)) (fun s => some s.1) ?_ ?_ FW (FW_gt (by omega)) (iI (-1), iI 1) ⟨rfl, rfl⟩
  · obtain ⟨s', hs, e⟩ := loop
    show lp_M_chosen_0_15_10_6 FW (iI b) (-1) 1 M = _
    exact e.trans (by rw [hs.1])
  · rintro n i ⟨x4, x5⟩ hi ⟨e4, e5⟩
    dsimp only at e4 e5
    subst e4; subst e5
    have hki := kiS_lt (w := w) (S := S) (b := b) hO hi
    refine ⟨(enM (beS C w S b (i + 1)), iI (((i + 1 : Nat) : Int) + 1)), ?_, rfl, rfl⟩
    show blp_M_chosen_0_15_10_6 (lp_M_chosen_0_15_10_6 n) (iI b) (enM (beS C w S b i)) (iI ((i : Int) + 1)) M = lp_M_chosen_0_15_10_6 n (iI b) (enM (beS C w S b (i + 1))) (iI (((i + 1 : Nat) : Int) + 1)) M
    unfold blp_M_chosen_0_15_10_6
    have c0 : (iI (C 0 0) < iI ((i : Int) + 1)) ↔ C 0 0 < (i : Int) + 1 := iI_lt (by omega) (by omega) (by omega) (by omega)
    rw [hC.1]
    simp only [c0]
    rw [if_neg (by omega)]
    simp only [f_M_of, Option.bind_some, ix3_3, r3, r36, show (36 : Int32) = iI 36 from rfl]
    have key : j_M_chosen_0_15_10_56 (lp_M_chosen_0_15_10_6 n) (iI b) (enM (beS C w S b i)) (iI ((i : Int) + 1)) (iI (kiS C w S b i : Int)) M = lp_M_chosen_0_15_10_6 n (iI b) (enM (beS C w S b (i + 1))) (iI (((i + 1 : Nat) : Int) + 1)) M := by
      unfold j_M_chosen_0_15_10_56
      rw [M_can_15 hO h hw hW hb (by omega) A]
      simp only [Option.bind_some]
      have e9 : iI ((i : Int) + 1) + 1 = iI (((i + 1 : Nat) : Int) + 1) := by rw [l1, iI_add]; congr 1
      by_cases av : avS w S b (kiS C w S b i)
      · rw [if_pos av, if_neg (show ¬ iI 1 = 0 by decide)]
        cases hb2 : beS C w S b i with
        | none =>
          have hbe : beS C w S b (i + 1) = some (kiS C w S b i) := by
            show (if avS w S b (kiS C w S b i) then _ else _) = _
            rw [if_pos av, hb2]
          rw [hbe]
          unfold enM
          dsimp only
          rw [if_pos (show iI (-1) = -1 from rfl)]
          unfold j_M_chosen_0_15_10_108 j_M_chosen_0_15_10_112
          rw [e9]
        | some q =>
          have hq := beS_lt hO i (by omega) q hb2
          have hbe : beS C w S b (i + 1) = if w 36 = 1 ∧ frS w S b q < frS w S b (kiS C w S b i) then some (kiS C w S b i) else some q := by
            show (if avS w S b (kiS C w S b i) then _ else _) = _
            rw [if_pos av, hb2]
          rw [hbe]
          have ne1 : ¬ iI (q : Int) = -1 := by rw [lm1, iI_eq (by omega) (by omega) (by omega) (by omega)]; omega
          show (if iI (q : Int) = -1 then _ else _) = _
          rw [if_neg ne1]
          rw [show (36 : Int32) = iI 36 from rfl, r36]
          simp only [Option.bind_some]
          have c3 : (iI (w 36) = 1) ↔ w 36 = 1 := by rw [l1, iI_eq (by omega) (by omega) (by omega) (by omega)]
          simp only [c3]
          by_cases e1 : w 36 = 1
          · rw [if_pos e1, M_free_15 hO h hw hW hb (by omega) A]
            simp only [Option.bind_some]
            show (Option.bind (f_M_free_0_15_10 (iI b) (iI (q : Int)) M) _) = _
            rw [M_free_15 hO h hw hW hb (by omega) A]
            simp only [Option.bind_some]
            have bq := A.2 b q hb (by omega)
            have bk := A.2 b (kiS C w S b i) hb (by omega)
            have wq := hW.1 b q hb (by omega)
            have wk := hW.1 b (kiS C w S b i) hb (by omega)
            have fq : -9 ≤ frS w S b q ∧ frS w S b q ≤ 9 := by
              unfold frS
              have : S 4 (3 * b + q) ≤ S 15 (3 * b + q) := by rw [bq.2.1]; split <;> omega
              omega
            have fk : -9 ≤ frS w S b (kiS C w S b i) ∧ frS w S b (kiS C w S b i) ≤ 9 := by
              unfold frS
              have : S 4 (3 * b + kiS C w S b i) ≤ S 15 (3 * b + kiS C w S b i) := by rw [bk.2.1]; split <;> omega
              omega
            have av1 := av.1
            have c5 : (iI (max 0 (frS w S b (kiS C w S b i))) ≤ iI (max 0 (frS w S b q))) ↔ ¬ frS w S b q < frS w S b (kiS C w S b i) := by
              rw [iI_le (by omega) (by omega) (by omega) (by omega)]; omega
            simp only [c5]
            by_cases e6 : frS w S b q < frS w S b (kiS C w S b i)
            · rw [if_neg (by simpa using e6), if_pos ⟨e1, e6⟩]
              unfold j_M_chosen_0_15_10_108 j_M_chosen_0_15_10_112
              rw [e9]
              rfl
            · rw [if_pos e6, if_neg (fun z => e6 z.2)]
              unfold j_M_chosen_0_15_10_112
              rw [e9]
          · rw [if_neg e1, if_neg (fun z => e1 z.1)]
            unfold j_M_chosen_0_15_10_112
            rw [e9]
      · have hbe : beS C w S b (i + 1) = beS C w S b i := by
          show (if avS w S b (kiS C w S b i) then _ else _) = _
          rw [if_neg av]
        rw [if_neg av, if_pos (show iI 0 = 0 from rfl), hbe]
        unfold j_M_chosen_0_15_10_112
        rw [e9]
    have c7 : (iI (w 36) = 2) ↔ w 36 = 2 := by rw [l2, iI_eq (by omega) (by omega) (by omega) (by omega)]
    have c8 : (iI (S 2 b) = -2) ↔ S 2 b = -2 := by rw [lm2, iI_eq (by omega) (by omega) (by omega) (by omega)]
    simp only [c7, c8]
    have k52 : kiS C w S b i = i → j_M_chosen_0_15_10_52 (lp_M_chosen_0_15_10_6 n) (iI b) (enM (beS C w S b i)) (iI ((i : Int) + 1)) M = lp_M_chosen_0_15_10_6 n (iI b) (enM (beS C w S b (i + 1))) (iI (((i + 1 : Nat) : Int) + 1)) M := by
      intro e
      unfold j_M_chosen_0_15_10_52
      rw [← key, e]
      congr 1
      rw [l1, iI_sub]; congr 1; omega
    by_cases e2 : w 36 = 2
    · rw [if_pos e2]
      by_cases e3 : S 2 b = -2
      · rw [if_pos e3]
        exact k52 (by unfold kiS; rw [if_neg (fun z => z.2 e3)])
      · rw [if_neg e3, iI_add, rmI_iI (by omega) (by omega) (by omega) (by omega)]
        simp only [Option.bind_some]
        rw [← key]
        congr 2
        unfold kiS
        rw [if_pos ⟨e2, e3⟩]
        have : S 2 b + ((i : Int) + 1) = (((S 2 b).toNat + 1 + i : Nat) : Int) := by omega
        rw [this, Int.natCast_emod, show (((C 0 0).toNat : Nat) : Int) = C 0 0 by omega]
    · rw [if_neg e2]
      exact k52 (by unfold kiS; rw [if_neg (fun z => e2 z.1)])
  · rintro n ⟨x4, x5⟩ ⟨e4, e5⟩
    dsimp only at e4 e5
    subst e4; subst e5
    show blp_M_chosen_0_15_10_6 (lp_M_chosen_0_15_10_6 n) (iI b) _ _ M = _
    unfold blp_M_chosen_0_15_10_6
    have c0 : (iI (C 0 0) < iI (((C 0 0).toNat : Int) + 1)) ↔ C 0 0 < ((C 0 0).toNat : Int) + 1 := iI_lt (by omega) (by omega) (by omega) (by omega)
    rw [hC.1]
    simp only [c0]
    rw [if_pos (by omega)]
theorem M_atWork_16 {C S Q : SS} {M : Mm} {b k : Nat} (hO : CfgOk C) (h : RelM 16 S Q M) (hb : (b : Int) < C 0 1) (hk : (k : Int) < C 0 0) (A : AvS C S) : f_M_atWork_0_16 (iI b) (iI k) M = some (iI (if S 0 b = 1 ∧ S 2 b = k then 1 else 0)) := by
  have hb6 := sz6 hO hb
  obtain ⟨a1, a2, a3, a4, a5, a6⟩ := A.1 b hb
  have hk3 := hO.2.1
  unfold f_M_atWork_0_16
  simp only [f_M_of, Option.bind_some, l0, l1, ix3]
  rw [rdM h 0 b (z := 3 + 9 * b + 0) (fd 0 rfl) hb6 (by simp only [lyM]; omega)]
  simp only [Option.bind_some]
  have c0 : (iI (S 0 b) = iI 1) ↔ S 0 b = 1 := iI_eq (by omega) (by omega) (by omega) (by omega)
  simp only [c0]
  by_cases e : S 0 b = 1
  · rw [if_pos e, rdM h 17 b (z := 3 + 9 * b + 1) (fd 17 rfl) hb6 (by simp only [lyM]; omega), a4, if_pos e]
    simp only [Option.bind_some]
    have c1 : (iI (S 2 b) = iI k) ↔ S 2 b = k := iI_eq (by omega) (by omega) (by omega) (by omega)
    simp only [c1]
    by_cases e2 : S 2 b = k
    · rw [if_pos e2, if_pos ⟨e, e2⟩]
    · rw [if_neg e2, if_neg (fun q => e2 q.2)]
  · rw [if_neg e, if_neg (fun q => e q.1)]
theorem M_free_16 {C S Q : SS} {w : Nat → Int} {M : Mm} {b k : Nat} (hO : CfgOk C) (h : RelM 16 S Q M) (hw : WyM 12 w M) (hW : WyOk C w) (hb : (b : Int) < C 0 1) (hk : (k : Int) < C 0 0) (A : AvS C S) : f_M_free_0_16_12 (iI b) (iI k) M = some (iI (max 0 (frS w S b k))) := by
  have hb6 := sz6 hO hb
  have hk3 : k < 3 := by have := hO.2.1; omega
  obtain ⟨s1, s2, s3⟩ := A.2 b k hb hk
  obtain ⟨w1, w2, -⟩ := hW.1 b k hb hk
  unfold f_M_free_0_16_12
  simp only [f_M_store, Option.bind_some, ixc, ix57]
  rw [rd_iI (by omega) (by omega) (by decide), show ((3 * (b : Int) + (k : Int)).toNat) = 3 * b + k by omega, hw _ (by omega)]
  simp only [Option.bind_some]
  rw [rdM h 4 (3 * b + k) (z := 57 + 3 * b + k) (fd 4 rfl) (by simp only [szS]; omega) (by simp only [lyM]; omega), M_atWork_16 hO h hb hk A]
  simp only [Option.bind_some, iI_sub]
  have e : w (3 * b + k) - S 4 (3 * b + k) - (if S 0 b = 1 ∧ S 2 b = k then 1 else 0) = frS w S b k := by unfold frS; rw [s2]; omega
  rw [e]
  have hb1 : -9 ≤ frS w S b k ∧ frS w S b k ≤ 9 := by
    unfold frS
    have : S 4 (3 * b + k) ≤ S 15 (3 * b + k) := by rw [s2]; split <;> omega
    omega
  have c0 : (iI (frS w S b k) ≤ 0) ↔ frS w S b k ≤ 0 := iI_le (b := 0) (by omega) (by omega) (by omega) (by omega)
  simp only [c0]
  by_cases e2 : frS w S b k ≤ 0
  · rw [if_pos e2, Int.max_eq_left e2]; rfl
  · rw [if_neg e2, Int.max_eq_right (by omega)]
theorem M_can_16 {C S Q : SS} {w : Nat → Int} {M : Mm} {b k : Nat} (hO : CfgOk C) (h : RelM 16 S Q M) (hw : WyM 12 w M) (hW : WyOk C w) (hb : (b : Int) < C 0 1) (hk : (k : Int) < C 0 0) (A : AvS C S) : f_M_can_0_16_12 (iI b) (iI k) M = some (iI (if avS w S b k then 1 else 0)) := by
  have hb6 := sz6 hO hb
  have hk3 : k < 3 := by have := hO.2.1; omega
  obtain ⟨s1, s2, s3⟩ := A.2 b k hb hk
  obtain ⟨w1, w2, -⟩ := hW.1 b k hb hk
  unfold f_M_can_0_16_12
  rw [M_free_16 hO h hw hW hb hk A]
  simp only [f_M_store, Option.bind_some]
  have hb1 : -9 ≤ frS w S b k ∧ frS w S b k ≤ 9 := by
    unfold frS
    have : S 4 (3 * b + k) ≤ S 15 (3 * b + k) := by rw [s2]; split <;> omega
    omega
  have c0 : (iI (max 0 (frS w S b k)) ≤ 0) ↔ ¬ 0 < frS w S b k := by
    rw [l0, iI_le (by omega) (by omega) (by omega) (by omega)]; omega
  have c1 : (iI (b : Int) = 0) ↔ b = 0 := by
    rw [l0, iI_eq (by omega) (by omega) (by omega) (by omega)]; omega
  simp only [c0, c1]
  by_cases e : 0 < frS w S b k
  · rw [if_neg (by simpa using e)]
    by_cases e2 : b = 0
    · rw [if_pos e2, if_pos ⟨e, Or.inl e2⟩]; rfl
    · rw [if_neg e2, iI_pred (by omega)]
      simp only [ix57]
      rw [rdM h 4 (3 * (b - 1) + k) (z := 57 + 3 * ((b - 1 : Nat) : Int) + k) (fd 4 rfl) (by simp only [szS]; omega) (by simp only [lyM]; omega)]
      obtain ⟨t1, t2, t3⟩ := A.2 (b - 1) k (by omega) hk
      have t4 : S 4 (3 * (b - 1) + k) ≤ S 15 (3 * (b - 1) + k) := by rw [t2]; split <;> omega
      have c2 : (iI (S 4 (3 * (b - 1) + k)) ≤ 0) ↔ ¬ 0 < S 4 (3 * (b - 1) + k) := by
        rw [l0, iI_le (by omega) (by omega) (by omega) (by omega)]; omega
      simp only [Option.bind_some, c2]
      by_cases e3 : 0 < S 4 (3 * (b - 1) + k)
      · rw [if_neg (by simpa using e3), if_pos ⟨e, Or.inr e3⟩]; rfl
      · rw [if_pos e3, if_neg (fun q => q.2.elim e2 e3)]; rfl
  · rw [if_pos e, if_neg (fun q => e q.1)]; rfl
theorem M_chosen_16 {C S Q : SS} {w : Nat → Int} {M : Mm} {b : Nat} (hC : CfgM C M) (hO : CfgOk C) (h : RelM 16 S Q M) (hw : WyM 12 w M) (hW : WyOk C w) (hb : (b : Int) < C 0 1) (A : AvS C S) : f_M_chosen_0_16_12 (iI b) M = some (enM (beS C w S b (C 0 0).toNat)) := by
  have hb6 := sz6 hO hb
  have hk3 := hO.2.1
  have hk1 := hO.1
  have hr := hW.2
  obtain ⟨a1, a2, a3, a4, a5, a6⟩ := A.1 b hb
  have r3 : rd (M.1 16) 99 (iI (3 + 9 * b + 3)) = some (iI (S 2 b)) := rdM h 2 b (fd 2 rfl) hb6 (by simp only [lyM]; omega)
  have r36 : rd (M.1 12) 37 (iI 36) = some (iI (w 36)) := by
    rw [rd_iI (by omega) (by decide) (by decide), show (36 : Int).toNat = 36 from rfl, hw 36 (by omega)]
  have loop := loop_up (σ := Int32 × Int32) (γ := Option Int32) (fun n s => lp_M_chosen_0_16_12_6 n (iI b) s.1 s.2 M) (C 0 0).toNat (fun i s => s.1 = enM (beS C w S b i) ∧ s.2 = iI ((i : Int) + 1)) (fun s => some s.1) ?_ ?_ FW (FW_gt (by omega)) (iI (-1), iI 1) ⟨rfl, rfl⟩
  · obtain ⟨s', hs, e⟩ := loop
    show lp_M_chosen_0_16_12_6 FW (iI b) (-1) 1 M = _
    exact e.trans (by rw [hs.1])
  · rintro n i ⟨x4, x5⟩ hi ⟨e4, e5⟩
    dsimp only at e4 e5
    subst e4; subst e5
    have hki := kiS_lt (w := w) (S := S) (b := b) hO hi
    refine ⟨(enM (beS C w S b (i + 1)), iI (((i + 1 : Nat) : Int) + 1)), ?_, rfl, rfl⟩
    show blp_M_chosen_0_16_12_6 (lp_M_chosen_0_16_12_6 n) (iI b) (enM (beS C w S b i)) (iI ((i : Int) + 1)) M = lp_M_chosen_0_16_12_6 n (iI b) (enM (beS C w S b (i + 1))) (iI (((i + 1 : Nat) : Int) + 1)) M
    unfold blp_M_chosen_0_16_12_6
    have c0 : (iI (C 0 0) < iI ((i : Int) + 1)) ↔ C 0 0 < (i : Int) + 1 := iI_lt (by omega) (by omega) (by omega) (by omega)
    rw [hC.1]
    simp only [c0]
    rw [if_neg (by omega)]
    simp only [f_M_of, Option.bind_some, ix3_3, r3, r36, show (36 : Int32) = iI 36 from rfl]
    have key : j_M_chosen_0_16_12_56 (lp_M_chosen_0_16_12_6 n) (iI b) (enM (beS C w S b i)) (iI ((i : Int) + 1)) (iI (kiS C w S b i : Int)) M = lp_M_chosen_0_16_12_6 n (iI b) (enM (beS C w S b (i + 1))) (iI (((i + 1 : Nat) : Int) + 1)) M := by
      unfold j_M_chosen_0_16_12_56
      rw [M_can_16 hO h hw hW hb (by omega) A]
      simp only [Option.bind_some]
      have e9 : iI ((i : Int) + 1) + 1 = iI (((i + 1 : Nat) : Int) + 1) := by rw [l1, iI_add]; congr 1
      by_cases av : avS w S b (kiS C w S b i)
      · rw [if_pos av, if_neg (show ¬ iI 1 = 0 by decide)]
        cases hb2 : beS C w S b i with
        | none =>
          have hbe : beS C w S b (i + 1) = some (kiS C w S b i) := by
            show (if avS w S b (kiS C w S b i) then _ else _) = _
            rw [if_pos av, hb2]
          rw [hbe]
          unfold enM
          dsimp only
          rw [if_pos (show iI (-1) = -1 from rfl)]
          unfold j_M_chosen_0_16_12_108 j_M_chosen_0_16_12_112
          rw [e9]
        | some q =>
          have hq := beS_lt hO i (by omega) q hb2
          have hbe : beS C w S b (i + 1) = if w 36 = 1 ∧ frS w S b q < frS w S b (kiS C w S b i) then some (kiS C w S b i) else some q := by
            show (if avS w S b (kiS C w S b i) then _ else _) = _
            rw [if_pos av, hb2]
          rw [hbe]
          have ne1 : ¬ iI (q : Int) = -1 := by rw [lm1, iI_eq (by omega) (by omega) (by omega) (by omega)]; omega
          show (if iI (q : Int) = -1 then _ else _) = _
          rw [if_neg ne1]
          rw [show (36 : Int32) = iI 36 from rfl, r36]
          simp only [Option.bind_some]
          have c3 : (iI (w 36) = 1) ↔ w 36 = 1 := by rw [l1, iI_eq (by omega) (by omega) (by omega) (by omega)]
          simp only [c3]
          by_cases e1 : w 36 = 1
          · rw [if_pos e1, M_free_16 hO h hw hW hb (by omega) A]
            simp only [Option.bind_some]
            show (Option.bind (f_M_free_0_16_12 (iI b) (iI (q : Int)) M) _) = _
            rw [M_free_16 hO h hw hW hb (by omega) A]
            simp only [Option.bind_some]
            have bq := A.2 b q hb (by omega)
            have bk := A.2 b (kiS C w S b i) hb (by omega)
            have wq := hW.1 b q hb (by omega)
            have wk := hW.1 b (kiS C w S b i) hb (by omega)
            have fq : -9 ≤ frS w S b q ∧ frS w S b q ≤ 9 := by
              unfold frS
              have : S 4 (3 * b + q) ≤ S 15 (3 * b + q) := by rw [bq.2.1]; split <;> omega
              omega
            have fk : -9 ≤ frS w S b (kiS C w S b i) ∧ frS w S b (kiS C w S b i) ≤ 9 := by
              unfold frS
              have : S 4 (3 * b + kiS C w S b i) ≤ S 15 (3 * b + kiS C w S b i) := by rw [bk.2.1]; split <;> omega
              omega
            have av1 := av.1
            have c5 : (iI (max 0 (frS w S b (kiS C w S b i))) ≤ iI (max 0 (frS w S b q))) ↔ ¬ frS w S b q < frS w S b (kiS C w S b i) := by
              rw [iI_le (by omega) (by omega) (by omega) (by omega)]; omega
            simp only [c5]
            by_cases e6 : frS w S b q < frS w S b (kiS C w S b i)
            · rw [if_neg (by simpa using e6), if_pos ⟨e1, e6⟩]
              unfold j_M_chosen_0_16_12_108 j_M_chosen_0_16_12_112
              rw [e9]
              rfl
            · rw [if_pos e6, if_neg (fun z => e6 z.2)]
              unfold j_M_chosen_0_16_12_112
              rw [e9]
          · rw [if_neg e1, if_neg (fun z => e1 z.1)]
            unfold j_M_chosen_0_16_12_112
            rw [e9]
      · have hbe : beS C w S b (i + 1) = beS C w S b i := by
          show (if avS w S b (kiS C w S b i) then _ else _) = _
          rw [if_neg av]
        rw [if_neg av, if_pos (show iI 0 = 0 from rfl), hbe]
        unfold j_M_chosen_0_16_12_112
        rw [e9]
    have c7 : (iI (w 36) = 2) ↔ w 36 = 2 := by rw [l2, iI_eq (by omega) (by omega) (by omega) (by omega)]
    have c8 : (iI (S 2 b) = -2) ↔ S 2 b = -2 := by rw [lm2, iI_eq (by omega) (by omega) (by omega) (by omega)]
    simp only [c7, c8]
    have k52 : kiS C w S b i = i → j_M_chosen_0_16_12_52 (lp_M_chosen_0_16_12_6 n) (iI b) (enM (beS C w S b i)) (iI ((i : Int) + 1)) M = lp_M_chosen_0_16_12_6 n (iI b) (enM (beS C w S b (i + 1))) (iI (((i + 1 : Nat) : Int) + 1)) M := by
      intro e
      unfold j_M_chosen_0_16_12_52
      rw [← key, e]
      congr 1
      rw [l1, iI_sub]; congr 1; omega
    by_cases e2 : w 36 = 2
    · rw [if_pos e2]
      by_cases e3 : S 2 b = -2
      · rw [if_pos e3]
        exact k52 (by unfold kiS; rw [if_neg (fun z => z.2 e3)])
      · rw [if_neg e3, iI_add, rmI_iI (by omega) (by omega) (by omega) (by omega)]
        simp only [Option.bind_some]
        rw [← key]
        congr 2
        unfold kiS
        rw [if_pos ⟨e2, e3⟩]
        have : S 2 b + ((i : Int) + 1) = (((S 2 b).toNat + 1 + i : Nat) : Int) := by omega
        rw [this, Int.natCast_emod, show (((C 0 0).toNat : Nat) : Int) = C 0 0 by omega]
    · rw [if_neg e2]
      exact k52 (by unfold kiS; rw [if_neg (fun z => e2 z.1)])
  · rintro n ⟨x4, x5⟩ ⟨e4, e5⟩
    dsimp only at e4 e5
    subst e4; subst e5
    show blp_M_chosen_0_16_12_6 (lp_M_chosen_0_16_12_6 n) (iI b) _ _ M = _
    unfold blp_M_chosen_0_16_12_6
    have c0 : (iI (C 0 0) < iI (((C 0 0).toNat : Int) + 1)) ↔ C 0 0 < ((C 0 0).toNat : Int) + 1 := iI_lt (by omega) (by omega) (by omega) (by omega)
    rw [hC.1]
    simp only [c0]
    rw [if_pos (by omega)]

theorem age_f {C S : SS} {i j : Nat} (h : i ≠ 13) : ageS C S i j = S i j := by
  unfold ageS
  rw [if_neg (fun q => h q.1)]
theorem Bd_congr {C S S2 : SS} (hB : Bd C S) (e : ∀ i j, i ≠ 13 → S2 i j = S i j) : Bd C S2 := by
  unfold Bd AvS at hB ⊢
  simp (disch := decide) only [e]
  exact hB
theorem QF_age (C : SS) (k n : Nat) (q0 q1 q2 cm dl : Int) : QF C k (n + 1) q0 q1 q2 (cm + arS C k n) dl = QF C k n q0 q1 q2 cm dl + (cm - dl) := by
  unfold QF
  have e : cuB C k (n + 1) = cuB C k n + arS C k n * n := rfl
  rw [e]
  have e1 : ((n + 1 : Nat) : Int) - 1 = n := by omega
  rw [e1]
  have e2 : (n : Int) * (cm + arS C k n - dl) = n * (cm - dl) + arS C k n * n := by
    rw [show cm + arS C k n - dl = (cm - dl) + arS C k n by omega, Int.mul_add, Int.mul_comm (n : Int) (arS C k n)]
  have e3 : ((n : Int) - 1) * (cm - dl) = n * (cm - dl) - (cm - dl) := by rw [Int.sub_mul, Int.one_mul]
  rw [e2, e3]
  omega
def QBd (C S Q : SS) : Prop := ∀ k : Nat, (k : Int) < C 0 0 → QK C k (S 14 0).toNat (S 5 k) (S 6 k) (Q 1 k) (Q 2 k) ∧ S 13 k = QF C k (S 14 0).toNat (Q 0 k) (Q 1 k) (Q 2 k) (S 5 k) (S 6 k)
theorem M_serves_15 {C S Q : SS} {M : Mm} {k n : Nat} (hC : CfgM C M) (hO : CfgOk C) (h : RelM 15 S Q M) (hk : (k : Int) < C 0 0) (hn : n ≤ 9999) (h14 : S 14 0 = n) (A : AvS C S) (hq : QK C k n (S 5 k) (S 6 k) (Q 1 k) (Q 2 k)) (hdl : 0 ≤ S 6 k) (hfd : S 12 k = -2 ∨ (0 ≤ S 12 k ∧ S 12 k ≤ 10000)) : ∃ (M' : Mm) (Q' : SS), f_M_serves_0_15 (iI k) (iI n) M = some M' ∧ RelM 15 (srv1 C k S) Q' M' ∧ Only 15 M M' ∧ (∀ c k', k' ≠ k → Q' c k' = Q c k') ∧ QK C k (n + 1) (S 5 k + arS C k n) (S 6 k + dvS C S k) (Q' 1 k) (Q' 2 k) ∧ QF C k (n + 1) (Q' 0 k) (Q' 1 k) (Q' 2 k) (S 5 k + arS C k n) (S 6 k + dvS C S k) = QF C k (n + 1) (Q 0 k) (Q 1 k) (Q 2 k) (S 5 k + arS C k n) (S 6 k) := by
  have hk3 : k < 3 := by have := hO.2.1; omega
  have h1 := hO.2.2.1
  have h6 := hO.2.2.2.1
  obtain ⟨q0, fr, q1, q2, q3, q4, q5⟩ := hq
  have ha := arS_bd hO k n
  have hcu : cuA C k (n + 1) = cuA C k n + arS C k n := rfl
  have hmono := cuA_mono hO k (m := fr + 1) (n := n + 1) (by omega)
  have hfr1 : cuA C k (fr + 1) = cuA C k fr + arS C k fr := rfl
  have hb : (((C 0 1).toNat - 1 : Nat) : Int) < C 0 1 := by omega
  obtain ⟨s1, s2, s3⟩ := A.2 ((C 0 1).toNat - 1) k hb hk
  have s4 : S 4 (3 * ((C 0 1).toNat - 1) + k) ≤ S 15 (3 * ((C 0 1).toNat - 1) + k) := by rw [s2]; split <;> omega
  have hd0 : 0 ≤ dvS C S k := by
    unfold dvS
    rw [h14]
    omega
  obtain ⟨d, hd⟩ : ∃ d : Nat, dvS C S k = (d : Int) := ⟨(dvS C S k).toNat, by omega⟩
  have hdd : (d : Int) = min (S 5 k + arS C k n - S 6 k) (S 4 (3 * ((C 0 1).toNat - 1) + k)) := by
    rw [← hd]; unfold dvS; rw [h14]
  have hfu : d < FW := FW_gt (by have := cuA_bd hO k (n + 1); omega)
  obtain ⟨M2, w2, h2, o2⟩ := h.wr 5 k (z := 75 + 5 * k + 0) (x := S 5 k + arS C k n) (fd 5 rfl) hk3 (by simp only [lyM]; omega)
  have hC2 := o2.cfg (by decide) hC
  have el : 57 + 3 * (((C 0 1).toNat - 1 : Nat) : Int) + (k : Int) = 57 + ((3 * ((C 0 1).toNat - 1) + k : Nat) : Int) := by omega
  have ev : f_M_serves_0_15 (iI k) (iI n) M = lp_M_serves_0_15_28 FW (iI k) (iI n) (iI (57 + ((3 * ((C 0 1).toNat - 1) + k : Nat) : Int))) M2 := by
    unfold f_M_serves_0_15
    simp only [f_M_ofKind, f_M_store, Option.bind_some, ix75_0]
    rw [rdM h 5 k (z := 75 + 5 * k + 0) (fd 5 rfl) hk3 (by simp only [lyM]; omega), M_comeIn hC hO hk3 (by omega) (by omega)]
    simp only [Option.bind_some, iI_add]
    rw [w2]
    simp only [Option.bind_some]
    rw [hC2.2.1, show iI (C 0 1) - 1 = iI (((C 0 1).toNat - 1 : Nat) : Int) by rw [l1, iI_sub]; congr 1; omega, ix57, el]
  rw [ev]
  have h2' : RelM 15 (dlv k (3 * ((C 0 1).toNat - 1) + k) n ((0 : Nat) : Int) (uS S 5 k (S 5 k + arS C k n))) Q M2 := by
    rw [Int.natCast_zero, dlv_0]; exact h2
  have v5 : uS S 5 k (S 5 k + arS C k n) 5 k = S 5 k + arS C k n := uS_eq _ _ _ _
  have v6 : uS S 5 k (S 5 k + arS C k n) 6 k = S 6 k := uS_nf (by decide)
  have v4 : uS S 5 k (S 5 k + arS C k n) 4 (3 * ((C 0 1).toNat - 1) + k) = S 4 (3 * ((C 0 1).toNat - 1) + k) := uS_nf (by decide)
  have v12 : uS S 5 k (S 5 k + arS C k n) 12 k = S 12 k := uS_nf (by decide)
  obtain ⟨M', Q', g1, g2, g3, g4, g5, g6⟩ := M_serve_15 (S := uS S 5 k (S 5 k + arS C k n)) (k := k) (n := n) (l := 3 * ((C 0 1).toNat - 1) + k) hC2 hO hk3 (by omega) (by omega) d (by rw [v5]; omega) (by rw [v6]; exact hdl) (by rw [v5, v6]; omega) (by rw [v4]; omega) (by rw [v5, v6, v4]; omega) (by rw [v4]; omega) (by rw [v12]; exact hfd) d 0 FW Q M2 (by omega) hfu h2' Only.rf ⟨by rw [v5]; omega, fr, q1, by omega, q3, q4, by rw [v6]; omega⟩ (by omega)
  refine ⟨M', Q', g1, ?_, o2.tr g3, g4, ?_, ?_⟩
  · refine g2.congr (fun i j hi hj => ?_) ?_ ?_
    · have n15 : i ≠ 15 := fun e => by unfold fdM at hi; omega
      have n16 : i ≠ 16 := fun e => by unfold fdM at hi; omega
      unfold srv1
      rw [if_neg (fun q => n16 q.1), if_neg (fun q => n15 q.1), hd, h14]
    · unfold srv1
      rw [if_neg (by omega), if_neg (by omega), hd, h14]
    · unfold srv1
      rw [if_neg (by omega), if_neg (by omega), hd, h14]
  · rw [v5, v6] at g5; rw [hd]; exact g5
  · rw [v5, v6] at g6; rw [hd, g6]; congr 1; omega
theorem M_serves_16 {C S Q : SS} {M : Mm} {k n : Nat} (hC : CfgM C M) (hO : CfgOk C) (h : RelM 16 S Q M) (hk : (k : Int) < C 0 0) (hn : n ≤ 9999) (h14 : S 14 0 = n) (A : AvS C S) (hq : QK C k n (S 5 k) (S 6 k) (Q 1 k) (Q 2 k)) (hdl : 0 ≤ S 6 k) (hfd : S 12 k = -2 ∨ (0 ≤ S 12 k ∧ S 12 k ≤ 10000)) : ∃ (M' : Mm) (Q' : SS), f_M_serves_0_16 (iI k) (iI n) M = some M' ∧ RelM 16 (srv1 C k S) Q' M' ∧ Only 16 M M' ∧ (∀ c k', k' ≠ k → Q' c k' = Q c k') ∧ QK C k (n + 1) (S 5 k + arS C k n) (S 6 k + dvS C S k) (Q' 1 k) (Q' 2 k) ∧ QF C k (n + 1) (Q' 0 k) (Q' 1 k) (Q' 2 k) (S 5 k + arS C k n) (S 6 k + dvS C S k) = QF C k (n + 1) (Q 0 k) (Q 1 k) (Q 2 k) (S 5 k + arS C k n) (S 6 k) := by
  have hk3 : k < 3 := by have := hO.2.1; omega
  have h1 := hO.2.2.1
  have h6 := hO.2.2.2.1
  obtain ⟨q0, fr, q1, q2, q3, q4, q5⟩ := hq
  have ha := arS_bd hO k n
  have hcu : cuA C k (n + 1) = cuA C k n + arS C k n := rfl
  have hmono := cuA_mono hO k (m := fr + 1) (n := n + 1) (by omega)
  have hfr1 : cuA C k (fr + 1) = cuA C k fr + arS C k fr := rfl
  have hb : (((C 0 1).toNat - 1 : Nat) : Int) < C 0 1 := by omega
  obtain ⟨s1, s2, s3⟩ := A.2 ((C 0 1).toNat - 1) k hb hk
  have s4 : S 4 (3 * ((C 0 1).toNat - 1) + k) ≤ S 15 (3 * ((C 0 1).toNat - 1) + k) := by rw [s2]; split <;> omega
  have hd0 : 0 ≤ dvS C S k := by
    unfold dvS
    rw [h14]
    omega
  obtain ⟨d, hd⟩ : ∃ d : Nat, dvS C S k = (d : Int) := ⟨(dvS C S k).toNat, by omega⟩
  have hdd : (d : Int) = min (S 5 k + arS C k n - S 6 k) (S 4 (3 * ((C 0 1).toNat - 1) + k)) := by
    rw [← hd]; unfold dvS; rw [h14]
  have hfu : d < FW := FW_gt (by have := cuA_bd hO k (n + 1); omega)
  obtain ⟨M2, w2, h2, o2⟩ := h.wr 5 k (z := 75 + 5 * k + 0) (x := S 5 k + arS C k n) (fd 5 rfl) hk3 (by simp only [lyM]; omega)
  have hC2 := o2.cfg (by decide) hC
  have el : 57 + 3 * (((C 0 1).toNat - 1 : Nat) : Int) + (k : Int) = 57 + ((3 * ((C 0 1).toNat - 1) + k : Nat) : Int) := by omega
  have ev : f_M_serves_0_16 (iI k) (iI n) M = lp_M_serves_0_16_28 FW (iI k) (iI n) (iI (57 + ((3 * ((C 0 1).toNat - 1) + k : Nat) : Int))) M2 := by
    unfold f_M_serves_0_16
    simp only [f_M_ofKind, f_M_store, Option.bind_some, ix75_0]
    rw [rdM h 5 k (z := 75 + 5 * k + 0) (fd 5 rfl) hk3 (by simp only [lyM]; omega), M_comeIn hC hO hk3 (by omega) (by omega)]
    simp only [Option.bind_some, iI_add]
    rw [w2]
    simp only [Option.bind_some]
    rw [hC2.2.1, show iI (C 0 1) - 1 = iI (((C 0 1).toNat - 1 : Nat) : Int) by rw [l1, iI_sub]; congr 1; omega, ix57, el]
  rw [ev]
  have h2' : RelM 16 (dlv k (3 * ((C 0 1).toNat - 1) + k) n ((0 : Nat) : Int) (uS S 5 k (S 5 k + arS C k n))) Q M2 := by
    rw [Int.natCast_zero, dlv_0]; exact h2
  have v5 : uS S 5 k (S 5 k + arS C k n) 5 k = S 5 k + arS C k n := uS_eq _ _ _ _
  have v6 : uS S 5 k (S 5 k + arS C k n) 6 k = S 6 k := uS_nf (by decide)
  have v4 : uS S 5 k (S 5 k + arS C k n) 4 (3 * ((C 0 1).toNat - 1) + k) = S 4 (3 * ((C 0 1).toNat - 1) + k) := uS_nf (by decide)
  have v12 : uS S 5 k (S 5 k + arS C k n) 12 k = S 12 k := uS_nf (by decide)
  obtain ⟨M', Q', g1, g2, g3, g4, g5, g6⟩ := M_serve_16 (S := uS S 5 k (S 5 k + arS C k n)) (k := k) (n := n) (l := 3 * ((C 0 1).toNat - 1) + k) hC2 hO hk3 (by omega) (by omega) d (by rw [v5]; omega) (by rw [v6]; exact hdl) (by rw [v5, v6]; omega) (by rw [v4]; omega) (by rw [v5, v6, v4]; omega) (by rw [v4]; omega) (by rw [v12]; exact hfd) d 0 FW Q M2 (by omega) hfu h2' Only.rf ⟨by rw [v5]; omega, fr, q1, by omega, q3, q4, by rw [v6]; omega⟩ (by omega)
  refine ⟨M', Q', g1, ?_, o2.tr g3, g4, ?_, ?_⟩
  · refine g2.congr (fun i j hi hj => ?_) ?_ ?_
    · have n15 : i ≠ 15 := fun e => by unfold fdM at hi; omega
      have n16 : i ≠ 16 := fun e => by unfold fdM at hi; omega
      unfold srv1
      rw [if_neg (fun q => n16 q.1), if_neg (fun q => n15 q.1), hd, h14]
    · unfold srv1
      rw [if_neg (by omega), if_neg (by omega), hd, h14]
    · unfold srv1
      rw [if_neg (by omega), if_neg (by omega), hd, h14]
  · rw [v5, v6] at g5; rw [hd]; exact g5
  · rw [v5, v6] at g6; rw [hd, g6]; congr 1; omega

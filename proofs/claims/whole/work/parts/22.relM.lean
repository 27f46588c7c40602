/-! the reference's rows: reads and writes -/
theorem l0 : (0 : Int32) = iI 0 := Int32.toInt_inj.mp (by decide)
theorem l1 : (1 : Int32) = iI 1 := Int32.toInt_inj.mp (by decide)
theorem l2 : (2 : Int32) = iI 2 := Int32.toInt_inj.mp (by decide)
theorem l3 : (3 : Int32) = iI 3 := Int32.toInt_inj.mp (by decide)
theorem l4 : (4 : Int32) = iI 4 := Int32.toInt_inj.mp (by decide)
theorem l5 : (5 : Int32) = iI 5 := Int32.toInt_inj.mp (by decide)
theorem l6 : (6 : Int32) = iI 6 := Int32.toInt_inj.mp (by decide)
theorem l7 : (7 : Int32) = iI 7 := Int32.toInt_inj.mp (by decide)
theorem l8 : (8 : Int32) = iI 8 := Int32.toInt_inj.mp (by decide)
theorem l9 : (9 : Int32) = iI 9 := Int32.toInt_inj.mp (by decide)
theorem lm1 : (-1 : Int32) = iI (-1) := Int32.toInt_inj.mp (by decide)
theorem lm2 : (-2 : Int32) = iI (-2) := Int32.toInt_inj.mp (by decide)
theorem ix3 (b c : Int) : ((3 : Int32) + (9 * iI b)) + iI c = iI (3 + 9 * b + c) := by
  rw [l3, l9, iI_mul, iI_add, iI_add]
theorem ix57 (b c : Int) : ((57 : Int32) + (3 * iI b)) + iI c = iI (57 + 3 * b + c) := by
  rw [show (57 : Int32) = iI 57 from rfl, l3, iI_mul, iI_add, iI_add]
theorem ix75 (b c : Int) : ((75 : Int32) + (5 * iI b)) + iI c = iI (75 + 5 * b + c) := by
  rw [show (75 : Int32) = iI 75 from rfl, l5, iI_mul, iI_add, iI_add]
theorem ixc (b c : Int) : ((3 : Int32) * iI b) + iI c = iI (3 * b + c) := by
  rw [l3, iI_mul, iI_add]
theorem iI_pred {b : Nat} (h : 0 < b) : iI (b : Int) - 1 = iI ((b - 1 : Nat) : Int) := by
  rw [l1, iI_sub]; congr 1; omega
theorem rdM {K : Nat} {S Q : SS} {M : Mm} (h : RelM K S Q M) (i j : Nat) {z : Int} (hi : fdM i) (hj : j < szS i) (hz : z = (lyM i j : Int)) : rd (M.1 K) 99 (iI z) = some (iI (S i j)) := by
  subst hz
  have hlt := lyM_lt hi hj
  rw [rd_iI (by omega) (by omega) (by decide), Int.toNat_natCast, h.1 i j hi hj]
theorem wrM {K : Nat} {M : Mm} (i j : Nat) {z : Int} {x : Int32} (hi : fdM i) (hj : j < szS i) (hz : z = (lyM i j : Int)) : wr M K 99 (iI z) x = some (u1 M K (lyM i j) x) := by
  subst hz
  have hlt := lyM_lt hi hj
  rw [wr_iI (by omega) (by omega) (by decide), Int.toNat_natCast]
theorem lyM_ne12 {i j : Nat} (hi : fdM i) (hj : j < szS i) : lyM i j ≠ 1 ∧ lyM i j ≠ 2 := by
  have c : i = 0 ∨ i = 1 ∨ i = 2 ∨ i = 3 ∨ i = 4 ∨ i = 5 ∨ i = 6 ∨ i = 7 ∨ i = 8 ∨ i = 9 ∨ i = 10 ∨ i = 11 ∨ i = 12 ∨ i = 14 ∨ i = 17 := by
    unfold fdM at hi; omega
  rcases c with rfl | rfl | rfl | rfl | rfl | rfl | rfl | rfl | rfl | rfl | rfl | rfl | rfl | rfl | rfl <;>
  simp only [lyM, szS] at hj ⊢ <;> omega
theorem lyM_neQ {i j k c : Nat} (hi : fdM i) (hj : j < szS i) (hk : k < 3) (hc : c < 3) : 75 + 5 * k + 2 + c ≠ lyM i j := by
  have c : i = 0 ∨ i = 1 ∨ i = 2 ∨ i = 3 ∨ i = 4 ∨ i = 5 ∨ i = 6 ∨ i = 7 ∨ i = 8 ∨ i = 9 ∨ i = 10 ∨ i = 11 ∨ i = 12 ∨ i = 14 ∨ i = 17 := by
    unfold fdM at hi; omega
  rcases c with rfl | rfl | rfl | rfl | rfl | rfl | rfl | rfl | rfl | rfl | rfl | rfl | rfl | rfl | rfl <;>
  simp only [lyM, szS] at hj ⊢ <;> omega
theorem RelM.put {K : Nat} {S Q : SS} {M : Mm} (h : RelM K S Q M) {i j : Nat} (hi : fdM i) (hj : j < szS i) (z : Int) : RelM K (uS S i j z) Q (u1 M K (lyM i j) (iI z)) := by
  have hn := lyM_ne12 hi hj
  have h14 : ∀ q, 0 < q → uS S i j z 14 q = S 14 q := fun q hq => if_neg (fun e => by
    have := e.1; subst this; simp only [szS] at hj; omega)
  refine ⟨fun i2 j2 hi2 hj2 => ?_, ?_, ?_, fun k c hk hc => ?_⟩
  · rw [u1_eq]
    by_cases e : lyM i2 j2 = lyM i j
    · obtain ⟨rfl, rfl⟩ := lyM_inj hi2 hj2 hi hj e
      rw [upd_eq, uS_eq]
    · rw [upd_ne e, h.1 i2 j2 hi2 hj2]
      unfold uS
      rw [if_neg (fun q => e (by rw [q.1, q.2]))]
  · rw [u1_eq, upd_ne (Ne.symm hn.1), h14 1 (by decide)]; exact h.2.1
  · rw [u1_eq, upd_ne (Ne.symm hn.2), h14 1 (by decide), h14 2 (by decide)]; exact h.2.2.1
  · rw [u1_eq, upd_ne (lyM_neQ hi hj hk hc)]; exact h.2.2.2 k c hk hc
/-- another row, or a place of the row that isn't told of -/
theorem RelM.other {K K2 : Nat} {S Q : SS} {M : Mm} (h : RelM K S Q M) {i : Nat} {x : Int32} (hk : K ≠ K2) : RelM K S Q (u1 M K2 i x) := by
  unfold RelM
  rw [u1_ne hk]
  exact h
theorem RelM.congr {K : Nat} {S S2 Q : SS} {M : Mm} (h : RelM K S Q M) (e : ∀ i j, fdM i → j < szS i → S2 i j = S i j) (e1 : S2 14 1 = S 14 1) (e2 : S2 14 2 = S 14 2) : RelM K S2 Q M := by
  refine ⟨fun i j hi hj => by rw [h.1 i j hi hj, e i j hi hj], by rw [e1]; exact h.2.1, by rw [e1, e2]; exact h.2.2.1, h.2.2.2⟩
theorem RelM.skip {K : Nat} {S Q : SS} {M : Mm} (h : RelM K S Q M) {i j : Nat} (hi : ¬ fdM i) (z : Int) : RelM K (uS S i j z) Q M := by
  have n14 : i ≠ 14 := fun e => hi (Or.inr (Or.inl e))
  exact h.congr (fun a b ha _ => uS_nf (fun e => hi (e ▸ ha))) (uS_nf (Ne.symm n14)) (uS_nf (Ne.symm n14))
/-- config and ways -/
def CfgM (C : SS) (M : Mm) : Prop := M.1 0 22 = iI (C 0 0) ∧ M.1 0 23 = iI (C 0 1) ∧ M.1 0 24 = iI (C 0 2) ∧ (∀ b : Nat, b < 6 → (b : Int) < C 0 1 → M.1 4 b = iI (C 3 b) ∧ M.1 5 b = iI (C 4 b) ∧ M.1 6 b = iI (C 5 b)) ∧ ∀ i : Nat, i < 4 → (i : Int) < C 0 2 → M.1 7 i = iI (C 6 i) ∧ M.1 8 i = iI (C 7 i) ∧ M.1 9 i = iI (C 8 i)
def CfgOk (C : SS) : Prop := 1 ≤ C 0 0 ∧ C 0 0 ≤ 3 ∧ 1 ≤ C 0 1 ∧ C 0 1 ≤ 6 ∧ 0 ≤ C 0 2 ∧ C 0 2 ≤ 4 ∧ (∀ b, 0 ≤ C 3 b ∧ C 3 b ≤ 60 ∧ 0 ≤ C 4 b ∧ C 4 b ≤ 60 ∧ 0 ≤ C 5 b ∧ C 5 b ≤ 99) ∧ (∀ b, C 5 b ≠ 0 → 1 ≤ C 4 b) ∧ ∀ i : Nat, (i : Int) < C 0 2 → 0 ≤ C 6 i ∧ C 6 i < C 0 0 ∧ 1 ≤ C 7 i ∧ C 7 i ≤ 99 ∧ 0 ≤ C 8 i ∧ C 8 i ≤ 999
def WyM (K : Nat) (w : Nat → Int) (M : Mm) : Prop := ∀ j, j < 37 → M.1 K j = iI (w j)
def WyOk (C : SS) (w : Nat → Int) : Prop := (∀ b k : Nat, (b : Int) < C 0 1 → (k : Int) < C 0 0 → 0 ≤ w (3 * b + k) ∧ w (3 * b + k) ≤ 9 ∧ 1 ≤ w (18 + (3 * b + k)) ∧ w (18 + (3 * b + k)) ≤ 60) ∧ 0 ≤ w 36 ∧ w 36 ≤ 2
theorem CfgM.at {C : SS} {M : Mm} (h : CfgM C M) {K i : Nat} {x : Int32} (hk : 9 < K) : CfgM C (u1 M K i x) := by
  unfold CfgM
  rw [u1_ne (by omega), u1_ne (by omega), u1_ne (by omega), u1_ne (by omega), u1_ne (by omega), u1_ne (by omega), u1_ne (by omega)]
  exact h
theorem WyM.at {K2 : Nat} {w : Nat → Int} {M : Mm} (h : WyM K2 w M) {K i : Nat} {x : Int32} (hk : K2 ≠ K) : WyM K2 w (u1 M K i x) := by
  unfold WyM
  rw [u1_ne hk]
  exact h
/-- always so of a run: what benches do, cards that are held -/
def AvS (C : SS) (S : SS) : Prop :=
  (∀ b : Nat, (b : Int) < C 0 1 → (S 0 b = 0 ∨ S 0 b = 1 ∨ S 0 b = 2) ∧ (S 2 b = -2 ∨ (0 ≤ S 2 b ∧ S 2 b < C 0 0)) ∧ (S 0 b = 1 → S 2 b ≠ -2) ∧ S 17 b = (if S 0 b = 1 then S 2 b else -2) ∧ 0 ≤ S 1 b ∧ S 1 b ≤ 20000) ∧
  (∀ b k : Nat, (b : Int) < C 0 1 → (k : Int) < C 0 0 → 0 ≤ S 4 (3 * b + k) ∧ S 15 (3 * b + k) = S 4 (3 * b + k) + (if S 0 b = 1 ∧ S 2 b = k then 1 else 0) ∧ S 15 (3 * b + k) ≤ 9)
/-- only row K has changed -/
def Only (K : Nat) (M M2 : Mm) : Prop := (∀ q, q ≠ K → M2.1 q = M.1 q) ∧ M2.2 = M.2
theorem Only.rf {K : Nat} {M : Mm} : Only K M M := ⟨fun _ _ => rfl, rfl⟩
theorem Only.u1 {K i : Nat} {M M0 : Mm} {x : Int32} (h : Only K M0 M) : Only K M0 (u1 M K i x) := ⟨fun q hq => by rw [u1_ne hq]; exact h.1 q hq, h.2⟩
theorem Only.tr {K : Nat} {M M2 M3 : Mm} (h : Only K M M2) (h2 : Only K M2 M3) : Only K M M3 := ⟨fun q hq => (h2.1 q hq).trans (h.1 q hq), h2.2.trans h.2⟩
theorem Only.cfg {K : Nat} {M M2 : Mm} {C : SS} (h : Only K M M2) (hk : 9 < K) (hc : CfgM C M) : CfgM C M2 := by
  unfold CfgM
  rw [h.1 0 (by omega), h.1 4 (by omega), h.1 5 (by omega), h.1 6 (by omega), h.1 7 (by omega), h.1 8 (by omega), h.1 9 (by omega)]
  exact hc
theorem Only.wy {K K2 : Nat} {M M2 : Mm} {w : Nat → Int} (h : Only K M M2) (hk : K2 ≠ K) (hc : WyM K2 w M) : WyM K2 w M2 := by
  unfold WyM
  rw [h.1 K2 hk]
  exact hc
theorem sz6 {b : Nat} {C : SS} (hO : CfgOk C) (hb : (b : Int) < C 0 1) : b < 6 := by have := hO.2.2.2.1; omega
theorem fd (i : Nat) (h : decide (i ≤ 12 ∨ i = 14 ∨ i = 17) = true) : fdM i := by
  unfold fdM
  exact of_decide_eq_true h
theorem RelM.wr {K : Nat} {S Q : SS} {M : Mm} (h : RelM K S Q M) (i j : Nat) {z x : Int} (hi : fdM i) (hj : j < szS i) (hz : z = (lyM i j : Int)) : ∃ M2, wr M K 99 (iI z) (iI x) = some M2 ∧ RelM K (uS S i j x) Q M2 ∧ Only K M M2 :=
  ⟨_, wrM i j hi hj hz, h.put hi hj x, Only.rf.u1⟩
theorem rmI_iI {a b : Int} (ha : 0 ≤ a) (ha2 : a < 2147483648) (hb : 0 < b) (hb2 : b < 2147483648) : rmI (iI a) (iI b) = some (iI (a % b)) := by
  unfold rmI
  have hb0 : ¬ iI b = 0 := by rw [l0, iI_eq (by omega) (by omega) (by omega) (by omega)]; omega
  rw [if_neg hb0]
  congr 1
  have e : iI a / iI b = iI (a / b) := by
    rw [← Int32.toInt_inj, Int32.toInt_div, iI_toInt (by omega) (by omega), iI_toInt (by omega) (by omega)]
    have h1 : a / b ≤ a := Int.ediv_le_self b ha
    have h0 : 0 ≤ a / b := Int.ediv_nonneg ha (by omega)
    rw [iI_toInt (by omega) (by omega), Int.tdiv_eq_ediv_of_nonneg ha]
    exact bmod32 (by omega) (by omega)
  rw [e, iI_mul, iI_sub]
  congr 1
  rw [Int.emod_def, Int.mul_comm]

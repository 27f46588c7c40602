theorem RelM.first {K : Nat} {S Q : SS} {M : Mm} (h : RelM K S Q M) {t : Int} (ht : t ≠ -2) (b : Nat) : RelM K (uS (uS S 14 1 t) 14 2 b) Q (u1 (u1 M K 1 (iI t)) K 2 (iI b)) := by
  have v1 : ∀ i j, fdM i → j < szS i → uS (uS S 14 1 t) 14 2 b i j = S i j := by
    intro i j hi hj
    by_cases e : i = 14
    · subst e
      have : j = 0 := by simp only [szS] at hj; omega
      subst this
      rw [uS_ni (by decide), uS_ni (by decide)]
    · rw [uS_nf e, uS_nf e]
  have e1 : uS (uS S 14 1 t) 14 2 b 14 1 = t := by rw [uS_ni (by decide), uS_eq]
  refine ⟨fun i j hi hj => ?_, ?_, fun _ => ?_, fun k c hk hc => ?_⟩
  · have hn := lyM_ne12 hi hj
    rw [u1_eq, upd_ne hn.2, u1_eq, upd_ne hn.1, h.1 i j hi hj, v1 i j hi hj]
  · rw [u1_eq, upd_ne (by decide), u1_eq, upd_eq, e1, if_neg ht]
  · rw [u1_eq, upd_eq, uS_eq]
  · rw [u1_eq, upd_ne (by omega), u1_eq, upd_ne (by omega)]; exact h.2.2.2 k c hk hc
theorem RelM.putQ {K : Nat} {S Q : SS} {M : Mm} (h : RelM K S Q M) {k c : Nat} (hk : k < 3) (hc : c < 3) (z : Int) : RelM K S (uS Q c k z) (u1 M K (75 + 5 * k + 2 + c) (iI z)) := by
  refine ⟨fun i j hi hj => ?_, ?_, fun q => ?_, fun k2 c2 hk2 hc2 => ?_⟩
  · rw [u1_eq, upd_ne (Ne.symm (lyM_neQ hi hj hk hc))]; exact h.1 i j hi hj
  · rw [u1_eq, upd_ne (by omega)]; exact h.2.1
  · rw [u1_eq, upd_ne (by omega)]; exact h.2.2.1 q
  · rw [u1_eq]
    by_cases e : 75 + 5 * k2 + 2 + c2 = 75 + 5 * k + 2 + c
    · obtain ⟨rfl, rfl⟩ : k2 = k ∧ c2 = c := by omega
      rw [upd_eq, uS_eq]
    · rw [upd_ne e, h.2.2.2 k2 c2 hk2 hc2]
      unfold uS
      rw [if_neg (fun q => e (by rw [q.1, q.2]))]
theorem rdQ {K : Nat} {S Q : SS} {M : Mm} (h : RelM K S Q M) (k c : Nat) {z : Int} (hk : k < 3) (hc : c < 3) (hz : z = ((75 + 5 * k + 2 + c : Nat) : Int)) : rd (M.1 K) 99 (iI z) = some (iI (Q c k)) := by
  subst hz
  rw [rd_iI (by omega) (by omega) (by decide), Int.toNat_natCast, h.2.2.2 k c hk hc]
theorem wrQ {K : Nat} {S Q : SS} {M : Mm} (h : RelM K S Q M) (k c : Nat) {z x : Int} (hk : k < 3) (hc : c < 3) (hz : z = ((75 + 5 * k + 2 + c : Nat) : Int)) : ∃ M2, wr M K 99 (iI z) (iI x) = some M2 ∧ RelM K S (uS Q c k x) M2 ∧ Only K M M2 := by
  subst hz
  exact ⟨_, by rw [wr_iI (by omega) (by omega) (by decide), Int.toNat_natCast], h.putQ hk hc x, Only.rf.u1⟩
/-- orders of a kind that came ahead of minute n; and their minutes' sum -/
def cuA (C : SS) (k : Nat) : Nat → Int
  | 0 => 0
  | n + 1 => cuA C k n + arS C k n
def cuB (C : SS) (k : Nat) : Nat → Int
  | 0 => 0
  | n + 1 => cuB C k n + arS C k n * n
theorem arr_bd (C : SS) (k : Nat) (t : Int) : ∀ n, 0 ≤ arr C k t n ∧ arr C k t n ≤ n
  | 0 => ⟨Int.le_refl _, Int.le_refl _⟩
  | n + 1 => by
    have := arr_bd C k t n
    unfold arr
    split <;> omega
theorem arS_bd {C : SS} (hO : CfgOk C) (k : Nat) (t : Int) : 0 ≤ arS C k t ∧ arS C k t ≤ 4 := by
  have h := arr_bd C k t (C 0 2).toNat
  have := hO.2.2.2.2.2.1
  unfold arS
  omega
theorem cuA_bd {C : SS} (hO : CfgOk C) (k : Nat) : ∀ n, 0 ≤ cuA C k n ∧ cuA C k n ≤ 4 * n
  | 0 => ⟨Int.le_refl _, Int.le_refl _⟩
  | n + 1 => by
    have := cuA_bd hO k n
    have := arS_bd hO k n
    unfold cuA
    omega
theorem cuA_mono {C : SS} (hO : CfgOk C) (k : Nat) {m : Nat} : ∀ {n : Nat}, m ≤ n → cuA C k m ≤ cuA C k n
  | 0, h => by have : m = 0 := by omega
               subst this; exact Int.le_refl _
  | n + 1, h => by
    by_cases e : m = n + 1
    · subst e; exact Int.le_refl _
    · have := cuA_mono hO k (m := m) (n := n) (by omega)
      have := arS_bd hO k n
      show cuA C k m ≤ cuA C k n + arS C k n
      omega
theorem M_comeIn {C : SS} {M : Mm} {k : Nat} {t : Int} (hC : CfgM C M) (hO : CfgOk C) (hk : k < 3) (ht : 0 ≤ t) (ht2 : t ≤ 20000) : f_M_comeIn_0 (iI k) (iI t) M = some (iI (arS C k t)) := by
  have hs := hO.2.2.2.2
  have loop := loop_up (σ := Int32 × Int32) (γ := Option Int32) (fun n s => lp_M_comeIn_0_5 n (iI k) (iI t) s.1 s.2 M) (C 0 2).toNat (fun i s => s.1 = iI (arr C k t i) ∧ s.2 = iI (i : Int)) (fun s => some s.1) ?_ ?_ FW (FW_gt (by omega)) (iI 0, iI 0) ⟨rfl, rfl⟩
  · obtain ⟨s', hs, e⟩ := loop
    exact e.trans (by rw [hs.1]; rfl)
  · rintro n i ⟨x3, x4⟩ hi ⟨e3, e4⟩
    dsimp only at e3 e4
    subst e3; subst e4
    refine ⟨(iI (arr C k t (i + 1)), iI ((i + 1 : Nat) : Int)), ?_, rfl, rfl⟩
    show blp_M_comeIn_0_5 (lp_M_comeIn_0_5 n) (iI k) (iI t) (iI (arr C k t i)) (iI (i : Int)) M = lp_M_comeIn_0_5 n (iI k) (iI t) _ _ M
    unfold blp_M_comeIn_0_5
    have c0 : (iI (C 0 2) ≤ iI (i : Int)) ↔ C 0 2 ≤ (i : Int) := iI_le (by omega) (by omega) (by omega) (by omega)
    rw [hC.2.2.1]
    simp only [c0]
    rw [if_neg (by omega)]
    have hi4 : i < 4 := by omega
    have hg := hC.2.2.2.2 i hi4 (by omega)
    have hb := hO.2.2.2.2.2.2.2.2 i (by omega)
    have hkk := hO.2.1
    rw [rd_iI (n := 8) (by omega) (by omega) (by decide), rd_iI (n := 8) (by omega) (by omega) (by decide), rd_iI (n := 8) (by omega) (by omega) (by decide), Int.toNat_natCast, hg.1, hg.2.1, hg.2.2]
    have c1 : (iI (C 6 i) = iI (k : Int)) ↔ C 6 i = k := iI_eq (by omega) (by omega) (by omega) (by omega)
    have c2 : (iI t < iI (C 8 i)) ↔ t < C 8 i := iI_lt (by omega) (by omega) (by omega) (by omega)
    simp only [Option.bind_some, c1, c2]
    have fin : ∀ z : Int, j_M_comeIn_0_62 (lp_M_comeIn_0_5 n) (iI k) (iI t) (iI (i : Int)) (iI z) (iI (arr C k t i)) M = lp_M_comeIn_0_5 n (iI k) (iI t) (iI (arr C k t i + z)) (iI ((i + 1 : Nat) : Int)) M := by
      intro z
      unfold j_M_comeIn_0_62
      rw [iI_add, l1, iI_add]
      rfl
    have no : ¬ (C 6 i = k ∧ C 8 i ≤ t ∧ (t - C 8 i) % C 7 i = 0) → j_M_comeIn_0_61 (lp_M_comeIn_0_5 n) (iI k) (iI t) (iI (i : Int)) (iI (arr C k t i)) M = lp_M_comeIn_0_5 n (iI k) (iI t) (iI (arr C k t (i + 1))) (iI ((i + 1 : Nat) : Int)) M := by
      intro q
      unfold j_M_comeIn_0_61
      rw [l0, fin 0]
      congr 2
      show _ = arr C k t i + (if C 6 i = k ∧ C 8 i ≤ t ∧ (t - C 8 i) % C 7 i = 0 then 1 else 0)
      rw [if_neg q]
    by_cases e1 : C 6 i = k
    · rw [if_pos e1]
      by_cases e2 : t < C 8 i
      · rw [if_pos e2]
        exact no (fun q => by omega)
      · rw [if_neg e2, iI_sub, rmI_iI (by omega) (by omega) (by omega) (by omega)]
        have hm : 0 ≤ (t - C 8 i) % C 7 i ∧ (t - C 8 i) % C 7 i < C 7 i := ⟨Int.emod_nonneg _ (by omega), Int.emod_lt_of_pos _ (by omega)⟩
        have c3 : (iI ((t - C 8 i) % C 7 i) = 0) ↔ (t - C 8 i) % C 7 i = 0 := iI_eq (b := 0) (by omega) (by omega) (by omega) (by omega)
        simp only [Option.bind_some, c3]
        by_cases e3 : (t - C 8 i) % C 7 i = 0
        · rw [if_pos e3, l1, fin 1]
          congr 2
          show _ = arr C k t i + _
          rw [if_pos ⟨e1, by omega, e3⟩]
        · rw [if_neg e3]
          exact no (fun q => e3 q.2.2)
    · rw [if_neg e1]
      exact no (fun q => e1 q.1)
  · rintro n ⟨x3, x4⟩ ⟨e3, e4⟩
    dsimp only at e3 e4
    subst e3; subst e4
    show blp_M_comeIn_0_5 (lp_M_comeIn_0_5 n) (iI k) (iI t) _ _ M = _
    unfold blp_M_comeIn_0_5
    have c0 : (iI (C 0 2) ≤ iI ((C 0 2).toNat : Int)) ↔ C 0 2 ≤ ((C 0 2).toNat : Int) := iI_le (by omega) (by omega) (by omega) (by omega)
    rw [hC.2.2.1]
    simp only [c0]
    rw [if_pos (by omega)]
theorem M_tallies_15 {C S Q : SS} {w : Nat → Int} {M : Mm} {b : Nat} (hC : CfgM C M) (hO : CfgOk C) (h : RelM 15 S Q M) (hw : WyM 10 w M) (hW : WyOk C w) (hb : (b : Int) < C 0 1) (A : AvS C S) (hT : 0 ≤ S 14 0) (hT2 : S 14 0 ≤ 10000) (hf : S 14 1 = -2 ∨ (0 ≤ S 14 1 ∧ S 14 1 ≤ 10000)) : ∃ M', f_M_tallies_0_15_10 (iI b) (iI (S 14 0)) M = some M' ∧ RelM 15 (talS C w b S) Q M' ∧ Only 15 M M' := by
  have hb6 := sz6 hO hb
  obtain ⟨a1, a2, a3, a4, a5, a6⟩ := A.1 b hb
  have hkk := hO.2.1
  have hk1 := hO.1
  unfold f_M_tallies_0_15_10 talS
  simp only [f_M_of, Option.bind_some, ix3_0, ix3_5, ix3_6]
  rw [rdM h 0 b (z := 3 + 9 * b + 0) (fd 0 rfl) hb6 (by simp only [lyM]; omega)]
  have c0 : (iI (S 0 b) ≤ 0) ↔ S 0 b ≤ 0 := iI_le (b := 0) (by omega) (by omega) (by omega) (by omega)
  have c1 : (iI (S 0 b) = 1) ↔ S 0 b = 1 := iI_eq (b := 1) (by omega) (by omega) (by omega) (by omega)
  simp only [Option.bind_some, c0, c1]
  by_cases e1 : S 0 b = 1
  · rw [if_neg (by omega), if_pos e1, if_pos e1, rdM h 7 b (z := 3 + 9 * b + 5) (fd 7 rfl) hb6 (by simp only [lyM]; omega)]
    simp only [Option.bind_some, l1, iI_add]
    obtain ⟨M2, w2, h2, o2⟩ := h.wr 7 b (z := 3 + 9 * b + 5) (x := S 7 b + 1) (fd 7 rfl) hb6 (by simp only [lyM]; omega)
    exact ⟨M2, by rw [w2]; rfl, h2, o2⟩
  rw [if_neg e1, if_neg e1]
  by_cases e2 : S 0 b = 2
  · rw [if_neg (by omega), if_pos e2, rdM h 8 b (z := 3 + 9 * b + 6) (fd 8 rfl) hb6 (by simp only [lyM]; omega)]
    simp only [Option.bind_some, l1, iI_add]
    obtain ⟨M2, w2, h2, o2⟩ := h.wr 8 b (z := 3 + 9 * b + 6) (x := S 8 b + 1) (fd 8 rfl) hb6 (by simp only [lyM]; omega)
    exact ⟨M2, by rw [w2]; rfl, h2, o2⟩
  rw [if_pos (by omega), if_neg e2]
  have loop := loop_up (σ := Int32 × Int32) (γ := Option Mm) (fun n s => lp_M_tallies_0_15_10_43 n (iI b) (iI (S 14 0)) s.1 s.2 M) (C 0 0).toNat (fun i s => s.1 = iI (if ffS w S b i = true then 1 else 0) ∧ s.2 = iI (i : Int)) (fun s => j_M_tallies_0_15_10_82 (iI b) (iI (S 14 0)) s.1 M) ?_ ?_ FW (FW_gt (by omega)) (iI 0, iI 0) ⟨rfl, rfl⟩
  · obtain ⟨s', hs, e⟩ := loop
    have e9 : lp_M_tallies_0_15_10_43 FW (iI b) (iI (S 14 0)) 0 0 M = j_M_tallies_0_15_10_82 (iI b) (iI (S 14 0)) (iI (if ffS w S b (C 0 0).toNat = true then 1 else 0)) M := e.trans (by rw [hs.1])
    rw [e9]
    unfold j_M_tallies_0_15_10_82
    by_cases ef : ffS w S b (C 0 0).toNat = true
    · rw [if_pos ef, if_pos ef, if_neg (show ¬ iI 1 = 0 by decide)]
      unfold j_M_tallies_0_15_10_96
      simp only [f_M_of, Option.bind_some, ix3_7, ix3_3]
      rw [rdM h 9 b (z := 3 + 9 * b + 7) (fd 9 rfl) hb6 (by simp only [lyM]; omega)]
      simp only [Option.bind_some]
      obtain ⟨M2, w2, h2, o2⟩ := h.wr 9 b (z := 3 + 9 * b + 7) (x := S 9 b + 1) (fd 9 rfl) hb6 (by simp only [lyM]; omega)
      rw [show iI (S 9 b) + 1 = iI (S 9 b + 1) by rw [l1, iI_add], w2]
      simp only [Option.bind_some]
      rw [if_neg (show ¬ iI 1 = 0 by decide), rdM h2 2 b (z := 3 + 9 * b + 3) (fd 2 rfl) hb6 (by simp only [lyM]; omega), uS_nf (by decide)]
      have c2 : (iI (S 2 b) = -2) ↔ S 2 b = -2 := by rw [lm2, iI_eq (by omega) (by omega) (by omega) (by omega)]
      simp only [Option.bind_some, c2]
      by_cases e3 : S 2 b = -2
      · rw [if_pos e3, if_neg (fun q : S 2 b ≠ -2 ∧ (S 14 1 = -2 ∨ S 14 1 = S 14 0) => q.1 e3)]
        exact ⟨M2, rfl, h2, o2⟩
      · rw [if_neg e3]
        have r1 : rd (M2.1 15) 99 1 = some (iI (if S 14 1 = -2 then -1 else S 14 1)) := by
          rw [l1, rd_iI (by omega) (by decide) (by decide)]
          have := h2.2.1
          rw [uS_nf (by decide)] at this
          exact congrArg some this
        rw [r1]
        simp only [Option.bind_some]
        have set : ∃ M', j_M_tallies_0_15_10_137 (iI b) (iI (S 14 0)) M2 = some M' ∧ RelM 15 (uS (uS (uS S 9 b (S 9 b + 1)) 14 1 (S 14 0)) 14 2 b) Q M' ∧ Only 15 M M' := by
          unfold j_M_tallies_0_15_10_137
          rw [l1, wr_iI (by omega) (by decide) (by decide)]
          simp only [Option.bind_some]
          rw [l2, wr_iI (by omega) (by decide) (by decide)]
          exact ⟨_, rfl, h2.first (by omega) b, (o2.tr Only.rf.u1).tr Only.rf.u1⟩
        by_cases e4 : S 14 1 = -2
        · rw [if_pos e4, if_pos (show iI (-1) = -1 from rfl), if_pos (show S 2 b ≠ -2 ∧ (S 14 1 = -2 ∨ S 14 1 = S 14 0) from ⟨e3, Or.inl e4⟩)]
          exact set
        · rw [if_neg e4]
          have c5 : (iI (S 14 1) = -1) ↔ S 14 1 = -1 := by rw [lm1, iI_eq (by omega) (by omega) (by omega) (by omega)]
          have c6 : (iI (S 14 1) = iI (S 14 0)) ↔ S 14 1 = S 14 0 := iI_eq (by omega) (by omega) (by omega) (by omega)
          simp only [c5, c6]
          rw [if_neg (by omega)]
          by_cases e5 : S 14 1 = S 14 0
          · rw [if_pos e5, if_pos (show S 2 b ≠ -2 ∧ (S 14 1 = -2 ∨ S 14 1 = S 14 0) from ⟨e3, Or.inr e5⟩)]
            exact set
          · rw [if_neg e5, if_neg (fun q : S 2 b ≠ -2 ∧ (S 14 1 = -2 ∨ S 14 1 = S 14 0) => q.2.elim e4 e5)]
            exact ⟨M2, rfl, h2, o2⟩
    · rw [if_neg ef, if_neg ef, if_pos (show iI 0 = 0 from rfl)]
      unfold j_M_tallies_0_15_10_96
      simp only [f_M_of, Option.bind_some, ix3_8]
      rw [rdM h 10 b (z := 3 + 9 * b + 8) (fd 10 rfl) hb6 (by simp only [lyM]; omega)]
      simp only [Option.bind_some]
      obtain ⟨M2, w2, h2, o2⟩ := h.wr 10 b (z := 3 + 9 * b + 8) (x := S 10 b + 1) (fd 10 rfl) hb6 (by simp only [lyM]; omega)
      rw [show iI (S 10 b) + 1 = iI (S 10 b + 1) by rw [l1, iI_add], w2]
      simp only [Option.bind_some]
      rw [if_pos (show iI 0 = 0 from rfl)]
      exact ⟨M2, rfl, h2, o2⟩
  · rintro n i ⟨x6, x7⟩ hi ⟨e6, e7⟩
    dsimp only at e6 e7
    subst e6; subst e7
    refine ⟨(iI (if ffS w S b (i + 1) = true then 1 else 0), iI ((i + 1 : Nat) : Int)), ?_, rfl, rfl⟩
    show blp_M_tallies_0_15_10_43 (lp_M_tallies_0_15_10_43 n) (iI b) (iI (S 14 0)) (iI (if ffS w S b i = true then 1 else 0)) (iI (i : Int)) M = lp_M_tallies_0_15_10_43 n (iI b) (iI (S 14 0)) _ _ M
    unfold blp_M_tallies_0_15_10_43
    have c2 : (iI (C 0 0) ≤ iI (i : Int)) ↔ C 0 0 ≤ (i : Int) := iI_le (by omega) (by omega) (by omega) (by omega)
    rw [hC.1]
    simp only [c2]
    rw [if_neg (by omega)]
    have ei : iI (i : Int) + 1 = iI ((i + 1 : Nat) : Int) := by rw [l1, iI_add]; rfl
    by_cases ef : ffS w S b i = true
    · rw [if_pos ef, if_neg (show ¬ iI 1 = 0 by decide)]
      unfold j_M_tallies_0_15_10_69 j_M_tallies_0_15_10_74
      rw [ei, if_pos (show ffS w S b (i + 1) = true by unfold ffS; rw [ef]; rfl)]
      rfl
    · rw [if_neg ef, if_pos (show iI 0 = 0 from rfl), M_free_15 hO h hw hW hb (by omega) A]
      obtain ⟨s1, s2, s3⟩ := A.2 b i hb (by omega)
      obtain ⟨w1, w2, -⟩ := hW.1 b i hb (by omega)
      have hb1 : -9 ≤ frS w S b i ∧ frS w S b i ≤ 9 := by
        unfold frS
        have : S 4 (3 * b + i) ≤ S 15 (3 * b + i) := by rw [s2]; split <;> omega
        omega
      have c3 : (iI (max 0 (frS w S b i)) ≤ 0) ↔ ¬ 0 < frS w S b i := by
        rw [l0, iI_le (by omega) (by omega) (by omega) (by omega)]; omega
      simp only [Option.bind_some, c3]
      have eff : ffS w S b (i + 1) = decide (0 < frS w S b i) := by
        unfold ffS
        rw [show ffS w S b i = false by simpa using ef, Bool.false_or]
      by_cases e8 : 0 < frS w S b i
      · rw [if_neg (by simpa using e8), if_pos (by rw [eff]; simpa using e8)]
        unfold j_M_tallies_0_15_10_69 j_M_tallies_0_15_10_74
        rw [ei]
        rfl
      · rw [if_pos e8, if_neg (by rw [eff]; simpa using e8)]
        unfold j_M_tallies_0_15_10_74
        rw [ei]
        rfl
  · rintro n ⟨x6, x7⟩ ⟨e6, e7⟩
    dsimp only at e6 e7
    subst e6; subst e7
    show blp_M_tallies_0_15_10_43 (lp_M_tallies_0_15_10_43 n) (iI b) _ _ _ M = _
    unfold blp_M_tallies_0_15_10_43
    have c2 : (iI (C 0 0) ≤ iI ((C 0 0).toNat : Int)) ↔ C 0 0 ≤ ((C 0 0).toNat : Int) := iI_le (by omega) (by omega) (by omega) (by omega)
    rw [hC.1]
    simp only [c2]
    rw [if_pos (by omega)]
theorem M_tallies_16 {C S Q : SS} {w : Nat → Int} {M : Mm} {b : Nat} (hC : CfgM C M) (hO : CfgOk C) (h : RelM 16 S Q M) (hw : WyM 12 w M) (hW : WyOk C w) (hb : (b : Int) < C 0 1) (A : AvS C S) (hT : 0 ≤ S 14 0) (hT2 : S 14 0 ≤ 10000) (hf : S 14 1 = -2 ∨ (0 ≤ S 14 1 ∧ S 14 1 ≤ 10000)) : ∃ M', f_M_tallies_0_16_12 (iI b) (iI (S 14 0)) M = some M' ∧ RelM 16 (talS C w b S) Q M' ∧ Only 16 M M' := by
  have hb6 := sz6 hO hb
  obtain ⟨a1, a2, a3, a4, a5, a6⟩ := A.1 b hb
  have hkk := hO.2.1
  have hk1 := hO.1
  unfold f_M_tallies_0_16_12 talS
  simp only [f_M_of, Option.bind_some, ix3_0, ix3_5, ix3_6]
  rw [rdM h 0 b (z := 3 + 9 * b + 0) (fd 0 rfl) hb6 (by simp only [lyM]; omega)]
  have c0 : (iI (S 0 b) ≤ 0) ↔ S 0 b ≤ 0 := iI_le (b := 0) (by omega) (by omega) (by omega) (by omega)
  have c1 : (iI (S 0 b) = 1) ↔ S 0 b = 1 := iI_eq (b := 1) (by omega) (by omega) (by omega) (by omega)
  simp only [Option.bind_some, c0, c1]
  by_cases e1 : S 0 b = 1
  · rw [if_neg (by omega), if_pos e1, if_pos e1, rdM h 7 b (z := 3 + 9 * b + 5) (fd 7 rfl) hb6 (by simp only [lyM]; omega)]
    simp only [Option.bind_some, l1, iI_add]
    obtain ⟨M2, w2, h2, o2⟩ := h.wr 7 b (z := 3 + 9 * b + 5) (x := S 7 b + 1) (fd 7 rfl) hb6 (by simp only [lyM]; omega)
    exact ⟨M2, by rw [w2]; rfl, h2, o2⟩
  rw [if_neg e1, if_neg e1]
  by_cases e2 : S 0 b = 2
  · rw [if_neg (by omega), if_pos e2, rdM h 8 b (z := 3 + 9 * b + 6) (fd 8 rfl) hb6 (by simp only [lyM]; omega)]
    simp only [Option.bind_some, l1, iI_add]
    obtain ⟨M2, w2, h2, o2⟩ := h.wr 8 b (z := 3 + 9 * b + 6) (x := S 8 b + 1) (fd 8 rfl) hb6 (by simp only [lyM]; omega)
    exact ⟨M2, by rw [w2]; rfl, h2, o2⟩
  rw [if_pos (by omega), if_neg e2]
  have loop := loop_up (σ := Int32 × Int32) (γ := Option Mm) (fun n s => lp_M_tallies_0_16_12_43 n (iI b) (iI (S 14 0)) s.1 s.2 M) (C 0 0).toNat (fun i s => s.1 = iI (if ffS w S b i = true then 1 else 0) ∧ s.2 = iI (i : Int)) (fun s => j_M_tallies_0_16_12_82 (iI b) (iI (S 14 0)) s.1 M) ?_ ?_ FW (FW_gt (by omega)) (iI 0, iI 0) ⟨rfl, rfl⟩
  · obtain ⟨s', hs, e⟩ := loop
    have e9 : lp_M_tallies_0_16_12_43 FW (iI b) (iI (S 14 0)) 0 0 M = j_M_tallies_0_16_12_82 (iI b) (iI (S 14 0)) (iI (if ffS w S b (C 0 0).toNat = true then 1 else 0)) M := e.trans (by rw [hs.1])
    rw [e9]
    unfold j_M_tallies_0_16_12_82
    by_cases ef : ffS w S b (C 0 0).toNat = true
    · rw [if_pos ef, if_pos ef, if_neg (show ¬ iI 1 = 0 by decide)]
      unfold j_M_tallies_0_16_12_96
      simp only [f_M_of, Option.bind_some, ix3_7, ix3_3]
      rw [rdM h 9 b (z := 3 + 9 * b + 7) (fd 9 rfl) hb6 (by simp only [lyM]; omega)]
      simp only [Option.bind_some]
      obtain ⟨M2, w2, h2, o2⟩ := h.wr 9 b (z := 3 + 9 * b + 7) (x := S 9 b + 1) (fd 9 rfl) hb6 (by simp only [lyM]; omega)
      rw [show iI (S 9 b) + 1 = iI (S 9 b + 1) by rw [l1, iI_add], w2]
      simp only [Option.bind_some]
      rw [if_neg (show ¬ iI 1 = 0 by decide), rdM h2 2 b (z := 3 + 9 * b + 3) (fd 2 rfl) hb6 (by simp only [lyM]; omega), uS_nf (by decide)]
      have c2 : (iI (S 2 b) = -2) ↔ S 2 b = -2 := by rw [lm2, iI_eq (by omega) (by omega) (by omega) (by omega)]
      simp only [Option.bind_some, c2]
      by_cases e3 : S 2 b = -2
      · rw [if_pos e3, if_neg (fun q : S 2 b ≠ -2 ∧ (S 14 1 = -2 ∨ S 14 1 = S 14 0) => q.1 e3)]
        exact ⟨M2, rfl, h2, o2⟩
      · rw [if_neg e3]
        have r1 : rd (M2.1 16) 99 1 = some (iI (if S 14 1 = -2 then -1 else S 14 1)) := by
          rw [l1, rd_iI (by omega) (by decide) (by decide)]
          have := h2.2.1
          rw [uS_nf (by decide)] at this
          exact congrArg some this
        rw [r1]
        simp only [Option.bind_some]
        have set : ∃ M', j_M_tallies_0_16_12_137 (iI b) (iI (S 14 0)) M2 = some M' ∧ RelM 16 (uS (uS (uS S 9 b (S 9 b + 1)) 14 1 (S 14 0)) 14 2 b) Q M' ∧ Only 16 M M' := by
          unfold j_M_tallies_0_16_12_137
          rw [l1, wr_iI (by omega) (by decide) (by decide)]
          simp only [Option.bind_some]
          rw [l2, wr_iI (by omega) (by decide) (by decide)]
          exact ⟨_, rfl, h2.first (by omega) b, (o2.tr Only.rf.u1).tr Only.rf.u1⟩
        by_cases e4 : S 14 1 = -2
        · rw [if_pos e4, if_pos (show iI (-1) = -1 from rfl), if_pos (show S 2 b ≠ -2 ∧ (S 14 1 = -2 ∨ S 14 1 = S 14 0) from ⟨e3, Or.inl e4⟩)]
          exact set
        · rw [if_neg e4]
          have c5 : (iI (S 14 1) = -1) ↔ S 14 1 = -1 := by rw [lm1, iI_eq (by omega) (by omega) (by omega) (by omega)]
          have c6 : (iI (S 14 1) = iI (S 14 0)) ↔ S 14 1 = S 14 0 := iI_eq (by omega) (by omega) (by omega) (by omega)
          simp only [c5, c6]
          rw [if_neg (by omega)]
          by_cases e5 : S 14 1 = S 14 0
          · rw [if_pos e5, if_pos (show S 2 b ≠ -2 ∧ (S 14 1 = -2 ∨ S 14 1 = S 14 0) from ⟨e3, Or.inr e5⟩)]
            exact set
          · rw [if_neg e5, if_neg (fun q : S 2 b ≠ -2 ∧ (S 14 1 = -2 ∨ S 14 1 = S 14 0) => q.2.elim e4 e5)]
            exact ⟨M2, rfl, h2, o2⟩
    · rw [if_neg ef, if_neg ef, if_pos (show iI 0 = 0 from rfl)]
      unfold j_M_tallies_0_16_12_96
      simp only [f_M_of, Option.bind_some, ix3_8]
      rw [rdM h 10 b (z := 3 + 9 * b + 8) (fd 10 rfl) hb6 (by simp only [lyM]; omega)]
      simp only [Option.bind_some]
      obtain ⟨M2, w2, h2, o2⟩ := h.wr 10 b (z := 3 + 9 * b + 8) (x := S 10 b + 1) (fd 10 rfl) hb6 (by simp only [lyM]; omega)
      rw [show iI (S 10 b) + 1 = iI (S 10 b + 1) by rw [l1, iI_add], w2]
      simp only [Option.bind_some]
      rw [if_pos (show iI 0 = 0 from rfl)]
      exact ⟨M2, rfl, h2, o2⟩
  · rintro n i ⟨x6, x7⟩ hi ⟨e6, e7⟩
    dsimp only at e6 e7
    subst e6; subst e7
    refine ⟨(iI (if ffS w S b (i + 1) = true then 1 else 0), iI ((i + 1 : Nat) : Int)), ?_, rfl, rfl⟩
    show blp_M_tallies_0_16_12_43 (lp_M_tallies_0_16_12_43 n) (iI b) (iI (S 14 0)) (iI (if ffS w S b i = true then 1 else 0)) (iI (i : Int)) M = lp_M_tallies_0_16_12_43 n (iI b) (iI (S 14 0)) _ _ M
    unfold blp_M_tallies_0_16_12_43
    have c2 : (iI (C 0 0) ≤ iI (i : Int)) ↔ C 0 0 ≤ (i : Int) := iI_le (by omega) (by omega) (by omega) (by omega)
    rw [hC.1]
    simp only [c2]
    rw [if_neg (by omega)]
    have ei : iI (i : Int) + 1 = iI ((i + 1 : Nat) : Int) := by rw [l1, iI_add]; rfl
    by_cases ef : ffS w S b i = true
    · rw [if_pos ef, if_neg (show ¬ iI 1 = 0 by decide)]
      unfold j_M_tallies_0_16_12_69 j_M_tallies_0_16_12_74
      rw [ei, if_pos (show ffS w S b (i + 1) = true by unfold ffS; rw [ef]; rfl)]
      rfl
    · rw [if_neg ef, if_pos (show iI 0 = 0 from rfl), M_free_16 hO h hw hW hb (by omega) A]
      obtain ⟨s1, s2, s3⟩ := A.2 b i hb (by omega)
      obtain ⟨w1, w2, -⟩ := hW.1 b i hb (by omega)
      have hb1 : -9 ≤ frS w S b i ∧ frS w S b i ≤ 9 := by
        unfold frS
        have : S 4 (3 * b + i) ≤ S 15 (3 * b + i) := by rw [s2]; split <;> omega
        omega
      have c3 : (iI (max 0 (frS w S b i)) ≤ 0) ↔ ¬ 0 < frS w S b i := by
        rw [l0, iI_le (by omega) (by omega) (by omega) (by omega)]; omega
      simp only [Option.bind_some, c3]
      have eff : ffS w S b (i + 1) = decide (0 < frS w S b i) := by
        unfold ffS
        rw [show ffS w S b i = false by simpa using ef, Bool.false_or]
      by_cases e8 : 0 < frS w S b i
      · rw [if_neg (by simpa using e8), if_pos (by rw [eff]; simpa using e8)]
        unfold j_M_tallies_0_16_12_69 j_M_tallies_0_16_12_74
        rw [ei]
        rfl
      · rw [if_pos e8, if_neg (by rw [eff]; simpa using e8)]
        unfold j_M_tallies_0_16_12_74
        rw [ei]
        rfl
  · rintro n ⟨x6, x7⟩ ⟨e6, e7⟩
    dsimp only at e6 e7
    subst e6; subst e7
    show blp_M_tallies_0_16_12_43 (lp_M_tallies_0_16_12_43 n) (iI b) _ _ _ M = _
    unfold blp_M_tallies_0_16_12_43
    have c2 : (iI (C 0 0) ≤ iI ((C 0 0).toNat : Int)) ↔ C 0 0 ≤ ((C 0 0).toNat : Int) := iI_le (by omega) (by omega) (by omega) (by omega)
    rw [hC.1]
    simp only [c2]
    rw [if_pos (by omega)]

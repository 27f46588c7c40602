theorem M_starts_15 {C S Q : SS} {w : Nat → Int} {M : Mm} {b : Nat} (hC : CfgM C M) (hO : CfgOk C) (h : RelM 15 S Q M) (hw : WyM 10 w M) (hW : WyOk C w) (hb : (b : Int) < C 0 1) (A : AvS C S) : ∃ M', f_M_starts_0_15_10 (iI b) (iI (S 14 0)) M = some M' ∧ RelM 15 (staS C w b S) Q M' ∧ Only 15 M M' := by
  have hb6 := sz6 hO hb
  obtain ⟨a1, a2, a3, a4, a5, a6⟩ := A.1 b hb
  have hkk := hO.2.1
  unfold f_M_starts_0_15_10 staS
  simp only [f_M_of, Option.bind_some, ix3_0, ix3_3]
  rw [rdM h 0 b (z := 3 + 9 * b + 0) (fd 0 rfl) hb6 (by simp only [lyM]; omega)]
  have c0 : (iI (S 0 b) = 0) ↔ S 0 b = 0 := iI_eq (b := 0) (by omega) (by omega) (by omega) (by omega)
  simp only [Option.bind_some, c0]
  by_cases e0 : S 0 b = 0
  · rw [if_pos e0, if_pos e0, M_chosen_15 hC hO h hw hW hb A]
    simp only [Option.bind_some]
    cases hbe : beS C w S b (C 0 0).toNat with
    | none =>
      unfold enM
      dsimp only
      rw [if_pos (show iI (-1) = -1 from rfl)]
      exact ⟨M, rfl, h, Only.rf⟩
    | some k =>
      have hkl := beS_lt hO _ (Nat.le_refl _) k hbe
      have hk : (k : Int) < C 0 0 := by omega
      have hk3 : k < 3 := by omega
      have ne1 : ¬ iI (k : Int) = -1 := by rw [lm1, iI_eq (by omega) (by omega) (by omega) (by omega)]; omega
      unfold enM
      dsimp only
      rw [if_neg ne1, rdM h 2 b (z := 3 + 9 * b + 3) (fd 2 rfl) hb6 (by simp only [lyM]; omega)]
      simp only [Option.bind_some]
      have fin : ∀ (M1 : Mm) (T : SS), RelM 15 T Q M1 → Only 15 M M1 → ∃ M', j_M_starts_0_15_10_54 (iI b) (iI (S 14 0)) (iI k) (iI (S 2 b)) M1 = some M' ∧ RelM 15 (uS (uS (uS (uS T 1 b (S 14 0 + w (18 + (3 * b + k)) + (if S 2 b ≠ -2 ∧ S 2 b ≠ k then C 3 b else 0))) 0 b 1) 17 b k) 2 b k) Q M' ∧ Only 15 M M' := by
        intro M1 T hT o1
        unfold j_M_starts_0_15_10_54
        simp only [f_M_of, Option.bind_some, ix3_0, ix3_1, ix3_2, ix3_3]
        obtain ⟨M2, w2, h2, o2⟩ := hT.wr 0 b (z := 3 + 9 * b + 0) (x := 1) (fd 0 rfl) hb6 (by simp only [lyM]; omega)
        rw [show (1 : Int32) = iI 1 from rfl, w2]
        simp only [Option.bind_some]
        obtain ⟨M3, w3, h3, o3⟩ := h2.wr 17 b (z := 3 + 9 * b + 1) (x := k) (fd 17 rfl) hb6 (by simp only [lyM]; omega)
        rw [w3]
        simp only [Option.bind_some]
        obtain ⟨M4, w4, h4, o4⟩ := h3.wr 2 b (z := 3 + 9 * b + 3) (x := k) (fd 2 rfl) hb6 (by simp only [lyM]; omega)
        rw [w4]
        simp only [Option.bind_some]
        have o : Only 15 M M4 := ((o1.tr o2).tr o3).tr o4
        have hC4 := o.cfg (by decide) hC
        have hw4 := o.wy (by decide) hw
        have hwb := hW.1 b k hb hk
        have hB := hO.2.2.2.2.2.2.1 b
        have e18 : ((18 : Int32) + 3 * iI (b : Int)) + iI (k : Int) = iI (18 + 3 * b + k) := by rw [show (18 : Int32) = iI 18 from rfl, l3, iI_mul, iI_add, iI_add]
        rw [e18, rd_iI (n := 37) (by omega) (by omega) (by decide), show (18 + 3 * (b : Int) + (k : Int)).toNat = 18 + (3 * b + k) by omega, hw4 _ (by omega)]
        have c2 : (iI (S 2 b) = -2) ↔ S 2 b = -2 := by rw [lm2, iI_eq (by omega) (by omega) (by omega) (by omega)]
        have c3 : (iI (S 2 b) = iI k) ↔ S 2 b = k := by rw [iI_eq (by omega) (by omega) (by omega) (by omega)]
        simp only [Option.bind_some, c2, c3]
        have ord : ∀ e : Int, uS (uS (uS (uS T 0 b 1) 17 b k) 2 b k) 1 b e = uS (uS (uS (uS T 1 b e) 0 b 1) 17 b k) 2 b k := by
          intro e
          rw [uS_comm _ (i := 2) (i2 := 1) _ _ (by decide), uS_comm _ (i := 17) (i2 := 1) _ _ (by decide), uS_comm _ (i := 0) (i2 := 1) _ _ (by decide)]
        have put : ∀ e : Int, ∃ M', wr M4 15 99 (iI (3 + 9 * b + 2)) (iI e) = some M' ∧ RelM 15 (uS (uS (uS (uS T 1 b e) 0 b 1) 17 b k) 2 b k) Q M' ∧ Only 15 M M' := by
          intro e
          obtain ⟨M5, w5, h5, o5⟩ := h4.wr 1 b (z := 3 + 9 * b + 2) (x := e) (fd 1 rfl) hb6 (by simp only [lyM]; omega)
          exact ⟨M5, w5, by rw [← ord]; exact h5, o.tr o5⟩
        by_cases e2 : S 2 b = -2
        · rw [if_pos e2, if_neg (fun q : S 2 b ≠ -2 ∧ S 2 b ≠ k => q.1 e2), l0, iI_add, iI_add]
          obtain ⟨M5, w5, h5, o5⟩ := put (S 14 0 + w (18 + (3 * b + k)) + 0)
          exact ⟨M5, by rw [w5]; rfl, h5, o5⟩
        · rw [if_neg e2]
          by_cases e3 : S 2 b = k
          · rw [if_pos e3, if_neg (fun q : S 2 b ≠ -2 ∧ S 2 b ≠ k => q.2 e3), l0, iI_add, iI_add]
            obtain ⟨M5, w5, h5, o5⟩ := put (S 14 0 + w (18 + (3 * b + k)) + 0)
            exact ⟨M5, by rw [w5]; rfl, h5, o5⟩
          · rw [if_neg e3, if_pos (show S 2 b ≠ -2 ∧ S 2 b ≠ k from ⟨e2, e3⟩), rd_iI (n := 12) (by omega) (by omega) (by decide), Int.toNat_natCast, (hC4.2.2.2.1 b hb6 hb).1]
            simp only [Option.bind_some, iI_add]
            obtain ⟨M5, w5, h5, o5⟩ := put (S 14 0 + w (18 + (3 * b + k)) + C 3 b)
            exact ⟨M5, by rw [w5]; rfl, h5, o5⟩
      have cb : (iI (b : Int) ≤ 0) ↔ b = 0 := by rw [l0, iI_le (by omega) (by omega) (by omega) (by omega)]; omega
      simp only [cb]
      unfold begS takS
      by_cases eb : b = 0
      · rw [if_pos eb, if_pos eb]
        exact fin M _ (h.skip (by unfold fdM; omega) _) Only.rf
      · rw [if_neg eb, if_neg eb, iI_pred (by omega)]
        simp only [f_M_store, Option.bind_some, ix57]
        rw [rdM h 4 (3 * (b - 1) + k) (z := 57 + 3 * ((b - 1 : Nat) : Int) + k) (fd 4 rfl) (by simp only [szS]; omega) (by simp only [lyM]; omega)]
        simp only [Option.bind_some]
        obtain ⟨M2, w2, h2, o2⟩ := h.wr 4 (3 * (b - 1) + k) (z := 57 + 3 * ((b - 1 : Nat) : Int) + k) (x := S 4 (3 * (b - 1) + k) - 1) (fd 4 rfl) (by simp only [szS]; omega) (by simp only [lyM]; omega)
        rw [l1, iI_sub, w2]
        simp only [Option.bind_some]
        exact fin M2 _ ((h2.skip (by unfold fdM; omega) _).skip (by unfold fdM; omega) _) o2
  · rw [if_neg e0, if_neg e0]; exact ⟨M, rfl, h, Only.rf⟩
theorem M_peaks_15 {C S Q : SS} {M : Mm} {b : Nat} (hC : CfgM C M) (hO : CfgOk C) (h : RelM 15 S Q M) (hb : (b : Int) < C 0 1) (A : AvS C S) (hp : 0 ≤ S 11 b) (hp2 : S 11 b ≤ 1000) : ∃ M', f_M_peaks_0_15 (iI b) M = some M' ∧ RelM 15 (peaS C b S) Q M' ∧ Only 15 M M' := by
  have hb6 := sz6 hO hb
  have hkk := hO.2.1
  have hk1 := hO.1
  have bnd : ∀ n, n ≤ (C 0 0).toNat → 0 ≤ waS S b n ∧ waS S b n ≤ 9 * n := by
    intro n
    induction n with
    | zero => intro _; exact ⟨Int.le_refl _, Int.le_refl _⟩
    | succ n ih =>
      intro hn
      have i1 := ih (by omega)
      obtain ⟨s1, s2, s3⟩ := A.2 b n hb (by omega)
      have : S 4 (3 * b + n) ≤ S 15 (3 * b + n) := by rw [s2]; split <;> omega
      unfold waS
      omega
  have loop := loop_up (σ := Int32 × Int32) (γ := Option Mm) (fun n s => lp_M_peaks_0_15_5 n (iI b) s.1 s.2 M) (C 0 0).toNat (fun i s => s.1 = iI (waS S b i) ∧ s.2 = iI (i : Int)) (fun s => j_M_peaks_0_15_31 (iI b) s.1 M) ?_ ?_ FW (FW_gt (by omega)) (iI 0, iI 0) ⟨rfl, rfl⟩
  · obtain ⟨s', hs, e⟩ := loop
    have e9 : f_M_peaks_0_15 (iI b) M = j_M_peaks_0_15_31 (iI b) (iI (waS S b (C 0 0).toNat)) M := e.trans (by rw [hs.1])
    rw [e9]
    unfold j_M_peaks_0_15_31 peaS
    have b9 := bnd _ (Nat.le_refl _)
    rw [show (90 : Int32) = iI 90 from rfl, iI_add, rdM h 11 b (z := 90 + b) (fd 11 rfl) hb6 (by simp only [lyM]; omega)]
    have c0 : (iI (waS S b (C 0 0).toNat) ≤ iI (S 11 b)) ↔ waS S b (C 0 0).toNat ≤ S 11 b := iI_le (by omega) (by omega) (by omega) (by omega)
    simp only [Option.bind_some, c0]
    by_cases ec : waS S b (C 0 0).toNat ≤ S 11 b
    · rw [if_pos ec, Int.max_eq_left ec]
      refine ⟨M, rfl, h.congr (fun i j _ _ => ?_) (uS_nf (by decide)) (uS_nf (by decide)), Only.rf⟩
      unfold uS
      split
      · rename_i q; rw [q.1, q.2]
      · rfl
    · rw [if_neg ec, Int.max_eq_right (by omega)]
      obtain ⟨M2, w2, h2, o2⟩ := h.wr 11 b (z := 90 + b) (x := waS S b (C 0 0).toNat) (fd 11 rfl) hb6 (by simp only [lyM]; omega)
      rw [w2]
      exact ⟨M2, rfl, h2, o2⟩
  · rintro n i ⟨x3, x4⟩ hi ⟨e3, e4⟩
    dsimp only at e3 e4
    subst e3; subst e4
    refine ⟨(iI (waS S b (i + 1)), iI ((i + 1 : Nat) : Int)), ?_, rfl, rfl⟩
    show blp_M_peaks_0_15_5 (lp_M_peaks_0_15_5 n) (iI b) (iI (waS S b i)) (iI (i : Int)) M = lp_M_peaks_0_15_5 n (iI b) _ _ M
    unfold blp_M_peaks_0_15_5
    have c0 : (iI (C 0 0) ≤ iI (i : Int)) ↔ C 0 0 ≤ (i : Int) := iI_le (by omega) (by omega) (by omega) (by omega)
    rw [hC.1]
    simp only [c0]
    rw [if_neg (by omega)]
    simp only [f_M_store, Option.bind_some, ix57]
    rw [rdM h 4 (3 * b + i) (z := 57 + 3 * b + i) (fd 4 rfl) (by simp only [szS]; omega) (by simp only [lyM]; omega)]
    simp only [Option.bind_some, iI_add, l1]
    rfl
  · rintro n ⟨x3, x4⟩ ⟨e3, e4⟩
    dsimp only at e3 e4
    subst e3; subst e4
    show blp_M_peaks_0_15_5 (lp_M_peaks_0_15_5 n) (iI b) _ _ M = _
    unfold blp_M_peaks_0_15_5
    have c0 : (iI (C 0 0) ≤ iI ((C 0 0).toNat : Int)) ↔ C 0 0 ≤ ((C 0 0).toNat : Int) := iI_le (by omega) (by omega) (by omega) (by omega)
    rw [hC.1]
    simp only [c0]
    rw [if_pos (by omega)]
theorem M_starts_16 {C S Q : SS} {w : Nat → Int} {M : Mm} {b : Nat} (hC : CfgM C M) (hO : CfgOk C) (h : RelM 16 S Q M) (hw : WyM 12 w M) (hW : WyOk C w) (hb : (b : Int) < C 0 1) (A : AvS C S) : ∃ M', f_M_starts_0_16_12 (iI b) (iI (S 14 0)) M = some M' ∧ RelM 16 (staS C w b S) Q M' ∧ Only 16 M M' := by
  have hb6 := sz6 hO hb
  obtain ⟨a1, a2, a3, a4, a5, a6⟩ := A.1 b hb
  have hkk := hO.2.1
  unfold f_M_starts_0_16_12 staS
  simp only [f_M_of, Option.bind_some, ix3_0, ix3_3]
  rw [rdM h 0 b (z := 3 + 9 * b + 0) (fd 0 rfl) hb6 (by simp only [lyM]; omega)]
  have c0 : (iI (S 0 b) = 0) ↔ S 0 b = 0 := iI_eq (b := 0) (by omega) (by omega) (by omega) (by omega)
  simp only [Option.bind_some, c0]
  by_cases e0 : S 0 b = 0
  · rw [if_pos e0, if_pos e0, M_chosen_16 hC hO h hw hW hb A]
    simp only [Option.bind_some]
    cases hbe : beS C w S b (C 0 0).toNat with
    | none =>
      unfold enM
      dsimp only
      rw [if_pos (show iI (-1) = -1 from rfl)]
      exact ⟨M, rfl, h, Only.rf⟩
    | some k =>
      have hkl := beS_lt hO _ (Nat.le_refl _) k hbe
      have hk : (k : Int) < C 0 0 := by omega
      have hk3 : k < 3 := by omega
      have ne1 : ¬ iI (k : Int) = -1 := by rw [lm1, iI_eq (by omega) (by omega) (by omega) (by omega)]; omega
      unfold enM
      dsimp only
      rw [if_neg ne1, rdM h 2 b (z := 3 + 9 * b + 3) (fd 2 rfl) hb6 (by simp only [lyM]; omega)]
      simp only [Option.bind_some]
      have fin : ∀ (M1 : Mm) (T : SS), RelM 16 T Q M1 → Only 16 M M1 → ∃ M', j_M_starts_0_16_12_54 (iI b) (iI (S 14 0)) (iI k) (iI (S 2 b)) M1 = some M' ∧ RelM 16 (uS (uS (uS (uS T 1 b (S 14 0 + w (18 + (3 * b + k)) + (if S 2 b ≠ -2 ∧ S 2 b ≠ k then C 3 b else 0))) 0 b 1) 17 b k) 2 b k) Q M' ∧ Only 16 M M' := by
        intro M1 T hT o1
        unfold j_M_starts_0_16_12_54
        simp only [f_M_of, Option.bind_some, ix3_0, ix3_1, ix3_2, ix3_3]
        obtain ⟨M2, w2, h2, o2⟩ := hT.wr 0 b (z := 3 + 9 * b + 0) (x := 1) (fd 0 rfl) hb6 (by simp only [lyM]; omega)
        rw [show (1 : Int32) = iI 1 from rfl, w2]
        simp only [Option.bind_some]
        obtain ⟨M3, w3, h3, o3⟩ := h2.wr 17 b (z := 3 + 9 * b + 1) (x := k) (fd 17 rfl) hb6 (by simp only [lyM]; omega)
        rw [w3]
        simp only [Option.bind_some]
        obtain ⟨M4, w4, h4, o4⟩ := h3.wr 2 b (z := 3 + 9 * b + 3) (x := k) (fd 2 rfl) hb6 (by simp only [lyM]; omega)
        rw [w4]
        simp only [Option.bind_some]
        have o : Only 16 M M4 := ((o1.tr o2).tr o3).tr o4
        have hC4 := o.cfg (by decide) hC
        have hw4 := o.wy (by decide) hw
        have hwb := hW.1 b k hb hk
        have hB := hO.2.2.2.2.2.2.1 b
        have e18 : ((18 : Int32) + 3 * iI (b : Int)) + iI (k : Int) = iI (18 + 3 * b + k) := by rw [show (18 : Int32) = iI 18 from rfl, l3, iI_mul, iI_add, iI_add]
        rw [e18, rd_iI (n := 37) (by omega) (by omega) (by decide), show (18 + 3 * (b : Int) + (k : Int)).toNat = 18 + (3 * b + k) by omega, hw4 _ (by omega)]
        have c2 : (iI (S 2 b) = -2) ↔ S 2 b = -2 := by rw [lm2, iI_eq (by omega) (by omega) (by omega) (by omega)]
        have c3 : (iI (S 2 b) = iI k) ↔ S 2 b = k := by rw [iI_eq (by omega) (by omega) (by omega) (by omega)]
        simp only [Option.bind_some, c2, c3]
        have ord : ∀ e : Int, uS (uS (uS (uS T 0 b 1) 17 b k) 2 b k) 1 b e = uS (uS (uS (uS T 1 b e) 0 b 1) 17 b k) 2 b k := by
          intro e
          rw [uS_comm _ (i := 2) (i2 := 1) _ _ (by decide), uS_comm _ (i := 17) (i2 := 1) _ _ (by decide), uS_comm _ (i := 0) (i2 := 1) _ _ (by decide)]
        have put : ∀ e : Int, ∃ M', wr M4 16 99 (iI (3 + 9 * b + 2)) (iI e) = some M' ∧ RelM 16 (uS (uS (uS (uS T 1 b e) 0 b 1) 17 b k) 2 b k) Q M' ∧ Only 16 M M' := by
          intro e
          obtain ⟨M5, w5, h5, o5⟩ := h4.wr 1 b (z := 3 + 9 * b + 2) (x := e) (fd 1 rfl) hb6 (by simp only [lyM]; omega)
          exact ⟨M5, w5, by rw [← ord]; exact h5, o.tr o5⟩
        by_cases e2 : S 2 b = -2
        · rw [if_pos e2, if_neg (fun q : S 2 b ≠ -2 ∧ S 2 b ≠ k => q.1 e2), l0, iI_add, iI_add]
          obtain ⟨M5, w5, h5, o5⟩ := put (S 14 0 + w (18 + (3 * b + k)) + 0)
          exact ⟨M5, by rw [w5]; rfl, h5, o5⟩
        · rw [if_neg e2]
          by_cases e3 : S 2 b = k
          · rw [if_pos e3, if_neg (fun q : S 2 b ≠ -2 ∧ S 2 b ≠ k => q.2 e3), l0, iI_add, iI_add]
            obtain ⟨M5, w5, h5, o5⟩ := put (S 14 0 + w (18 + (3 * b + k)) + 0)
            exact ⟨M5, by rw [w5]; rfl, h5, o5⟩
          · rw [if_neg e3, if_pos (show S 2 b ≠ -2 ∧ S 2 b ≠ k from ⟨e2, e3⟩), rd_iI (n := 12) (by omega) (by omega) (by decide), Int.toNat_natCast, (hC4.2.2.2.1 b hb6 hb).1]
            simp only [Option.bind_some, iI_add]
            obtain ⟨M5, w5, h5, o5⟩ := put (S 14 0 + w (18 + (3 * b + k)) + C 3 b)
            exact ⟨M5, by rw [w5]; rfl, h5, o5⟩
      have cb : (iI (b : Int) ≤ 0) ↔ b = 0 := by rw [l0, iI_le (by omega) (by omega) (by omega) (by omega)]; omega
      simp only [cb]
      unfold begS takS
      by_cases eb : b = 0
      · rw [if_pos eb, if_pos eb]
        exact fin M _ (h.skip (by unfold fdM; omega) _) Only.rf
      · rw [if_neg eb, if_neg eb, iI_pred (by omega)]
        simp only [f_M_store, Option.bind_some, ix57]
        rw [rdM h 4 (3 * (b - 1) + k) (z := 57 + 3 * ((b - 1 : Nat) : Int) + k) (fd 4 rfl) (by simp only [szS]; omega) (by simp only [lyM]; omega)]
        simp only [Option.bind_some]
        obtain ⟨M2, w2, h2, o2⟩ := h.wr 4 (3 * (b - 1) + k) (z := 57 + 3 * ((b - 1 : Nat) : Int) + k) (x := S 4 (3 * (b - 1) + k) - 1) (fd 4 rfl) (by simp only [szS]; omega) (by simp only [lyM]; omega)
        rw [l1, iI_sub, w2]
        simp only [Option.bind_some]
        exact fin M2 _ ((h2.skip (by unfold fdM; omega) _).skip (by unfold fdM; omega) _) o2
  · rw [if_neg e0, if_neg e0]; exact ⟨M, rfl, h, Only.rf⟩
theorem M_peaks_16 {C S Q : SS} {M : Mm} {b : Nat} (hC : CfgM C M) (hO : CfgOk C) (h : RelM 16 S Q M) (hb : (b : Int) < C 0 1) (A : AvS C S) (hp : 0 ≤ S 11 b) (hp2 : S 11 b ≤ 1000) : ∃ M', f_M_peaks_0_16 (iI b) M = some M' ∧ RelM 16 (peaS C b S) Q M' ∧ Only 16 M M' := by
  have hb6 := sz6 hO hb
  have hkk := hO.2.1
  have hk1 := hO.1
  have bnd : ∀ n, n ≤ (C 0 0).toNat → 0 ≤ waS S b n ∧ waS S b n ≤ 9 * n := by
    intro n
    induction n with
    | zero => intro _; exact ⟨Int.le_refl _, Int.le_refl _⟩
    | succ n ih =>
      intro hn
      have i1 := ih (by omega)
      obtain ⟨s1, s2, s3⟩ := A.2 b n hb (by omega)
      have : S 4 (3 * b + n) ≤ S 15 (3 * b + n) := by rw [s2]; split <;> omega
      unfold waS
      omega
  have loop := loop_up (σ := Int32 × Int32) (γ := Option Mm) (fun n s => lp_M_peaks_0_16_5 n (iI b) s.1 s.2 M) (C 0 0).toNat (fun i s => s.1 = iI (waS S b i) ∧ s.2 = iI (i : Int)) (fun s => j_M_peaks_0_16_31 (iI b) s.1 M) ?_ ?_ FW (FW_gt (by omega)) (iI 0, iI 0) ⟨rfl, rfl⟩
  · obtain ⟨s', hs, e⟩ := loop
    have e9 : f_M_peaks_0_16 (iI b) M = j_M_peaks_0_16_31 (iI b) (iI (waS S b (C 0 0).toNat)) M := e.trans (by rw [hs.1])
    rw [e9]
    unfold j_M_peaks_0_16_31 peaS
    have b9 := bnd _ (Nat.le_refl _)
    rw [show (90 : Int32) = iI 90 from rfl, iI_add, rdM h 11 b (z := 90 + b) (fd 11 rfl) hb6 (by simp only [lyM]; omega)]
    have c0 : (iI (waS S b (C 0 0).toNat) ≤ iI (S 11 b)) ↔ waS S b (C 0 0).toNat ≤ S 11 b := iI_le (by omega) (by omega) (by omega) (by omega)
    simp only [Option.bind_some, c0]
    by_cases ec : waS S b (C 0 0).toNat ≤ S 11 b
    · rw [if_pos ec, Int.max_eq_left ec]
      refine ⟨M, rfl, h.congr (fun i j _ _ => ?_) (uS_nf (by decide)) (uS_nf (by decide)), Only.rf⟩
      unfold uS
      split
      · rename_i q; rw [q.1, q.2]
      · rfl
    · rw [if_neg ec, Int.max_eq_right (by omega)]
      obtain ⟨M2, w2, h2, o2⟩ := h.wr 11 b (z := 90 + b) (x := waS S b (C 0 0).toNat) (fd 11 rfl) hb6 (by simp only [lyM]; omega)
      rw [w2]
      exact ⟨M2, rfl, h2, o2⟩
  · rintro n i ⟨x3, x4⟩ hi ⟨e3, e4⟩
    dsimp only at e3 e4
    subst e3; subst e4
    refine ⟨(iI (waS S b (i + 1)), iI ((i + 1 : Nat) : Int)), ?_, rfl, rfl⟩
    show blp_M_peaks_0_16_5 (lp_M_peaks_0_16_5 n) (iI b) (iI (waS S b i)) (iI (i : Int)) M = lp_M_peaks_0_16_5 n (iI b) _ _ M
    unfold blp_M_peaks_0_16_5
    have c0 : (iI (C 0 0) ≤ iI (i : Int)) ↔ C 0 0 ≤ (i : Int) := iI_le (by omega) (by omega) (by omega) (by omega)
    rw [hC.1]
    simp only [c0]
    rw [if_neg (by omega)]
    simp only [f_M_store, Option.bind_some, ix57]
    rw [rdM h 4 (3 * b + i) (z := 57 + 3 * b + i) (fd 4 rfl) (by simp only [szS]; omega) (by simp only [lyM]; omega)]
    simp only [Option.bind_some, iI_add, l1]
    rfl
  · rintro n ⟨x3, x4⟩ ⟨e3, e4⟩
    dsimp only at e3 e4
    subst e3; subst e4
    show blp_M_peaks_0_16_5 (lp_M_peaks_0_16_5 n) (iI b) _ _ M = _
    unfold blp_M_peaks_0_16_5
    have c0 : (iI (C 0 0) ≤ iI ((C 0 0).toNat : Int)) ↔ C 0 0 ≤ ((C 0 0).toNat : Int) := iI_le (by omega) (by omega) (by omega) (by omega)
    rw [hC.1]
    simp only [c0]
    rw [if_pos (by omega)]

def ageN (n : Nat) (S : SS) : SS := fun a b => if a = 13 ∧ b < n then S 13 b + S 16 b else S a b
theorem ageN_0 (S : SS) : ageN 0 S = S := by funext a b; unfold ageN; grind
theorem ageN_s (S : SS) (n : Nat) : ageN (n + 1) S = uS (ageN n S) 13 n (S 13 n + S 16 n) := by funext a b; unfold ageN uS; grind
def srX (C : SS) (w : Nat → Int) (S : SS) (b : Nat) : Int := if S 0 b = 1 then 0 else if S 0 b = 2 then 1 else if ffS w S b (C 0 0).toNat = true then 2 else 3
theorem ffS_mono {w : Nat → Int} {S : SS} {b m : Nat} (h : ffS w S b m = true) : ∀ n, ffS w S b (m + n) = true
  | 0 => h
  | n + 1 => by
    show (ffS w S b (m + n) || decide (0 < frS w S b (m + n))) = true
    rw [ffS_mono h n]; rfl
theorem X_wares_35 {C S : SS} {tt : Int} {M : Mm} {b : Nat} (hC : CfgX C M) (hO : CfgOk C) (h : RelX 35 S tt M) (hb : (b : Int) < C 0 1) : f_L_waresIn_35 (iI b) M = some (iI (waS S b (C 0 0).toNat)) := by
  have hb6 := sz6 hO hb
  have hk3 := hO.2.1
  have hk1 := hO.1
  have loop := loop_up (σ := Int32 × Int32) (γ := Option Int32) (fun n s => lp_L_waresIn_35_4 n (iI b) s.1 s.2 M) (C 0 0).toNat (fun i s => s.1 = iI (waS S b i) ∧ s.2 = iI (i : Int)) (fun s => some s.1) ?_ ?_ FW (FW_gt (by omega)) (iI 0, iI 0) ⟨rfl, rfl⟩
  · obtain ⟨s', hs, e⟩ := loop
    have e0 : f_L_waresIn_35 (iI b) M = lp_L_waresIn_35_4 FW (iI b) (iI 0) (iI 0) M := by unfold f_L_waresIn_35; rw [l0]
    rw [e0]
    exact e.trans (by rw [hs.1])
  · rintro n i ⟨x3, x4⟩ hi ⟨e3, e4⟩
    dsimp only at e3 e4
    subst e3; subst e4
    refine ⟨(iI (waS S b (i + 1)), iI ((i + 1 : Nat) : Int)), ?_, rfl, rfl⟩
    show blp_L_waresIn_35_4 (lp_L_waresIn_35_4 n) (iI b) (iI (waS S b i)) (iI (i : Int)) M = lp_L_waresIn_35_4 n (iI b) _ _ M
    unfold blp_L_waresIn_35_4
    have c0 : (iI (C 0 0) ≤ iI (i : Int)) ↔ C 0 0 ≤ (i : Int) := iI_le (by omega) (by omega) (by omega) (by omega)
    have rc : f_P_cell (iI (b : Int)) (iI (i : Int)) = some (iI (3 * b + i)) := by unfold f_P_cell; rw [ixc]
    have r4 : rd (M.1 36) 18 (iI (3 * (b : Int) + i)) = some (iI (S 4 (3 * b + i))) := h.rd 4 (3 * b + i) (fx 4 rfl) (by decide) (by simp only [szX]; omega) (by simp only [ixX]; omega)
    rw [hC.1, if_neg (fun q => by have := c0.mp q; omega), rc, Option.bind_some, r4, Option.bind_some, iI_add, l1, iI_add]
    rfl
  · rintro n ⟨x3, x4⟩ ⟨e3, e4⟩
    dsimp only at e3 e4
    subst e3; subst e4
    show blp_L_waresIn_35_4 (lp_L_waresIn_35_4 n) (iI b) _ _ M = _
    unfold blp_L_waresIn_35_4
    have c0 : (iI (C 0 0) ≤ iI ((C 0 0).toNat : Int)) ↔ C 0 0 ≤ ((C 0 0).toNat : Int) := iI_le (by omega) (by omega) (by omega) (by omega)
    rw [hC.1, if_pos (c0.mpr (by omega))]
theorem X_peaks_35 {C S : SS} {tt : Int} {M : Mm} (hC : CfgX C M) (hO : CfgOk C) (h : RelX 35 S tt M) (A : AvS C S) (hp : ∀ b : Nat, (b : Int) < C 0 1 → 0 ≤ S 11 b ∧ S 11 b ≤ 27) : ∃ M', f_L_raisePeaks_35 M = some M' ∧ RelX 35 (upF (peaS C) (C 0 1).toNat S) tt M' ∧ OnlyX 35 M M' := by
  have hb6 := hO.2.2.2.1
  have hb1 := hO.2.2.1
  have hk1 := hO.1
  have loop := loop_up (σ := Int32 × Mm) (γ := Option Mm) (fun n s => lp_L_raisePeaks_35_2 n s.1 s.2) (C 0 1).toNat (fun i s => s.1 = iI (i : Int) ∧ RelX 35 (upF (peaS C) i S) tt s.2 ∧ OnlyX 35 M s.2) (fun s => some s.2) ?_ ?_ FW (FW_gt (by omega)) (iI 0, M) ⟨rfl, h, OnlyX.rf⟩
  · obtain ⟨⟨x, M'⟩, ⟨-, r, o⟩, e⟩ := loop
    have e0 : f_L_raisePeaks_35 M = lp_L_raisePeaks_35_2 FW (iI 0) M := by unfold f_L_raisePeaks_35; rw [l0]
    exact ⟨M', by rw [e0]; exact e, r, o⟩
  · rintro n i ⟨x, M1⟩ hi ⟨ex, r1, o1⟩
    dsimp only at ex r1 o1
    subst ex
    have hib : (i : Int) < C 0 1 := by omega
    have pph := pea_ph (C := C) S i
    have p11 := pea_11 hO A hp i (by omega) i hib
    have AP : AvS C (upF (peaS C) i S) := AvS_congr A (fun b _ => ⟨pph 0 b (by decide), pph 1 b (by decide), pph 2 b (by decide), pph 17 b (by decide)⟩) (fun b k _ _ => ⟨pph 4 _ (by decide), pph 15 _ (by decide)⟩)
    have wb := waS_bd AP hib (C 0 0).toNat (by omega)
    have hk3 := hO.2.1
    have r11 : rd (M1.1 43) 6 (iI (i : Int)) = some (iI (upF (peaS C) i S 11 i)) := r1.rd 11 i (fx 11 rfl) (by decide) (by simp only [szX]; omega) rfl
    obtain ⟨M2, w2, h2, o2⟩ : ∃ M2, wr M1 43 6 (iI (i : Int)) (iI (max (upF (peaS C) i S 11 i) (waS (upF (peaS C) i S) i (C 0 0).toNat))) = some M2 ∧ RelX 35 (uS (upF (peaS C) i S) 11 i (max (upF (peaS C) i S 11 i) (waS (upF (peaS C) i S) i (C 0 0).toNat))) tt M2 ∧ OnlyX 35 M1 M2 := r1.wr 11 i (fx 11 rfl) (by decide) (by simp only [szX]; omega) rfl
    refine ⟨(iI ((i + 1 : Nat) : Int), M2), ?_, rfl, h2, o1.tr o2⟩
    show blp_L_raisePeaks_35_2 (lp_L_raisePeaks_35_2 n) (iI (i : Int)) M1 = lp_L_raisePeaks_35_2 n (iI ((i + 1 : Nat) : Int)) M2
    unfold blp_L_raisePeaks_35_2
    have c0 : (iI (C 0 1) ≤ iI (i : Int)) ↔ C 0 1 ≤ (i : Int) := iI_le (by omega) (by omega) (by omega) (by omega)
    rw [(o1.cfg (by decide) hC).2.1, if_neg (fun q => by have := c0.mp q; omega), r11, Option.bind_some, X_wares_35 (o1.cfg (by decide) hC) hO r1 hib, Option.bind_some, mx_iI (by omega) (by omega) (by omega) (by omega), w2, Option.bind_some, l1, iI_add]
    rfl
  · rintro n ⟨x, M1⟩ ⟨ex, r1, o1⟩
    dsimp only at ex r1 o1
    subst ex
    show blp_L_raisePeaks_35_2 (lp_L_raisePeaks_35_2 n) (iI ((C 0 1).toNat : Int)) M1 = _
    unfold blp_L_raisePeaks_35_2
    have c0 : (iI (C 0 1) ≤ iI ((C 0 1).toNat : Int)) ↔ C 0 1 ≤ ((C 0 1).toNat : Int) := iI_le (by omega) (by omega) (by omega) (by omega)
    rw [(o1.cfg (by decide) hC).2.1, if_pos (c0.mpr (by omega))]
theorem X_wares_52 {C S : SS} {tt : Int} {M : Mm} {b : Nat} (hC : CfgX C M) (hO : CfgOk C) (h : RelX 52 S tt M) (hb : (b : Int) < C 0 1) : f_L_waresIn_52 (iI b) M = some (iI (waS S b (C 0 0).toNat)) := by
  have hb6 := sz6 hO hb
  have hk3 := hO.2.1
  have hk1 := hO.1
  have loop := loop_up (σ := Int32 × Int32) (γ := Option Int32) (fun n s => lp_L_waresIn_52_4 n (iI b) s.1 s.2 M) (C 0 0).toNat (fun i s => s.1 = iI (waS S b i) ∧ s.2 = iI (i : Int)) (fun s => some s.1) ?_ ?_ FW (FW_gt (by omega)) (iI 0, iI 0) ⟨rfl, rfl⟩
  · obtain ⟨s', hs, e⟩ := loop
    have e0 : f_L_waresIn_52 (iI b) M = lp_L_waresIn_52_4 FW (iI b) (iI 0) (iI 0) M := by unfold f_L_waresIn_52; rw [l0]
    rw [e0]
    exact e.trans (by rw [hs.1])
  · rintro n i ⟨x3, x4⟩ hi ⟨e3, e4⟩
    dsimp only at e3 e4
    subst e3; subst e4
    refine ⟨(iI (waS S b (i + 1)), iI ((i + 1 : Nat) : Int)), ?_, rfl, rfl⟩
    show blp_L_waresIn_52_4 (lp_L_waresIn_52_4 n) (iI b) (iI (waS S b i)) (iI (i : Int)) M = lp_L_waresIn_52_4 n (iI b) _ _ M
    unfold blp_L_waresIn_52_4
    have c0 : (iI (C 0 0) ≤ iI (i : Int)) ↔ C 0 0 ≤ (i : Int) := iI_le (by omega) (by omega) (by omega) (by omega)
    have rc : f_P_cell (iI (b : Int)) (iI (i : Int)) = some (iI (3 * b + i)) := by unfold f_P_cell; rw [ixc]
    have r4 : rd (M.1 53) 18 (iI (3 * (b : Int) + i)) = some (iI (S 4 (3 * b + i))) := h.rd 4 (3 * b + i) (fx 4 rfl) (by decide) (by simp only [szX]; omega) (by simp only [ixX]; omega)
    rw [hC.1, if_neg (fun q => by have := c0.mp q; omega), rc, Option.bind_some, r4, Option.bind_some, iI_add, l1, iI_add]
    rfl
  · rintro n ⟨x3, x4⟩ ⟨e3, e4⟩
    dsimp only at e3 e4
    subst e3; subst e4
    show blp_L_waresIn_52_4 (lp_L_waresIn_52_4 n) (iI b) _ _ M = _
    unfold blp_L_waresIn_52_4
    have c0 : (iI (C 0 0) ≤ iI ((C 0 0).toNat : Int)) ↔ C 0 0 ≤ ((C 0 0).toNat : Int) := iI_le (by omega) (by omega) (by omega) (by omega)
    rw [hC.1, if_pos (c0.mpr (by omega))]
theorem X_peaks_52 {C S : SS} {tt : Int} {M : Mm} (hC : CfgX C M) (hO : CfgOk C) (h : RelX 52 S tt M) (A : AvS C S) (hp : ∀ b : Nat, (b : Int) < C 0 1 → 0 ≤ S 11 b ∧ S 11 b ≤ 27) : ∃ M', f_L_raisePeaks_52 M = some M' ∧ RelX 52 (upF (peaS C) (C 0 1).toNat S) tt M' ∧ OnlyX 52 M M' := by
  have hb6 := hO.2.2.2.1
  have hb1 := hO.2.2.1
  have hk1 := hO.1
  have loop := loop_up (σ := Int32 × Mm) (γ := Option Mm) (fun n s => lp_L_raisePeaks_52_2 n s.1 s.2) (C 0 1).toNat (fun i s => s.1 = iI (i : Int) ∧ RelX 52 (upF (peaS C) i S) tt s.2 ∧ OnlyX 52 M s.2) (fun s => some s.2) ?_ ?_ FW (FW_gt (by omega)) (iI 0, M) ⟨rfl, h, OnlyX.rf⟩
  · obtain ⟨⟨x, M'⟩, ⟨-, r, o⟩, e⟩ := loop
    have e0 : f_L_raisePeaks_52 M = lp_L_raisePeaks_52_2 FW (iI 0) M := by unfold f_L_raisePeaks_52; rw [l0]
    exact ⟨M', by rw [e0]; exact e, r, o⟩
  · rintro n i ⟨x, M1⟩ hi ⟨ex, r1, o1⟩
    dsimp only at ex r1 o1
    subst ex
    have hib : (i : Int) < C 0 1 := by omega
    have pph := pea_ph (C := C) S i
    have p11 := pea_11 hO A hp i (by omega) i hib
    have AP : AvS C (upF (peaS C) i S) := AvS_congr A (fun b _ => ⟨pph 0 b (by decide), pph 1 b (by decide), pph 2 b (by decide), pph 17 b (by decide)⟩) (fun b k _ _ => ⟨pph 4 _ (by decide), pph 15 _ (by decide)⟩)
    have wb := waS_bd AP hib (C 0 0).toNat (by omega)
    have hk3 := hO.2.1
    have r11 : rd (M1.1 60) 6 (iI (i : Int)) = some (iI (upF (peaS C) i S 11 i)) := r1.rd 11 i (fx 11 rfl) (by decide) (by simp only [szX]; omega) rfl
    obtain ⟨M2, w2, h2, o2⟩ : ∃ M2, wr M1 60 6 (iI (i : Int)) (iI (max (upF (peaS C) i S 11 i) (waS (upF (peaS C) i S) i (C 0 0).toNat))) = some M2 ∧ RelX 52 (uS (upF (peaS C) i S) 11 i (max (upF (peaS C) i S 11 i) (waS (upF (peaS C) i S) i (C 0 0).toNat))) tt M2 ∧ OnlyX 52 M1 M2 := r1.wr 11 i (fx 11 rfl) (by decide) (by simp only [szX]; omega) rfl
    refine ⟨(iI ((i + 1 : Nat) : Int), M2), ?_, rfl, h2, o1.tr o2⟩
    show blp_L_raisePeaks_52_2 (lp_L_raisePeaks_52_2 n) (iI (i : Int)) M1 = lp_L_raisePeaks_52_2 n (iI ((i + 1 : Nat) : Int)) M2
    unfold blp_L_raisePeaks_52_2
    have c0 : (iI (C 0 1) ≤ iI (i : Int)) ↔ C 0 1 ≤ (i : Int) := iI_le (by omega) (by omega) (by omega) (by omega)
    rw [(o1.cfg (by decide) hC).2.1, if_neg (fun q => by have := c0.mp q; omega), r11, Option.bind_some, X_wares_52 (o1.cfg (by decide) hC) hO r1 hib, Option.bind_some, mx_iI (by omega) (by omega) (by omega) (by omega), w2, Option.bind_some, l1, iI_add]
    rfl
  · rintro n ⟨x, M1⟩ ⟨ex, r1, o1⟩
    dsimp only at ex r1 o1
    subst ex
    show blp_L_raisePeaks_52_2 (lp_L_raisePeaks_52_2 n) (iI ((C 0 1).toNat : Int)) M1 = _
    unfold blp_L_raisePeaks_52_2
    have c0 : (iI (C 0 1) ≤ iI ((C 0 1).toNat : Int)) ↔ C 0 1 ≤ ((C 0 1).toNat : Int) := iI_le (by omega) (by omega) (by omega) (by omega)
    rw [(o1.cfg (by decide) hC).2.1, if_pos (c0.mpr (by omega))]
theorem X_free_35 {C S : SS} {w : Nat → Int} {tt : Int} {M : Mm} {b k : Nat} (hO : CfgOk C) (h : RelX 35 S tt M) (hw : WyX 32 w M) (hW : WyOk C w) (hb : (b : Int) < C 0 1) (hk : (k : Int) < C 0 0) (A : AvS C S) : f_L_free_35 (iI (3 * b + k)) M = some (iI (max 0 (frS w S b k))) := by
  have hb6 := sz6 hO hb
  have hk3 : k < 3 := by have := hO.2.1; omega
  obtain ⟨s1, s2, s3⟩ := A.2 b k hb hk
  obtain ⟨w1, w2, -⟩ := hW.1 b k hb hk
  have s4 : S 4 (3 * b + k) ≤ S 15 (3 * b + k) := by rw [s2]; split <;> omega
  have ra : rd (M.1 33) 18 (iI (3 * (b : Int) + k)) = some (iI (w (3 * b + k))) := by
    rw [rd_iI (by omega) (by omega) (by decide), show (3 * (b : Int) + (k : Int)).toNat = 3 * b + k by omega]
    exact congrArg some (hw.1 _ (by omega))
  have rh : rd (M.1 37) 18 (iI (3 * (b : Int) + k)) = some (iI (S 15 (3 * b + k))) := h.rd 15 (3 * b + k) (fx 15 rfl) (by decide) (by simp only [szX]; omega) (by simp only [ixX]; omega)
  unfold f_L_free_35
  rw [ra, Option.bind_some, rh, Option.bind_some, iI_sub, l0, mx_iI (by omega) (by omega) (by omega) (by omega)]
  rfl
theorem X_sort_35 {C S : SS} {w : Nat → Int} {tt : Int} {M : Mm} {b : Nat} (hC : CfgX C M) (hO : CfgOk C) (h : RelX 35 S tt M) (hw : WyX 32 w M) (hW : WyOk C w) (hb : (b : Int) < C 0 1) (A : AvS C S) : f_L_sortOf_35 (iI b) M = some (iI (srX C w S b)) := by
  have hb6 := sz6 hO hb
  have hk3 := hO.2.1
  have hk1 := hO.1
  obtain ⟨a1, a2, a3, a4, a5, a6⟩ := A.1 b hb
  have r0 : rd (M.1 38) 6 (iI (b : Int)) = some (iI (S 0 b)) := h.rd 0 b (fx 0 rfl) (by decide) hb6 rfl
  have c0 : (iI (S 0 b) = 0) ↔ S 0 b = 0 := by rw [l0]; exact iI_eq (by omega) (by omega) (by omega) (by omega)
  have c1 : (iI (S 0 b) = 1) ↔ S 0 b = 1 := by rw [l1]; exact iI_eq (by omega) (by omega) (by omega) (by omega)
  unfold f_L_sortOf_35 srX
  rw [r0, Option.bind_some]
  by_cases e0 : S 0 b = 0
  · rw [if_pos (c0.mpr e0), if_neg (by omega), if_neg (by omega), l0]
    refine loop_ex (σ := Int32) (γ := Option Int32) (fun n s => lp_L_sortOf_35_27 n (iI b) s M) (fun s => ∃ i : Nat, i ≤ (C 0 0).toNat ∧ s = iI (i : Int) ∧ ffS w S b i = false) (fun s => (C 0 0).toNat - s.toNatClampNeg) (fun r => r = some (iI (if ffS w S b (C 0 0).toNat = true then 2 else 3))) ?_ FW (iI 0) ⟨0, Nat.zero_le _, rfl, rfl⟩ (FW_gt (by omega))
    rintro n _ ⟨i, hi, rfl, hff⟩
    have cN : (iI (C 0 0) ≤ iI (i : Int)) ↔ C 0 0 ≤ (i : Int) := iI_le (by omega) (by omega) (by omega) (by omega)
    by_cases ei : i = (C 0 0).toNat
    · left
      show blp_L_sortOf_35_27 (lp_L_sortOf_35_27 n) (iI b) (iI (i : Int)) M = _
      unfold blp_L_sortOf_35_27
      rw [hC.1, if_pos (cN.mpr (by omega)), ← ei, hff, l3]
      rfl
    · have hlt : (i : Int) < C 0 0 := by omega
      have rc : f_P_cell (iI (b : Int)) (iI (i : Int)) = some (iI (3 * b + i)) := by unfold f_P_cell; rw [ixc]
      obtain ⟨s1, s2, s3⟩ := A.2 b i hb hlt
      obtain ⟨w1, w2, -⟩ := hW.1 b i hb hlt
      have fb : -9 ≤ frS w S b i ∧ frS w S b i ≤ 9 := by
        unfold frS
        have : S 4 (3 * b + i) ≤ S 15 (3 * b + i) := by rw [s2]; split <;> omega
        omega
      have c3 : (iI (max 0 (frS w S b i)) ≤ 0) ↔ ¬ 0 < frS w S b i := by rw [l0, iI_le (by omega) (by omega) (by omega) (by omega)]; omega
      have eff : ffS w S b (i + 1) = decide (0 < frS w S b i) := by
        show (ffS w S b i || decide (0 < frS w S b i)) = _
        rw [hff, Bool.false_or]
      have ev : lp_L_sortOf_35_27 (n + 1) (iI b) (iI (i : Int)) M = (if iI (max 0 (frS w S b i)) ≤ 0 then lp_L_sortOf_35_27 n (iI b) (iI (i : Int) + 1) M else some 2) := by
        show blp_L_sortOf_35_27 (lp_L_sortOf_35_27 n) (iI b) (iI (i : Int)) M = _
        unfold blp_L_sortOf_35_27
        rw [hC.1, if_neg (fun q => by have := cN.mp q; omega), rc, Option.bind_some, X_free_35 hO h hw hW hb hlt A, Option.bind_some]
      by_cases e1 : 0 < frS w S b i
      · left
        have ht : ffS w S b (C 0 0).toNat = true := by
          have := ffS_mono (w := w) (S := S) (b := b) (m := i + 1) (by rw [eff]; exact decide_eq_true e1) ((C 0 0).toNat - (i + 1))
          rw [show i + 1 + ((C 0 0).toNat - (i + 1)) = (C 0 0).toNat by omega] at this
          exact this
        rw [ev, if_neg (fun q => (c3.mp q) e1), if_pos ht, l2]
      · right
        refine ⟨iI ((i + 1 : Nat) : Int), ?_, ⟨i + 1, by omega, rfl, by rw [eff]; exact decide_eq_false e1⟩, ?_⟩
        · rw [ev, if_pos (c3.mpr e1), l1, iI_add]; rfl
        · rw [iI_clamp (by omega) (by omega), iI_clamp (by omega) (by omega)]; omega
  · rw [if_neg (fun q => e0 (c0.mp q)), Option.bind_some]
    by_cases e1 : S 0 b = 1
    · rw [if_pos (c1.mpr e1), if_pos e1, l0]
    · rw [if_neg (fun q => e1 (c1.mp q)), if_neg e1, if_pos (by omega), l1]
theorem X_tally_35 {C S : SS} {w : Nat → Int} {tt : Int} {M : Mm} (hC : CfgX C M) (hO : CfgOk C) (h : RelX 35 S tt M) (hw : WyX 32 w M) (hW : WyOk C w) (A : AvS C S) (hT : 0 ≤ S 14 0) (hT2 : S 14 0 ≤ 10000) (hf : S 14 1 = -2 ∨ (0 ≤ S 14 1 ∧ S 14 1 ≤ 10000)) : ∃ M', f_L_tallyMinute_35 M = some M' ∧ RelX 35 (upF (talS C w) (C 0 1).toNat S) tt M' ∧ OnlyX 35 M M' := by
  have hb6 := hO.2.2.2.1
  have hb1 := hO.2.2.1
  have hk3 := hO.2.1
  have loop := loop_up (σ := Int32 × Mm) (γ := Option Mm) (fun n s => lp_L_tallyMinute_35_2 n s.1 s.2) (C 0 1).toNat (fun i s => s.1 = iI (i : Int) ∧ RelX 35 (upF (talS C w) i S) tt s.2 ∧ OnlyX 35 M s.2) (fun s => some s.2) ?_ ?_ FW (FW_gt (by omega)) (iI 0, M) ⟨rfl, h, OnlyX.rf⟩
  · obtain ⟨⟨x, M'⟩, ⟨-, r, o⟩, e⟩ := loop
    have e0 : f_L_tallyMinute_35 M = lp_L_tallyMinute_35_2 FW (iI 0) M := by unfold f_L_tallyMinute_35; rw [l0]
    exact ⟨M', by rw [e0]; exact e, r, o⟩
  · rintro n i ⟨x, M1⟩ hi ⟨ex, r1, o1⟩
    dsimp only at ex r1 o1
    subst ex
    have hib : (i : Int) < C 0 1 := by omega
    have hi6 : i < 6 := by omega
    have t14 := tal_14 (C := C) (w := w) S i
    have tph := tal_ph (C := C) (w := w) S i
    have AL : AvS C (upF (talS C w) i S) := AvS_congr A (fun b _ => ⟨tph 0 b (by decide) (by decide) (by decide) (by decide) (by decide), tph 1 b (by decide) (by decide) (by decide) (by decide) (by decide), tph 2 b (by decide) (by decide) (by decide) (by decide) (by decide), tph 17 b (by decide) (by decide) (by decide) (by decide) (by decide)⟩) (fun b k _ _ => ⟨tph 4 _ (by decide) (by decide) (by decide) (by decide) (by decide), tph 15 _ (by decide) (by decide) (by decide) (by decide) (by decide)⟩)
    have hf1 : upF (talS C w) i S 14 1 = -2 ∨ (0 ≤ upF (talS C w) i S 14 1 ∧ upF (talS C w) i S 14 1 ≤ 10000) := by
      rcases t14.2.2.2 with ⟨z, -⟩ | ⟨z, -⟩ <;> rw [z] <;> omega
    have hT14 := t14.1
    show ∃ s' : Int32 × Mm, blp_L_tallyMinute_35_2 (lp_L_tallyMinute_35_2 n) (iI (i : Int)) M1 = lp_L_tallyMinute_35_2 n s'.1 s'.2 ∧ s'.1 = iI ((i + 1 : Nat) : Int) ∧ RelX 35 (talS C w i (upF (talS C w) i S)) tt s'.2 ∧ OnlyX 35 M s'.2
    generalize upF (talS C w) i S = E at r1 AL hf1 hT14 ⊢
    obtain ⟨a1, a2, a3, a4, a5, a6⟩ := AL.1 i hib
    have hc0 : (iI (C 0 1) ≤ iI (i : Int)) ↔ C 0 1 ≤ (i : Int) := iI_le (by omega) (by omega) (by omega) (by omega)
    unfold blp_L_tallyMinute_35_2
    rw [(o1.cfg (by decide) hC).2.1, if_neg (fun q => by have := hc0.mp q; omega), X_sort_35 (o1.cfg (by decide) hC) hO r1 (o1.wy (by decide) hw) hW hib AL, Option.bind_some]
    -- which sort
    obtain ⟨f, hff, hsr, htal⟩ : ∃ f : Nat, (f = 7 ∨ f = 8 ∨ f = 9 ∨ f = 10) ∧ srX C w E i = (f : Int) - 7 ∧ talS C w i E = (if f = 9 ∧ E 2 i ≠ -2 ∧ (E 14 1 = -2 ∨ E 14 1 = E 14 0) then uS (uS (uS E f i (E f i + 1)) 14 1 (E 14 0)) 14 2 i else uS E f i (E f i + 1)) := by
      unfold srX talS
      by_cases e1 : E 0 i = 1
      · exact ⟨7, Or.inl rfl, by rw [if_pos e1]; rfl, by rw [if_pos e1, if_neg (by omega)]⟩
      · by_cases e2 : E 0 i = 2
        · exact ⟨8, Or.inr (Or.inl rfl), by rw [if_neg e1, if_pos e2]; rfl, by rw [if_neg e1, if_pos e2, if_neg (by omega)]⟩
        · by_cases e3 : ffS w E i (C 0 0).toNat = true
          · refine ⟨9, Or.inr (Or.inr (Or.inl rfl)), by rw [if_neg e1, if_neg e2, if_pos e3]; rfl, ?_⟩
            rw [if_neg e1, if_neg e2, if_pos e3]
            by_cases e4 : E 2 i ≠ -2 ∧ (E 14 1 = -2 ∨ E 14 1 = E 14 0)
            · rw [if_pos e4, if_pos ⟨rfl, e4⟩]
            · rw [if_neg e4, if_neg (fun z => e4 z.2)]
          · exact ⟨10, Or.inr (Or.inr (Or.inr rfl)), by rw [if_neg e1, if_neg e2, if_neg e3]; rfl, by rw [if_neg e1, if_neg e2, if_neg e3, if_neg (by omega)]⟩
    have hfx : fdX f := by unfold fdX; omega
    have hsz : i < szX f := by rcases hff with rfl | rfl | rfl | rfl <;> exact hi6
    have hpl : plX 35 f = 42 ∧ lnX f = 24 := by rcases hff with rfl | rfl | rfl | rfl <;> exact ⟨rfl, rfl⟩
    have hix : (4 * (i : Int) + ((f : Int) - 7)) = (ixX f i : Int) := by rcases hff with rfl | rfl | rfl | rfl <;> simp only [ixX] <;> omega
    have e4i : (4 : Int32) * iI (i : Int) + iI ((f : Int) - 7) = iI (4 * (i : Int) + ((f : Int) - 7)) := by rw [l4, iI_mul, iI_add]
    rw [hsr, e4i]
    have rT : rd (M1.1 42) 24 (iI (4 * (i : Int) + ((f : Int) - 7))) = some (iI (E f i)) := by
      have := r1.rd f i hfx (by omega) hsz hix
      rw [hpl.1, hpl.2] at this
      exact this
    rw [rT, Option.bind_some]
    obtain ⟨M2, w2, h2, o2⟩ : ∃ M2, wr M1 42 24 (iI (4 * (i : Int) + ((f : Int) - 7))) (iI (E f i + 1)) = some M2 ∧ RelX 35 (uS E f i (E f i + 1)) tt M2 ∧ OnlyX 35 M1 M2 := by
      have := r1.wr f i (x := E f i + 1) hfx (by omega) hsz hix
      rw [hpl.1, hpl.2] at this
      exact this
    rw [show iI (E f i) + 1 = iI (E f i + 1) by rw [l1, iI_add], w2, Option.bind_some]
    have v16 : M2.1 35 16 = iI (E 14 1) := by
      have := h2.1 14 1 (fx 14 rfl) (by decide)
      rw [uS_nf (by omega)] at this
      exact this
    have v14 : M2.1 35 14 = iI (E 14 0) := by
      have := h2.1 14 0 (fx 14 rfl) (by decide)
      rw [uS_nf (by omega)] at this
      exact this
    have rL : rd (M2.1 39) 6 (iI (i : Int)) = some (iI (E 2 i)) := by
      have := h2.rd 2 i (z := i) (fx 2 rfl) (by decide) hi6 rfl
      rw [uS_nf (by omega)] at this
      exact this
    have c1 : (iI (E 14 1) = -2) ↔ E 14 1 = -2 := by rw [lm2, iI_eq (by omega) (by omega) (by omega) (by omega)]
    have c2 : (iI (E 14 1) = iI (E 14 0)) ↔ E 14 1 = E 14 0 := iI_eq (by omega) (by omega) (by omega) (by omega)
    have c3 : (iI (E 2 i) = -2) ↔ E 2 i = -2 := by rw [lm2, iI_eq (by omega) (by omega) (by omega) (by omega)]
    have c4 : (iI ((f : Int) - 7) = 2) ↔ f = 9 := by rw [l2, iI_eq (by omega) (by omega) (by omega) (by omega)]; omega
    have plain : ∃ s' : Int32 × Mm, j_L_tallyMinute_35_92 (lp_L_tallyMinute_35_2 n) (iI (i : Int)) M2 = lp_L_tallyMinute_35_2 n s'.1 s'.2 ∧ s'.1 = iI ((i + 1 : Nat) : Int) ∧ RelX 35 (uS E f i (E f i + 1)) tt s'.2 ∧ OnlyX 35 M s'.2 := by
      refine ⟨(iI ((i + 1 : Nat) : Int), M2), ?_, rfl, h2, o1.tr o2⟩
      unfold j_L_tallyMinute_35_92
      rw [l1, iI_add]
      rfl
    have mark : ∀ t0 : Int32, (t0 = 0 ↔ ¬ (E 14 1 = -2 ∨ E 14 1 = E 14 0)) → ∃ s' : Int32 × Mm, j_L_tallyMinute_35_58 (lp_L_tallyMinute_35_2 n) (iI (i : Int)) (iI ((f : Int) - 7)) t0 M2 = lp_L_tallyMinute_35_2 n s'.1 s'.2 ∧ s'.1 = iI ((i + 1 : Nat) : Int) ∧ RelX 35 (talS C w i E) tt s'.2 ∧ OnlyX 35 M s'.2 := by
      intro t0 ht0
      unfold j_L_tallyMinute_35_58
      rw [htal]
      by_cases e9 : f = 9
      · rw [if_pos (c4.mpr e9), rL, Option.bind_some]
        by_cases e3 : E 2 i = -2
        · rw [if_pos (c3.mpr e3), if_neg (fun z => z.2.1 e3)]; exact plain
        · rw [if_neg (fun q => e3 (c3.mp q))]
          by_cases e5 : E 14 1 = -2 ∨ E 14 1 = E 14 0
          · rw [if_neg (fun q => (ht0.mp q) e5), if_pos ⟨e9, e3, e5⟩, v14, Option.bind_some, Option.bind_some]
            have h3 := h2.put (i := 14) (j := 1) (fx 14 rfl) (by decide) (E 14 0)
            have h4 := h3.put (i := 14) (j := 2) (fx 14 rfl) (by decide) (i : Int)
            refine ⟨(iI ((i + 1 : Nat) : Int), _), ?_, rfl, h4, ?_⟩
            · unfold j_L_tallyMinute_35_92
              rw [l1, iI_add]
              rfl
            · exact ((o1.tr o2).u1 (by decide) (by decide)).u1 (by decide) (by decide)
          · rw [if_pos (ht0.mpr e5), if_neg (fun z => e5 z.2.2)]; exact plain
      · rw [if_neg (fun q => e9 (c4.mp q)), if_neg (fun z => e9 z.1)]; exact plain
    rw [v16]
    by_cases e1 : E 14 1 = -2
    · rw [if_pos (c1.mpr e1)]
      unfold j_L_tallyMinute_35_53
      exact mark 1 ⟨fun z => absurd z (by decide), fun z => absurd (Or.inl e1) z⟩
    · rw [if_neg (fun q => e1 (c1.mp q)), v14]
      by_cases e2 : E 14 1 = E 14 0
      · rw [if_pos (c2.mpr e2)]
        unfold j_L_tallyMinute_35_53
        exact mark 1 ⟨fun z => absurd z (by decide), fun z => absurd (Or.inr e2) z⟩
      · rw [if_neg (fun q => e2 (c2.mp q))]
        exact mark 0 ⟨fun _ z => z.elim e1 e2, fun _ => rfl⟩
  · rintro n ⟨x, M1⟩ ⟨ex, r1, o1⟩
    dsimp only at ex r1 o1
    subst ex
    show blp_L_tallyMinute_35_2 (lp_L_tallyMinute_35_2 n) (iI ((C 0 1).toNat : Int)) M1 = _
    unfold blp_L_tallyMinute_35_2
    have c0 : (iI (C 0 1) ≤ iI ((C 0 1).toNat : Int)) ↔ C 0 1 ≤ ((C 0 1).toNat : Int) := iI_le (by omega) (by omega) (by omega) (by omega)
    rw [(o1.cfg (by decide) hC).2.1, if_pos (c0.mpr (by omega))]
theorem X_age_35 {C S : SS} {tt : Int} {M : Mm} (hC : CfgX C M) (hO : CfgOk C) (h : RelX 35 S tt M) : ∃ M', f_L_ageOrders_35 M = some M' ∧ RelX 35 (ageS C S) tt M' ∧ OnlyX 35 M M' := by
  have hk1 := hO.1
  have hk3 := hO.2.1
  have loop := loop_up (σ := Int32 × Mm) (γ := Option Mm) (fun n s => lp_L_ageOrders_35_2 n s.1 s.2) (C 0 0).toNat (fun i s => s.1 = iI (i : Int) ∧ RelX 35 (ageN i S) tt s.2 ∧ OnlyX 35 M s.2) (fun s => some s.2) ?_ ?_ FW (FW_gt (by omega)) (iI 0, M) ⟨rfl, by rw [ageN_0]; exact h, OnlyX.rf⟩
  · obtain ⟨⟨x, M'⟩, ⟨-, r, o⟩, e⟩ := loop
    have e0 : f_L_ageOrders_35 M = lp_L_ageOrders_35_2 FW (iI 0) M := by unfold f_L_ageOrders_35; rw [l0]
    exact ⟨M', by rw [e0]; exact e, r, o⟩
  · rintro n i ⟨x, M1⟩ hi ⟨ex, r1, o1⟩
    dsimp only at ex r1 o1
    subst ex
    have hi3 : i < 3 := by omega
    have c0 : (iI (C 0 0) ≤ iI (i : Int)) ↔ C 0 0 ≤ (i : Int) := iI_le (by omega) (by omega) (by omega) (by omega)
    have e13 : ageN i S 13 i = S 13 i := by unfold ageN; grind
    have e16 : ageN i S 16 i = S 16 i := by unfold ageN; grind
    have r13 : rd (M1.1 46) 3 (iI (i : Int)) = some (iI (S 13 i)) := by rw [← e13]; exact r1.rd 13 i (fx 13 rfl) (by decide) hi3 rfl
    have r16 : rd (M1.1 45) 3 (iI (i : Int)) = some (iI (S 16 i)) := by rw [← e16]; exact r1.rd 16 i (fx 16 rfl) (by decide) hi3 rfl
    obtain ⟨M2, w2, h2, o2⟩ : ∃ M2, wr M1 46 3 (iI (i : Int)) (iI (S 13 i + S 16 i)) = some M2 ∧ RelX 35 (uS (ageN i S) 13 i (S 13 i + S 16 i)) tt M2 ∧ OnlyX 35 M1 M2 := r1.wr 13 i (fx 13 rfl) (by decide) hi3 rfl
    rw [← ageN_s] at h2
    refine ⟨(iI ((i + 1 : Nat) : Int), M2), ?_, rfl, h2, o1.tr o2⟩
    show blp_L_ageOrders_35_2 (lp_L_ageOrders_35_2 n) (iI (i : Int)) M1 = lp_L_ageOrders_35_2 n (iI ((i + 1 : Nat) : Int)) M2
    unfold blp_L_ageOrders_35_2
    rw [(o1.cfg (by decide) hC).1, if_neg (fun q => by have := c0.mp q; omega), r13, Option.bind_some, r16, Option.bind_some, iI_add, w2, Option.bind_some, l1, iI_add]
    rfl
  · rintro n ⟨x, M1⟩ ⟨ex, r1, o1⟩
    dsimp only at ex r1 o1
    subst ex
    show blp_L_ageOrders_35_2 (lp_L_ageOrders_35_2 n) (iI ((C 0 0).toNat : Int)) M1 = _
    unfold blp_L_ageOrders_35_2
    have c0 : (iI (C 0 0) ≤ iI ((C 0 0).toNat : Int)) ↔ C 0 0 ≤ ((C 0 0).toNat : Int) := iI_le (by omega) (by omega) (by omega) (by omega)
    rw [(o1.cfg (by decide) hC).1, if_pos (c0.mpr (by omega))]

theorem M_told_in {C : SS} {w : Nat → Int} {M : Mm} {b : Nat} (hO : CfgOk C) (hC : CfgM C M) (hw : WyM 10 w M) (hb : b < 6) (rc : Int32 → Int32 → Mm → Option Int32) (a : Int) : lp_M_toldCards_0_14 rc FW (iI a) (iI b) 0 M = rc (iI (a + smr w b (C 0 0).toNat)) (iI ((b + 1 : Nat) : Int)) M := by
  have hk1 := hO.1
  have hk3 := hO.2.1
  have loop := loop_up (σ := Int32 × Int32) (γ := Option Int32) (fun n s => lp_M_toldCards_0_14 rc n s.1 (iI b) s.2 M) (C 0 0).toNat (fun i s => s.1 = iI (a + smr w b i) ∧ s.2 = iI (i : Int)) (fun s => rc s.1 (iI ((b + 1 : Nat) : Int)) M) ?_ ?_ FW (FW_gt (by omega)) (iI a, iI 0) ⟨by show iI a = iI (a + 0); rw [Int.add_zero], rfl⟩
  · obtain ⟨s', hs, e⟩ := loop
    rw [l0]
    exact e.trans (by rw [hs.1])
  · rintro n i ⟨x3, x4⟩ hi ⟨e3, e4⟩
    dsimp only at e3 e4
    subst e3; subst e4
    refine ⟨(iI (a + smr w b (i + 1)), iI ((i + 1 : Nat) : Int)), ?_, rfl, rfl⟩
    show blp_M_toldCards_0_14 rc (lp_M_toldCards_0_14 rc n) _ _ _ M = lp_M_toldCards_0_14 rc n _ _ _ M
    unfold blp_M_toldCards_0_14
    have c0 : (iI (C 0 0) ≤ iI (i : Int)) ↔ C 0 0 ≤ (i : Int) := iI_le (by omega) (by omega) (by omega) (by omega)
    have r : rd (M.1 10) 37 (iI (3 * (b : Int) + i)) = some (iI (w (3 * b + i))) := rdw hw (3 * b + i) (by omega) (by omega)
    rw [hC.1, if_neg (fun q => by have := c0.mp q; omega), ixc, r, Option.bind_some, iI_add, l1, iI_add, Int.add_assoc]
    rfl
  · rintro n ⟨x3, x4⟩ ⟨e3, e4⟩
    dsimp only at e3 e4
    subst e3; subst e4
    show blp_M_toldCards_0_14 rc (lp_M_toldCards_0_14 rc n) _ _ _ M = _
    unfold blp_M_toldCards_0_14
    have c0 : (iI (C 0 0) ≤ iI ((C 0 0).toNat : Int)) ↔ C 0 0 ≤ ((C 0 0).toNat : Int) := iI_le (by omega) (by omega) (by omega) (by omega)
    rw [hC.1, if_pos (c0.mpr (by omega))]
    unfold j_M_toldCards_0_41
    rw [l1, iI_add]
    rfl
theorem M_told {C : SS} {w : Nat → Int} {M : Mm} (hO : CfgOk C) (hC : CfgM C M) (hw : WyM 10 w M) : f_M_toldCards_0 M = some (iI (smB w (C 0 0).toNat (C 0 1).toNat)) := by
  have hb1 := hO.2.2.1
  have hb6 := hO.2.2.2.1
  have loop := loop_up (σ := Int32 × Int32) (γ := Option Int32) (fun n s => lp_M_toldCards_0_4 n s.1 s.2 M) (C 0 1).toNat (fun i s => s.1 = iI (smB w (C 0 0).toNat i) ∧ s.2 = iI (i : Int)) (fun s => some s.1) ?_ ?_ FW (FW_gt (by omega)) (iI 0, iI 0) ⟨rfl, rfl⟩
  · obtain ⟨s', hs, e⟩ := loop
    have e0 : f_M_toldCards_0 M = lp_M_toldCards_0_4 FW (iI 0) (iI 0) M := by unfold f_M_toldCards_0; rw [l0]
    rw [e0]
    exact e.trans (by rw [hs.1])
  · rintro n i ⟨x3, x4⟩ hi ⟨e3, e4⟩
    dsimp only at e3 e4
    subst e3; subst e4
    refine ⟨(iI (smB w (C 0 0).toNat (i + 1)), iI ((i + 1 : Nat) : Int)), ?_, rfl, rfl⟩
    show blp_M_toldCards_0_4 (lp_M_toldCards_0_4 n) _ _ M = lp_M_toldCards_0_4 n _ _ M
    unfold blp_M_toldCards_0_4
    have c0 : (iI (C 0 1) ≤ iI (i : Int)) ↔ C 0 1 ≤ (i : Int) := iI_le (by omega) (by omega) (by omega) (by omega)
    rw [hC.2.1, if_neg (fun q => by have := c0.mp q; omega), M_told_in hO hC hw (by omega)]
    rfl
  · rintro n ⟨x3, x4⟩ ⟨e3, e4⟩
    dsimp only at e3 e4
    subst e3; subst e4
    show blp_M_toldCards_0_4 (lp_M_toldCards_0_4 n) _ _ M = _
    unfold blp_M_toldCards_0_4
    have c0 : (iI (C 0 1) ≤ iI ((C 0 1).toNat : Int)) ↔ C 0 1 ≤ ((C 0 1).toNat : Int) := iI_le (by omega) (by omega) (by omega) (by omega)
    rw [hC.2.1, if_pos (c0.mpr (by omega))]
theorem M_held_in {C : SS} {S Q : SS} {M : Mm} {b : Nat} (hO : CfgOk C) (hC : CfgM C M) (h : RelM 15 S Q M) (A : AvS C S) (hb : (b : Int) < C 0 1) (rc : Int32 → Int32 → Mm → Option Int32) (a : Int) : lp_M_heldCards_0_14 rc FW (iI a) (iI b) 0 M = rc (iI (a + smr (S 15) b (C 0 0).toNat)) (iI ((b + 1 : Nat) : Int)) M := by
  have hk1 := hO.1
  have hk3 := hO.2.1
  have hb6 := sz6 hO hb
  have loop := loop_up (σ := Int32 × Int32) (γ := Option Int32) (fun n s => lp_M_heldCards_0_14 rc n s.1 (iI b) s.2 M) (C 0 0).toNat (fun i s => s.1 = iI (a + smr (S 15) b i) ∧ s.2 = iI (i : Int)) (fun s => rc s.1 (iI ((b + 1 : Nat) : Int)) M) ?_ ?_ FW (FW_gt (by omega)) (iI a, iI 0) ⟨by show iI a = iI (a + 0); rw [Int.add_zero], rfl⟩
  · obtain ⟨s', hs, e⟩ := loop
    rw [l0]
    exact e.trans (by rw [hs.1])
  · rintro n i ⟨x3, x4⟩ hi ⟨e3, e4⟩
    dsimp only at e3 e4
    subst e3; subst e4
    refine ⟨(iI (a + smr (S 15) b (i + 1)), iI ((i + 1 : Nat) : Int)), ?_, rfl, rfl⟩
    show blp_M_heldCards_0_14 rc (lp_M_heldCards_0_14 rc n) _ _ _ M = lp_M_heldCards_0_14 rc n _ _ _ M
    unfold blp_M_heldCards_0_14
    have c0 : (iI (C 0 0) ≤ iI (i : Int)) ↔ C 0 0 ≤ (i : Int) := iI_le (by omega) (by omega) (by omega) (by omega)
    have rs : f_M_store (iI (b : Int)) (iI (i : Int)) = some (iI (57 + 3 * b + i)) := by unfold f_M_store; rw [ix57]
    have r : rd (M.1 15) 99 (iI (57 + 3 * (b : Int) + i)) = some (iI (S 4 (3 * b + i))) := rdM h 4 (3 * b + i) (fd 4 rfl) (by simp only [szS]; omega) (by simp only [lyM]; omega)
    rw [hC.1, if_neg (fun q => by have := c0.mp q; omega), rs, Option.bind_some, r, Option.bind_some, atS hO h A hb (by omega), Option.bind_some, iI_add, iI_add, l1, iI_add, show S 4 (3 * b + i) + (S 15 (3 * b + i) - S 4 (3 * b + i)) = S 15 (3 * b + i) by omega, Int.add_assoc]
    rfl
  · rintro n ⟨x3, x4⟩ ⟨e3, e4⟩
    dsimp only at e3 e4
    subst e3; subst e4
    show blp_M_heldCards_0_14 rc (lp_M_heldCards_0_14 rc n) _ _ _ M = _
    unfold blp_M_heldCards_0_14
    have c0 : (iI (C 0 0) ≤ iI ((C 0 0).toNat : Int)) ↔ C 0 0 ≤ ((C 0 0).toNat : Int) := iI_le (by omega) (by omega) (by omega) (by omega)
    rw [hC.1, if_pos (c0.mpr (by omega))]
    unfold j_M_heldCards_0_52
    rw [l1, iI_add]
    rfl
theorem M_held {C : SS} {S Q : SS} {M : Mm} (hO : CfgOk C) (hC : CfgM C M) (h : RelM 15 S Q M) (A : AvS C S) : f_M_heldCards_0 M = some (iI (smB (S 15) (C 0 0).toNat (C 0 1).toNat)) := by
  have hb1 := hO.2.2.1
  have hb6 := hO.2.2.2.1
  have loop := loop_up (σ := Int32 × Int32) (γ := Option Int32) (fun n s => lp_M_heldCards_0_4 n s.1 s.2 M) (C 0 1).toNat (fun i s => s.1 = iI (smB (S 15) (C 0 0).toNat i) ∧ s.2 = iI (i : Int)) (fun s => some s.1) ?_ ?_ FW (FW_gt (by omega)) (iI 0, iI 0) ⟨rfl, rfl⟩
  · obtain ⟨s', hs, e⟩ := loop
    have e0 : f_M_heldCards_0 M = lp_M_heldCards_0_4 FW (iI 0) (iI 0) M := by unfold f_M_heldCards_0; rw [l0]
    rw [e0]
    exact e.trans (by rw [hs.1])
  · rintro n i ⟨x3, x4⟩ hi ⟨e3, e4⟩
    dsimp only at e3 e4
    subst e3; subst e4
    refine ⟨(iI (smB (S 15) (C 0 0).toNat (i + 1)), iI ((i + 1 : Nat) : Int)), ?_, rfl, rfl⟩
    show blp_M_heldCards_0_4 (lp_M_heldCards_0_4 n) _ _ M = lp_M_heldCards_0_4 n _ _ M
    unfold blp_M_heldCards_0_4
    have c0 : (iI (C 0 1) ≤ iI (i : Int)) ↔ C 0 1 ≤ (i : Int) := iI_le (by omega) (by omega) (by omega) (by omega)
    rw [hC.2.1, if_neg (fun q => by have := c0.mp q; omega), M_held_in hO hC h A (by omega)]
    rfl
  · rintro n ⟨x3, x4⟩ ⟨e3, e4⟩
    dsimp only at e3 e4
    subst e3; subst e4
    show blp_M_heldCards_0_4 (lp_M_heldCards_0_4 n) _ _ M = _
    unfold blp_M_heldCards_0_4
    have c0 : (iI (C 0 1) ≤ iI ((C 0 1).toNat : Int)) ↔ C 0 1 ≤ ((C 0 1).toNat : Int) := iI_le (by omega) (by omega) (by omega) (by omega)
    rw [hC.2.1, if_pos (c0.mpr (by omega))]
theorem R_about {X M : Mm} (h0 : Rel X M) (p : Int32) : An (f_P_about_0 p X) (f_M_about_0 p M) := by
  unfold f_P_about_0 f_M_about_0
  rw [Option.bind_some]
  have h := h0.th 0
  generalize u1 M 0 0 0 = N at h
  rcases h.told with ⟨t1, t2⟩ | ⟨t1, t2, C, w, S, Q, T⟩
  · rw [if_pos t1, if_pos t2]; exact An_ref h 1
  · rw [if_neg t1, if_neg t2]
    have hb1 := T.1.2.2.1
    have hb6 := T.1.2.2.2.1
    have hk1 := T.1.1
    have hk3 := T.1.2.1
    have z15 : ∀ b k, b < 6 → k < 3 → ¬ (b < (C 0 1).toNat ∧ k < (C 0 0).toNat) → S 15 (3 * b + k) = 0 := fun b k h1 h2 h3 => (T.bd.2.2.2.2.2 b k h1 h2 (by omega)).2
    have zw : ∀ b k, b < 6 → k < 3 → ¬ (b < (C 0 1).toNat ∧ k < (C 0 0).toNat) → w (3 * b + k) = 0 := fun b k h1 h2 h3 => (T.w0 b k h1 h2 (by omega)).1
    rcases wi (p := p) (n := 7) (by omega) (by omega) with ⟨c, rfl, hc, e⟩ | ⟨e, hne⟩
    · rw [← l7] at e
      rw [e, Option.bind_some, if_neg n10]
      have cs : ∀ n : Nat, n ≤ 7 → ((iI (c : Int) = iI (n : Int)) ↔ c = n) := fun n hn => by rw [iI_eq (by omega) (by omega) (by omega) (by omega)]; omega
      refine An_if Iff.rfl (fun _ => ?_) (fun q0 => An_if Iff.rfl (fun _ => ?_) (fun q1 => An_if Iff.rfl (fun _ => ?_) (fun q2 => An_if Iff.rfl (fun _ => ?_) (fun q3 => An_if Iff.rfl (fun _ => ?_) (fun q4 => An_if Iff.rfl (fun _ => ?_) (fun q5 => An_if Iff.rfl (fun _ => ?_) (fun q6 => ?_)))))))
      · exact An_go h (T.2.1.1.trans T.2.2.1.1.symm)
      · exact An_go h (T.2.1.2.1.trans T.2.2.1.2.1.symm)
      · exact An_go h (T.2.1.2.2.1.trans T.2.2.1.2.2.1.symm)
      · have r : rd (N.1 10) 37 36 = some (iI (w 36)) := by rw [show (36 : Int32) = iI 36 from rfl]; exact rdw T.wm 36 (by omega) rfl
        rw [r]; exact An_go h T.wx.2.2
      · have r : rd (N.1 15) 99 0 = some (iI (S 14 0)) := by rw [l0]; exact rdM T.rm 14 0 (fd 14 rfl) (by decide) rfl
        rw [r]; exact An_go h (T.rx.1 14 0 (fx 14 rfl) (by decide))
      · rw [X_allCards T.wx, M_told T.1 T.2.2.1 T.wm, smB_e (f := w) (B := (C 0 1).toNat) (K := (C 0 0).toNat) (by omega) (by omega) zw]; exact An_good h _
      · rw [X_allHeld T.rx, M_held T.1 T.2.2.1 T.rm T.bd.1, smB_e (f := S 15) (B := (C 0 1).toNat) (K := (C 0 0).toNat) (by omega) (by omega) z15]; exact An_good h _
      · have e7 : c = 7 := by
          rw [l0] at q0; rw [l1] at q1; rw [l2] at q2; rw [l3] at q3; rw [l4] at q4; rw [l5] at q5; rw [l6] at q6
          have p0 : c ≠ 0 := fun z => q0 ((cs 0 (by omega)).mpr z)
          have p1 : c ≠ 1 := fun z => q1 ((cs 1 (by omega)).mpr z)
          have p2 : c ≠ 2 := fun z => q2 ((cs 2 (by omega)).mpr z)
          have p3 : c ≠ 3 := fun z => q3 ((cs 3 (by omega)).mpr z)
          have p4 : c ≠ 4 := fun z => q4 ((cs 4 (by omega)).mpr z)
          have p5 : c ≠ 5 := fun z => q5 ((cs 5 (by omega)).mpr z)
          have p6 : c ≠ 6 := fun z => q6 ((cs 6 (by omega)).mpr z)
          omega
        rw [if_pos (show iI (c : Int) = 7 by rw [l7]; exact (cs 7 (by omega)).mpr e7)]
        obtain ⟨n, P, lv, vl, a1, a2, a3, -⟩ := T.2.2.2.2.2.1
        exact An_go h (a2.trans a3.symm)
    · rw [← l7] at e
      rw [e, Option.bind_some, if_pos rfl, if_neg (by rw [l0]; exact hne 0 (by omega)), if_neg (by rw [l1]; exact hne 1 (by omega)), if_neg (by rw [l2]; exact hne 2 (by omega)), if_neg (by rw [l3]; exact hne 3 (by omega)), if_neg (by rw [l4]; exact hne 4 (by omega)), if_neg (by rw [l5]; exact hne 5 (by omega)), if_neg (by rw [l6]; exact hne 6 (by omega)), if_neg (by rw [l7]; exact hne 7 (by omega))]
      exact An_ref h 1
theorem M_bench_in {C : SS} {w : Nat → Int} {M : Mm} {b : Nat} {x2 : Int32} (hO : CfgOk C) (hC : CfgM C M) (hw : WyM 10 w M) (hb : b < 6) : lp_M_bench_0_33 FW (iI b) x2 0 0 M = j_M_bench_0_65 (iI b) x2 (iI (smr (fun c => w (18 + c)) b (C 0 0).toNat)) M := by
  have hk1 := hO.1
  have hk3 := hO.2.1
  have loop := loop_up (σ := Int32 × Int32) (γ := Option (Int32 × Mm)) (fun n s => lp_M_bench_0_33 n (iI b) x2 s.1 s.2 M) (C 0 0).toNat (fun i s => s.1 = iI (smr (fun c => w (18 + c)) b i) ∧ s.2 = iI (i : Int)) (fun s => j_M_bench_0_65 (iI b) x2 s.1 M) ?_ ?_ FW (FW_gt (by omega)) (iI 0, iI 0) ⟨rfl, rfl⟩
  · obtain ⟨s', hs, e⟩ := loop
    rw [l0]
    exact e.trans (by rw [hs.1])
  · rintro n i ⟨x3, x4⟩ hi ⟨e3, e4⟩
    dsimp only at e3 e4
    subst e3; subst e4
    refine ⟨(iI (smr (fun c => w (18 + c)) b (i + 1)), iI ((i + 1 : Nat) : Int)), ?_, rfl, rfl⟩
    show blp_M_bench_0_33 (lp_M_bench_0_33 n) _ _ _ _ M = lp_M_bench_0_33 n _ _ _ _ M
    unfold blp_M_bench_0_33
    have c0 : (iI (C 0 0) ≤ iI (i : Int)) ↔ C 0 0 ≤ (i : Int) := iI_le (by omega) (by omega) (by omega) (by omega)
    have r : rd (M.1 10) 37 (iI (18 + 3 * (b : Int) + i)) = some (iI (w (18 + (3 * b + i)))) := rdw hw (18 + (3 * b + i)) (by omega) (by omega)
    rw [hC.1, if_neg (fun q => by have := c0.mp q; omega), show (18 : Int32) = iI 18 from rfl, l3, iI_mul, iI_add, iI_add, r, Option.bind_some, iI_add, l1, iI_add]
    rfl
  · rintro n ⟨x3, x4⟩ ⟨e3, e4⟩
    dsimp only at e3 e4
    subst e3; subst e4
    show blp_M_bench_0_33 (lp_M_bench_0_33 n) _ _ _ _ M = _
    unfold blp_M_bench_0_33
    have c0 : (iI (C 0 0) ≤ iI ((C 0 0).toNat : Int)) ↔ C 0 0 ≤ ((C 0 0).toNat : Int) := iI_le (by omega) (by omega) (by omega) (by omega)
    rw [hC.1, if_pos (c0.mpr (by omega))]
theorem R_bench {X M : Mm} (h0 : Rel X M) (p p2 : Int32) : An (f_P_bench_0 p p2 X) (f_M_bench_0 p p2 M) := by
  unfold f_P_bench_0 f_M_bench_0
  rw [Option.bind_some]
  have h := h0.th 0
  generalize u1 M 0 0 0 = N at h
  rcases h.bench p with ⟨e1, e2⟩ | ⟨C, w, S, Q, b, rfl, hb, e1, e2, t1, t2, T⟩
  · rw [e1, e2, Option.bind_some, Option.bind_some, if_pos rfl, if_pos rfl]; exact An_ref h 1
  · have hb6 := sz6 T.1 hb
    have hk1 := T.1.1
    have hk3 := T.1.2.1
    rw [e1, e2, Option.bind_some, Option.bind_some, if_neg n10, if_neg n10, in_wi]
    rcases wi (p := p2) (n := 3) (by omega) (by omega) with ⟨c, rfl, hc, e⟩ | ⟨e, -⟩
    · rw [← l3] at e
      rw [e, Option.bind_some, Option.bind_some, if_neg n10, if_neg n10, M_bench_in T.1 T.2.2.1 T.wm hb6]
      unfold j_M_bench_0_65
      have hX := T.2.1.2.2.2.1 b hb6 hb
      have hM := T.2.2.1.2.2.2.1 b hb6 hb
      have g : ∀ (f : Nat → Int32) (n : Nat), b < n → n < 100 → rd f n (iI (b : Int)) = some (f b) := fun f n h1 h2 => by
        rw [rd_iI (by omega) (by omega) (by omega), Int.toNat_natCast]
      have zs := smr_0 (f := fun c => w (18 + c)) (b := b) (K := (C 0 0).toNat) (fun k h1 h2 => (T.w0 b k hb6 h2 (by omega)).2) (3 - (C 0 0).toNat) (by omega)
      rw [show (C 0 0).toNat + (3 - (C 0 0).toNat) = 3 by omega] at zs
      rw [g _ 6 (by omega) (by omega), g _ 6 (by omega) (by omega), g _ 6 (by omega) (by omega), g _ 12 (by omega) (by omega), g _ 12 (by omega) (by omega), g _ 12 (by omega) (by omega), hX.1, hX.2.1, hX.2.2, hM.1, hM.2.1, hM.2.2, X_timesAt T.wx hb6, zs]
      exact An_if Iff.rfl (fun _ => An_good h _) (fun _ => An_if Iff.rfl (fun _ => An_good h _) (fun _ => An_if Iff.rfl (fun _ => An_good h _) (fun _ => An_good h _)))
    · rw [← l3] at e
      rw [e, Option.bind_some, Option.bind_some, if_pos rfl, if_pos rfl]; exact An_ref h 1
def bzS (S : SS) : Nat → Nat
  | 0 => 0
  | i + 1 => if S 7 (i + 1) ≤ S 7 (bzS S i) then bzS S i else i + 1
theorem bzS_le (S : SS) : ∀ i, bzS S i ≤ i
  | 0 => Nat.le_refl _
  | i + 1 => by
    have := bzS_le S i
    show (if _ then bzS S i else i + 1) ≤ i + 1
    split
    · omega
    · exact Nat.le_refl _
theorem X_busy {C S : SS} {tt : Int} {X : Mm} (hO : CfgOk C) (hC : CfgX C X) (h : RelX 35 S tt X) (hb : ∀ b : Nat, (b : Int) < C 0 1 → 0 ≤ S 7 b ∧ S 7 b ≤ 20000) : f_L_busiestBench_35 X = some (iI (bzS S ((C 0 1).toNat - 1))) := by
  have hb1 := hO.2.2.1
  have hb6 := hO.2.2.2.1
  have loop := loop_up (σ := Int32 × Int32) (γ := Option Int32) (fun n s => lp_L_busiestBench_35_4 n s.1 s.2 X) ((C 0 1).toNat - 1) (fun i s => s.1 = iI (bzS S i) ∧ s.2 = iI ((i + 1 : Nat) : Int)) (fun s => some s.1) ?_ ?_ FW (FW_gt (by omega)) (iI 0, iI 1) ⟨rfl, rfl⟩
  · obtain ⟨s', hs, e⟩ := loop
    have e0 : f_L_busiestBench_35 X = lp_L_busiestBench_35_4 FW (iI 0) (iI 1) X := by unfold f_L_busiestBench_35; rw [l0, l1]
    rw [e0]
    exact e.trans (by rw [hs.1])
  · rintro n i ⟨x3, x4⟩ hi ⟨e3, e4⟩
    dsimp only at e3 e4
    subst e3; subst e4
    have hz := bzS_le S i
    have q1 := hb (i + 1) (by omega)
    have q2 := hb (bzS S i) (by omega)
    have c0 : (iI (C 0 1) ≤ iI ((i + 1 : Nat) : Int)) ↔ C 0 1 ≤ ((i + 1 : Nat) : Int) := iI_le (by omega) (by omega) (by omega) (by omega)
    have c1 : (iI (S 7 (i + 1)) ≤ iI (S 7 (bzS S i))) ↔ S 7 (i + 1) ≤ S 7 (bzS S i) := iI_le (by omega) (by omega) (by omega) (by omega)
    have r : ∀ b : Nat, b < 6 → f_L_minutesOf_35 (iI (b : Int)) 0 X = some (iI (S 7 b)) := fun b hb => by
      unfold f_L_minutesOf_35
      rw [l4, l0, iI_mul, iI_add]
      have r : rd (X.1 42) 24 (iI (4 * (b : Int) + 0)) = some (iI (S 7 b)) := h.rd 7 b (fx 7 rfl) (by decide) hb (by simp only [ixX]; omega)
      rw [r]; rfl
    refine ⟨(iI (bzS S (i + 1)), iI ((i + 1 + 1 : Nat) : Int)), ?_, rfl, rfl⟩
    show blp_L_busiestBench_35_4 (lp_L_busiestBench_35_4 n) _ _ X = lp_L_busiestBench_35_4 n (iI (((if S 7 (i + 1) ≤ S 7 (bzS S i) then bzS S i else i + 1) : Nat) : Int)) _ X
    unfold blp_L_busiestBench_35_4
    rw [hC.2.1, if_neg (fun q => by have := c0.mp q; omega), r (i + 1) (by omega), Option.bind_some, r (bzS S i) (by omega), Option.bind_some]
    unfold j_L_busiestBench_35_32
    rw [l1, iI_add]
    by_cases e1 : S 7 (i + 1) ≤ S 7 (bzS S i)
    · rw [if_pos (c1.mpr e1), if_pos e1]; rfl
    · rw [if_neg (fun q => e1 (c1.mp q)), if_neg e1]; rfl
  · rintro n ⟨x3, x4⟩ ⟨e3, e4⟩
    dsimp only at e3 e4
    subst e3; subst e4
    show blp_L_busiestBench_35_4 (lp_L_busiestBench_35_4 n) _ _ X = _
    unfold blp_L_busiestBench_35_4
    have c0 : (iI (C 0 1) ≤ iI (((C 0 1).toNat - 1 + 1 : Nat) : Int)) ↔ C 0 1 ≤ (((C 0 1).toNat - 1 + 1 : Nat) : Int) := iI_le (by omega) (by omega) (by omega) (by omega)
    rw [hC.2.1, if_pos (c0.mpr (by omega))]
theorem M_busy {C S Q : SS} {M : Mm} (hO : CfgOk C) (hC : CfgM C M) (h : RelM 15 S Q M) (hb : ∀ b : Nat, (b : Int) < C 0 1 → 0 ≤ S 7 b ∧ S 7 b ≤ 20000) : lp_M_busiest_0_22 FW 0 1 M = (f_M_good_0 (iI (bzS S ((C 0 1).toNat - 1))) M).bind fun q => some (q.1, q.2) := by
  have hb1 := hO.2.2.1
  have hb6 := hO.2.2.2.1
  have loop := loop_up (σ := Int32 × Int32) (γ := Option (Int32 × Mm)) (fun n s => lp_M_busiest_0_22 n s.1 s.2 M) ((C 0 1).toNat - 1) (fun i s => s.1 = iI (bzS S i) ∧ s.2 = iI ((i + 1 : Nat) : Int)) (fun s => (f_M_good_0 s.1 M).bind fun q => some (q.1, q.2)) ?_ ?_ FW (FW_gt (by omega)) (iI 0, iI 1) ⟨rfl, rfl⟩
  · obtain ⟨s', hs, e⟩ := loop
    rw [l0, l1]
    exact e.trans (by rw [hs.1])
  · rintro n i ⟨x3, x4⟩ hi ⟨e3, e4⟩
    dsimp only at e3 e4
    subst e3; subst e4
    have hz := bzS_le S i
    have q1 := hb (i + 1) (by omega)
    have q2 := hb (bzS S i) (by omega)
    have c0 : (iI (C 0 1) ≤ iI ((i + 1 : Nat) : Int)) ↔ C 0 1 ≤ ((i + 1 : Nat) : Int) := iI_le (by omega) (by omega) (by omega) (by omega)
    have c1 : (iI (S 7 (i + 1)) ≤ iI (S 7 (bzS S i))) ↔ S 7 (i + 1) ≤ S 7 (bzS S i) := iI_le (by omega) (by omega) (by omega) (by omega)
    have ro : ∀ b : Nat, f_M_of (iI (b : Int)) 5 = some (iI (3 + 9 * b + 5)) := fun b => by unfold f_M_of; rw [l5, ix3]
    have r : ∀ b : Nat, b < 6 → rd (M.1 15) 99 (iI (3 + 9 * (b : Int) + 5)) = some (iI (S 7 b)) := fun b hb => rdM h 7 b (fd 7 rfl) hb (by simp only [lyM]; omega)
    refine ⟨(iI (bzS S (i + 1)), iI ((i + 1 + 1 : Nat) : Int)), ?_, rfl, rfl⟩
    show blp_M_busiest_0_22 (lp_M_busiest_0_22 n) _ _ M = lp_M_busiest_0_22 n (iI (((if S 7 (i + 1) ≤ S 7 (bzS S i) then bzS S i else i + 1) : Nat) : Int)) _ M
    unfold blp_M_busiest_0_22
    rw [hC.2.1, if_neg (fun q => by have := c0.mp q; omega), ro (i + 1), Option.bind_some, r (i + 1) (by omega), Option.bind_some, ro (bzS S i), Option.bind_some, r (bzS S i) (by omega), Option.bind_some]
    unfold j_M_busiest_0_55
    rw [l1, iI_add]
    by_cases e1 : S 7 (i + 1) ≤ S 7 (bzS S i)
    · rw [if_pos (c1.mpr e1), if_pos e1]; rfl
    · rw [if_neg (fun q => e1 (c1.mp q)), if_neg e1]; rfl
  · rintro n ⟨x3, x4⟩ ⟨e3, e4⟩
    dsimp only at e3 e4
    subst e3; subst e4
    show blp_M_busiest_0_22 (lp_M_busiest_0_22 n) _ _ M = _
    unfold blp_M_busiest_0_22
    have c0 : (iI (C 0 1) ≤ iI (((C 0 1).toNat - 1 + 1 : Nat) : Int)) ↔ C 0 1 ≤ (((C 0 1).toNat - 1 + 1 : Nat) : Int) := iI_le (by omega) (by omega) (by omega) (by omega)
    rw [hC.2.1, if_pos (c0.mpr (by omega))]
theorem R_busiest {X M : Mm} (h0 : Rel X M) : An (f_P_busiest_0 X) (f_M_busiest_0 M) := by
  unfold f_P_busiest_0 f_M_busiest_0
  rw [Option.bind_some]
  have h := h0.th 0
  generalize u1 M 0 0 0 = N at h
  rcases h.told with ⟨t1, t2⟩ | ⟨t1, t2, C, w, S, Q, T⟩
  · rw [if_pos t1, if_pos t2]; exact An_ref h 1
  · have hm := T.mi
    have hb : ∀ b : Nat, (b : Int) < C 0 1 → 0 ≤ S 7 b ∧ S 7 b ≤ 20000 := fun b hb => by
      have := T.bd.2.2.1 b hb
      omega
    rw [if_neg t1, if_neg t2, X_busy T.1 T.2.1 T.rx hb, M_busy T.1 T.2.2.1 T.rm hb]
    exact An_good h _
/-! what orders waited -/
theorem cuB_const {C : SS} (hO : CfgOk C) {k m : Nat} : ∀ n : Nat, cuA C k (m + n) = cuA C k m → cuB C k (m + n) = cuB C k m
  | 0, _ => rfl
  | n + 1, h => by
    have h1 : cuA C k (m + n) + arS C k ((m + n : Nat) : Int) = cuA C k m := h
    have h2 := cuA_mono hO k (m := m) (n := m + n) (by omega)
    have h3 := arS_bd hO k ((m + n : Nat) : Int)
    have h4 : arS C k ((m + n : Nat) : Int) = 0 := by omega
    show cuB C k (m + n) + arS C k ((m + n : Nat) : Int) * ((m + n : Nat) : Int) = _
    rw [h4, Int.zero_mul, Int.add_zero]
    exact cuB_const hO n (by omega)
theorem cuB_left {C : SS} (hO : CfgOk C) {k t n : Nat} {s : Int} (ht : t ≤ n) (h1 : 0 ≤ s) (h2 : s ≤ arS C k t) (h : cuA C k n - cuA C k t - s = 0) : cuB C k n - cuB C k t - s * t = 0 := by
  by_cases e : t = n
  · subst e
    have : s = 0 := by omega
    subst this
    rw [Int.zero_mul]; omega
  · have h3 : cuA C k (t + 1) = cuA C k t + arS C k (t : Int) := rfl
    have h4 := cuA_mono hO k (m := t + 1) (n := n) (by omega)
    have h5 : s = arS C k (t : Int) := by omega
    have h6 := cuB_const hO (k := k) (m := t + 1) (n - (t + 1)) (by rw [show t + 1 + (n - (t + 1)) = n by omega]; omega)
    rw [show t + 1 + (n - (t + 1)) = n by omega] at h6
    have h7 : cuB C k (t + 1) = cuB C k t + arS C k (t : Int) * (t : Int) := rfl
    rw [h5, h6, h7]; omega
theorem M_waited {C S Q : SS} {M : Mm} {k : Nat} (hO : CfgOk C) (hC : CfgM C M) (h : RelM 15 S Q M) (hk : (k : Int) < C 0 0) (hB : Bd C S) (hQ : QBd C S Q) (hT : S 14 0 ≤ 9999) : f_M_waits_0 (iI k) M = some (iI (S 5 k - S 6 k)) ∧ f_M_waited_0 (iI k) M = some (iI (S 13 k)) := by
  have hk3 : k < 3 := by have := hO.2.1; omega
  have hT0 := hB.2.1
  obtain ⟨N, hN⟩ : ∃ N : Nat, S 14 0 = (N : Int) := ⟨(S 14 0).toNat, by omega⟩
  obtain ⟨⟨q0, fr, q1, q2, q3, q4, q5⟩, q6⟩ := hQ k hk
  rw [hN, Int.toNat_natCast] at q0 q2 q6
  have o0 : ∀ c : Int, (75 + 5 * iI (k : Int)) + iI c = iI (75 + 5 * k + c) := fun c => ix75 k c
  have m5 : rd (M.1 15) 99 (iI (75 + 5 * (k : Int) + 0)) = some (iI (S 5 k)) := rdM h 5 k (fd 5 rfl) hk3 (by simp only [lyM]; omega)
  have m6 : rd (M.1 15) 99 (iI (75 + 5 * (k : Int) + 1)) = some (iI (S 6 k)) := rdM h 6 k (fd 6 rfl) hk3 (by simp only [lyM]; omega)
  have mq : ∀ c : Nat, c < 3 → rd (M.1 15) 99 (iI (75 + 5 * (k : Int) + (2 + c))) = some (iI (Q c k)) := fun c hc => by
    rw [rd_iI (by omega) (by omega) (by decide), show (75 + 5 * (k : Int) + (2 + (c : Int))).toNat = 75 + 5 * k + 2 + c by omega]
    exact congrArg some (h.2.2.2 k c hk3 hc)
  have m14 : rd (M.1 15) 99 (iI 0) = some (iI (S 14 0)) := rdM h 14 0 (fd 14 rfl) (by decide) rfl
  have wt : f_M_waits_0 (iI k) M = some (iI (S 5 k - S 6 k)) := by
    unfold f_M_waits_0 f_M_ofKind
    rw [l0, o0, l1, o0, Option.bind_some, m5, Option.bind_some, Option.bind_some, m6, Option.bind_some, iI_sub]
  refine ⟨wt, ?_⟩
  have ev : f_M_waited_0 (iI k) M = lp_M_waited_0_41 FW (iI k) (iI (Q 0 k)) (iI (S 5 k - S 6 k)) (iI (Q 2 k)) (iI (Q 1 k)) M := by
    unfold f_M_waited_0 f_M_ofKind
    rw [l2, o0, l4, o0, l3, o0, Option.bind_some, show (75 + 5 * (k : Int) + 2) = 75 + 5 * k + (2 + (0 : Nat)) by omega, mq 0 (by omega), Option.bind_some, wt, Option.bind_some, Option.bind_some, show (75 + 5 * (k : Int) + 4) = 75 + 5 * k + (2 + (2 : Nat)) by omega, mq 2 (by omega), Option.bind_some, Option.bind_some, show (75 + 5 * (k : Int) + 3) = 75 + 5 * k + (2 + (1 : Nat)) by omega, mq 1 (by omega), Option.bind_some]
  have bN := cuA_bd hO k N
  rw [ev]
  refine loop_ex (σ := Int32 × Int32 × Int32 × Int32) (γ := Option Int32) (fun n s => lp_M_waited_0_41 n (iI k) s.1 s.2.1 s.2.2.1 s.2.2.2 M) (fun s => ∃ (t : Nat) (sm lf sv : Int), s = (iI sm, iI lf, iI sv, iI (t : Int)) ∧ t ≤ N ∧ 0 ≤ sv ∧ sv ≤ arS C k t ∧ 0 ≤ lf ∧ lf = cuA C k N - cuA C k t - sv ∧ sm + (((N : Int) - 1) * lf - (cuB C k N - cuB C k t - sv * t)) = S 13 k) (fun s => N - s.2.2.2.toNatClampNeg) (fun r => r = some (iI (S 13 k))) ?_ FW (iI (Q 0 k), iI (S 5 k - S 6 k), iI (Q 2 k), iI (Q 1 k)) ⟨fr, Q 0 k, S 5 k - S 6 k, Q 2 k, by rw [q1], q2, q3, q4, ?_, by omega, ?_⟩ (FW_gt (by omega))
  · rintro n _ ⟨t, sm, lf, sv, rfl, t1, t2, t3, t4, t5, t6⟩
    have bt := cuA_bd hO k t
    have ba := arS_bd hO k t
    have c0 : (iI lf ≤ 0) ↔ lf ≤ 0 := by rw [l0]; exact iI_le (by omega) (by omega) (by omega) (by omega)
    by_cases e0 : lf ≤ 0
    · left
      show blp_M_waited_0_41 (lp_M_waited_0_41 n) (iI k) (iI sm) (iI lf) (iI sv) (iI (t : Int)) M = _
      unfold blp_M_waited_0_41
      have z : lf = 0 := by omega
      have := cuB_left hO (k := k) t1 t2 t3 (by omega)
      rw [if_pos (c0.mpr e0)]
      rw [this, z, Int.mul_zero] at t6
      rw [← t6]; congr 2; omega
    · right
      have hlt : t < N := by
        rcases Nat.lt_or_ge t N with h | h
        · exact h
        · have : t = N := by omega
          subst this
          omega
      refine ⟨(iI (sm + (arS C k t - sv) * ((N : Int) - 1 - t)), iI (lf - (arS C k t - sv)), iI 0, iI ((t + 1 : Nat) : Int)), ?_, ⟨t + 1, sm + (arS C k t - sv) * ((N : Int) - 1 - t), lf - (arS C k t - sv), 0, rfl, by omega, Int.le_refl _, (arS_bd hO k _).1, ?_, ?_, ?_⟩, ?_⟩
      · show blp_M_waited_0_41 (lp_M_waited_0_41 n) (iI k) (iI sm) (iI lf) (iI sv) (iI (t : Int)) M = lp_M_waited_0_41 n (iI k) _ _ _ _ M
        unfold blp_M_waited_0_41
        rw [if_neg (fun q => e0 (c0.mp q)), M_comeIn hC hO hk3 (by omega) (by omega), Option.bind_some, l0, m14, Option.bind_some, hN, l1, iI_sub, iI_sub, iI_sub, iI_mul, iI_add, iI_sub, iI_add]
        rfl
      · have h4 := cuA_mono hO k (m := t + 1) (n := N) (by omega)
        have h3 : cuA C k (t + 1) = cuA C k t + arS C k (t : Int) := rfl
        omega
      · have h3 : cuA C k (t + 1) = cuA C k t + arS C k (t : Int) := rfl
        omega
      · have h7 : cuB C k (t + 1) = cuB C k t + arS C k (t : Int) * (t : Int) := rfl
        rw [h7, ← t6]
        generalize arS C k (t : Int) = A
        generalize cuB C k t = B
        generalize cuB C k N = D
        grind
      · show N - (iI ((t + 1 : Nat) : Int)).toNatClampNeg < N - (iI (t : Int)).toNatClampNeg
        rw [iI_clamp (by omega) (by omega), iI_clamp (by omega) (by omega)]; omega
  · have := hB.2.2.2.1 k hk
    omega
  · rw [q6]
    unfold QF
    rw [q1, Int.toNat_natCast]
    exact (Int.add_sub_assoc _ _ _).symm
theorem R_orders {X M : Mm} (h0 : Rel X M) (p p2 : Int32) : An (f_P_orders_0 p p2 X) (f_M_orders_0 p p2 M) := by
  unfold f_P_orders_0 f_M_orders_0
  rw [Option.bind_some]
  have h := h0.th 0
  generalize u1 M 0 0 0 = N at h
  rcases h.kind p with ⟨e1, e2⟩ | ⟨C, w, S, Q, b, rfl, hb, e1, e2, t1, t2, T⟩
  · rw [e1, e2, Option.bind_some, Option.bind_some, if_pos rfl, if_pos rfl]; exact An_ref h 1
  · have hb3 : b < 3 := by have := T.1.2.1; omega
    rw [e1, e2, Option.bind_some, Option.bind_some, if_neg n10, if_neg n10, in_wi]
    rcases wi (p := p2) (n := 3) (by omega) (by omega) with ⟨c, rfl, hc, e⟩ | ⟨e, -⟩
    · rw [← l3] at e
      rw [e, Option.bind_some, Option.bind_some, if_neg n10, if_neg n10]
      obtain ⟨w1, w2⟩ := M_waited T.1 T.2.2.1 T.rm hb T.bd T.qb T.mi
      have h16 := (T.bd.2.2.2.1 b hb).2.2.2.1
      have o0 : f_M_ofKind (iI (b : Int)) 0 = some (iI (75 + 5 * b + 0)) := by unfold f_M_ofKind; rw [l0, ix75]
      have o1 : f_M_ofKind (iI (b : Int)) 1 = some (iI (75 + 5 * b + 1)) := by unfold f_M_ofKind; rw [l1, ix75]
      have m5 : rd (N.1 15) 99 (iI (75 + 5 * (b : Int) + 0)) = some (iI (S 5 b)) := rdM T.rm 5 b (fd 5 rfl) hb3 (by simp only [lyM]; omega)
      have m6 : rd (N.1 15) 99 (iI (75 + 5 * (b : Int) + 1)) = some (iI (S 6 b)) := rdM T.rm 6 b (fd 6 rfl) hb3 (by simp only [lyM]; omega)
      have r5 : rd (X.1 44) 3 (iI (b : Int)) = some (iI (S 5 b)) := T.rx.rd 5 b (fx 5 rfl) (by decide) hb3 rfl
      have r16 : rd (X.1 45) 3 (iI (b : Int)) = some (iI (S 16 b)) := T.rx.rd 16 b (fx 16 rfl) (by decide) hb3 rfl
      have r13 : rd (X.1 46) 3 (iI (b : Int)) = some (iI (S 13 b)) := T.rx.rd 13 b (fx 13 rfl) (by decide) hb3 rfl
      refine An_if Iff.rfl (fun _ => ?_) (fun _ => An_if Iff.rfl (fun _ => ?_) (fun _ => An_if Iff.rfl (fun _ => ?_) (fun _ => ?_)))
      · rw [o0, Option.bind_some, m5, r5]; exact An_good h _
      · rw [o1, Option.bind_some, m6, r5, r16, Option.bind_some, Option.bind_some, iI_sub, h16]
        exact An_go h (by congr 1; omega)
      · rw [w1, r16, h16]; exact An_good h _
      · rw [w2, r13]; exact An_good h _
    · rw [← l3] at e
      rw [e, Option.bind_some, Option.bind_some, if_pos rfl, if_pos rfl]; exact An_ref h 1
/-! answers that change nothing -/
theorem R_fault {X M : Mm} (h : Rel X M) : An ((f_P_fault_0 X).map fun r => (r, X)) (f_M_fault_0 M) := ⟨_, _, _, rfl, by unfold f_M_fault_0; rw [Option.bind_some, u1_at, if_neg (by decide), h.2.2.2.1], h.th 0⟩
theorem R_where {X M : Mm} (h : Rel X M) : An ((f_P_where_0 X).map fun r => (r, X)) (f_M_where_0 M) := ⟨_, _, _, rfl, by unfold f_M_where_0; rw [Option.bind_some, u1_at, if_neg (by decide), h.2.2.1], h.th 0⟩
theorem R_trouble {X M : Mm} (h : Rel X M) : An ((f_P_trouble_0 X).map fun r => (r, X)) (f_M_trouble_0 M) := ⟨_, _, _, rfl, by unfold f_M_trouble_0; rw [Option.bind_some, u1_at, if_neg (by decide), h.2.1], h.th 0⟩
theorem R_bytes {X M : Mm} (h : Rel X M) : An ((f_P_bytes_0 X).map fun r => (r, X)) (f_M_bytes_0 M) := by
  obtain ⟨n, -, e1, e2⟩ := h.1.1
  exact ⟨_, _, _, rfl, by unfold f_M_bytes_0; rw [Option.bind_some, u1_at, if_neg (by decide), e2, ← e1], h.th 0⟩

theorem waS_0 (b : Nat) : ∀ n, waS (stS (fun _ => 0)) b n = 0
  | 0 => rfl
  | n + 1 => by show waS (stS (fun _ => 0)) b n + 0 = 0; rw [waS_0 b n]; rfl
theorem bg_0 {C : SS} (i j : Nat) : bgS C (fun _ => 0) i j = stS (fun _ => 0) i j := by
  unfold bgS
  by_cases e : i = 11
  · subst e
    rw [pea_val, waS_0]
    split <;> rfl
  · exact pea_ph _ _ i j e
theorem waS_eq {S S2 : SS} {b : Nat} : ∀ n, (∀ j, j < n → S2 4 (3 * b + j) = S 4 (3 * b + j)) → waS S2 b n = waS S b n
  | 0, _ => rfl
  | n + 1, h => by
    show waS S2 b n + S2 4 (3 * b + n) = waS S b n + S 4 (3 * b + n)
    rw [waS_eq n (fun j hj => h j (by omega)), h n (by omega)]
/-- benches below n have their peaks, cells below m are full -/
def mbS (C : SS) (w : Nat → Int) (n m : Nat) : SS := fun a c => if a = 4 ∨ a = 15 then (if c < m then w c else 0) else if a = 11 ∧ c < n then max 0 (waS (stS w) c (C 0 0).toNat) else stS (fun _ => 0) a c
theorem mb_4 {C : SS} {w : Nat → Int} {n m a c : Nat} (h : a = 4 ∨ a = 15) : mbS C w n m a c = if c < m then w c else 0 := if_pos h
theorem mb_11 {C : SS} {w : Nat → Int} {n m c : Nat} : mbS C w n m 11 c = if c < n then max 0 (waS (stS w) c (C 0 0).toNat) else 0 := by
  unfold mbS
  rw [if_neg (by omega)]
  by_cases e : c < n
  · rw [if_pos ⟨rfl, e⟩, if_pos e]
  · rw [if_neg (fun q => e q.2), if_neg e]; rfl
theorem mb_o {C : SS} {w : Nat → Int} {n m a c : Nat} (h : a ≠ 4) (h2 : a ≠ 15) (h3 : a ≠ 11) : mbS C w n m a c = stS (fun _ => 0) a c := by
  unfold mbS
  rw [if_neg (by omega), if_neg (fun q => h3 q.1)]
theorem mb_av {C : SS} {w : Nat → Int} {n m : Nat} (hW : WyOk C w) : AvS C (mbS C w n m) := by
  have z : ∀ a c, a ≠ 4 → a ≠ 15 → a ≠ 11 → mbS C w n m a c = stS (fun _ => 0) a c := fun a c h h2 h3 => mb_o h h2 h3
  refine ⟨fun b _ => ?_, fun b k hb hk => ?_⟩
  · rw [z 0 b (by decide) (by decide) (by decide), z 1 b (by decide) (by decide) (by decide), z 2 b (by decide) (by decide) (by decide), z 17 b (by decide) (by decide) (by decide)]
    exact ⟨Or.inl rfl, Or.inl rfl, fun q => absurd q (by decide : ¬ ((0 : Int) = 1)), rfl, Int.le_refl 0, (by decide : (0 : Int) ≤ 20000)⟩
  · have := hW.1 b k hb hk
    have e0 : mbS C w n m 0 b = 0 := z 0 b (by decide) (by decide) (by decide)
    rw [e0, mb_4 (Or.inl rfl), mb_4 (Or.inr rfl)]
    split <;> omega
theorem M_full_in {C : SS} {w : Nat → Int} {M : Mm} {Q : SS} {b : Nat} {x1 : Int32} (hO : CfgOk C) (hC : CfgM C M) (hw : WyM 10 w M) (hb : b < 6) (rc : Int32 → Int32 → Mm → Option (Int32 × Mm)) (h : RelM 15 (mbS C w b (3 * b)) Q M) : ∃ N, lp_M_begin_0_42 rc FW x1 (iI b) 0 M = j_M_begin_0_76 rc x1 (iI b) N ∧ RelM 15 (mbS C w b (3 * b + (C 0 0).toNat)) Q N ∧ Only 15 M N := by
  have hk1 := hO.1
  have hk3 := hO.2.1
  have loop := loop_up (σ := Int32 × Mm) (γ := Option (Int32 × Mm)) (fun f s => lp_M_begin_0_42 rc f x1 (iI b) s.1 s.2) (C 0 0).toNat (fun i s => s.1 = iI (i : Int) ∧ RelM 15 (mbS C w b (3 * b + i)) Q s.2 ∧ Only 15 M s.2) (fun s => j_M_begin_0_76 rc x1 (iI b) s.2) ?_ ?_ FW (FW_gt (by omega)) (iI 0, M) ⟨rfl, h, Only.rf⟩
  · obtain ⟨⟨x, N⟩, ⟨-, r, o⟩, e⟩ := loop
    exact ⟨N, by rw [l0]; exact e, r, o⟩
  · rintro f i ⟨x, N⟩ hi ⟨ex, r, o⟩
    dsimp only at ex r o
    subst ex
    obtain ⟨N2, w2, r2, o2⟩ := r.wr 4 (3 * b + i) (z := 57 + 3 * (b : Int) + i) (x := w (3 * b + i)) (fd 4 rfl) (by simp only [szS]; omega) (by simp only [lyM]; omega)
    refine ⟨(iI ((i + 1 : Nat) : Int), N2), ?_, rfl, r2.congr (fun a c ha _ => ?_) rfl rfl, o.tr o2⟩
    · show blp_M_begin_0_42 rc (lp_M_begin_0_42 rc f) x1 (iI b) (iI (i : Int)) N = lp_M_begin_0_42 rc f x1 (iI b) _ N2
      unfold blp_M_begin_0_42
      have c0 : (iI (C 0 0) ≤ iI (i : Int)) ↔ C 0 0 ≤ (i : Int) := iI_le (by omega) (by omega) (by omega) (by omega)
      have rs : f_M_store (iI (b : Int)) (iI (i : Int)) = some (iI (57 + 3 * b + i)) := by unfold f_M_store; rw [ix57]
      have r3 : rd (N.1 10) 37 (iI (3 * (b : Int) + i)) = some (iI (w (3 * b + i))) := rdw (o.wy (by decide) hw) (3 * b + i) (by omega) (by omega)
      rw [(o.cfg (by decide) hC).1, if_neg (fun q => by have := c0.mp q; omega), rs, Option.bind_some, ixc, r3, Option.bind_some, w2, Option.bind_some, l1, iI_add]
      rfl
    · have h15 : a ≠ 15 := by unfold fdM at ha; omega
      unfold uS
      by_cases e4 : a = 4
      · subst e4
        rw [mb_4 (Or.inl rfl), mb_4 (Or.inl rfl)]
        grind
      · rw [if_neg (fun q => e4 q.1)]
        by_cases e11 : a = 11
        · subst e11; rw [mb_11, mb_11]
        · rw [mb_o e4 h15 e11, mb_o e4 h15 e11]
  · rintro f ⟨x, N⟩ ⟨ex, r, o⟩
    dsimp only at ex r o
    subst ex
    show blp_M_begin_0_42 rc (lp_M_begin_0_42 rc f) x1 (iI b) (iI ((C 0 0).toNat : Int)) N = _
    unfold blp_M_begin_0_42
    have c0 : (iI (C 0 0) ≤ iI ((C 0 0).toNat : Int)) ↔ C 0 0 ≤ ((C 0 0).toNat : Int) := iI_le (by omega) (by omega) (by omega) (by omega)
    rw [(o.cfg (by decide) hC).1, if_pos (c0.mpr (by omega))]
theorem M_full {C : SS} {w : Nat → Int} {M : Mm} {Q : SS} {x1 : Int32} (hO : CfgOk C) (hC : CfgM C M) (hw : WyM 10 w M) (hW : WyOk C w) (h0 : w0 C w) (hx : ¬ x1 = 0) (h : RelM 15 (stS (fun _ => 0)) Q M) : ∃ N, lp_M_begin_0_28 FW x1 0 M = ((f_M_granted_0 0 N).bind fun q2 => (zr q2.1).bind fun z3 => some (z3, q2.2)) ∧ RelM 15 (bgS C w) Q N ∧ Only 15 M N := by
  have hk1 := hO.1
  have hk3 := hO.2.1
  have hb1 := hO.2.2.1
  have hb6 := hO.2.2.2.1
  have loop := loop_up (σ := Int32 × Mm) (γ := Option (Int32 × Mm)) (fun f s => lp_M_begin_0_28 f x1 s.1 s.2) (C 0 1).toNat (fun i s => s.1 = iI (i : Int) ∧ RelM 15 (mbS C w i (3 * i)) Q s.2 ∧ Only 15 M s.2) (fun s => (f_M_granted_0 0 s.2).bind fun q2 => (zr q2.1).bind fun z3 => some (z3, q2.2)) ?_ ?_ FW (FW_gt (by omega)) (iI 0, M) ⟨rfl, h.congr (fun a c _ _ => ?_) rfl rfl, Only.rf⟩
  · obtain ⟨⟨x, N⟩, ⟨-, r, o⟩, e⟩ := loop
    refine ⟨N, by rw [l0]; exact e, r.congr (fun a c ha hc => ?_) (pea_ph _ _ 14 1 (by decide)) (pea_ph _ _ 14 2 (by decide)), o⟩
    by_cases e11 : a = 11
    · subst e11
      show upF (peaS C) (C 0 1).toNat (stS w) 11 c = _
      rw [pea_val, mb_11]
      rfl
    · show upF (peaS C) (C 0 1).toNat (stS w) a c = _
      rw [pea_ph _ _ a c e11]
      have h15 : a ≠ 15 := by unfold fdM at ha; omega
      by_cases e4 : a = 4
      · subst e4
        rw [mb_4 (Or.inl rfl)]
        show w c = (if c < 3 * (C 0 1).toNat then w c else 0)
        split
        · rfl
        · simp only [szS] at hc
          have := (h0 (c / 3) (c % 3) (by omega) (by omega) (by omega)).1
          rw [show 3 * (c / 3) + c % 3 = c by omega] at this
          exact this
      · rw [mb_o e4 h15 e11]
        unfold stS
        rw [if_neg (show ¬ (a = 4 ∨ a = 15) by omega), if_neg (show ¬ (a = 4 ∨ a = 15) by omega)]
  · rintro f i ⟨x, N⟩ hi ⟨ex, r, o⟩
    dsimp only at ex r o
    subst ex
    obtain ⟨N2, e2, r2, o2⟩ := M_full_in (x1 := x1) (b := i) hO (o.cfg (by decide) hC) (o.wy (by decide) hw) (by omega) (lp_M_begin_0_28 f) r
    have r3 : RelM 15 (mbS C w i (3 * i + 3)) Q N2 := r2.congr (fun a c ha hc => by
      have h15 : a ≠ 15 := by unfold fdM at ha; omega
      by_cases e4 : a = 4
      · subst e4
        rw [mb_4 (Or.inl rfl), mb_4 (Or.inl rfl)]
        by_cases c1 : c < 3 * i + (C 0 0).toNat
        · rw [if_pos (show c < 3 * i + 3 by omega), if_pos c1]
        · rw [if_neg c1]
          split
          · simp only [szS] at hc
            have := (h0 i (c - 3 * i) (by omega) (by omega) (by omega)).1
            rw [show 3 * i + (c - 3 * i) = c by omega] at this
            exact this
          · rfl
      · by_cases e11 : a = 11
        · subst e11; rw [mb_11, mb_11]
        · rw [mb_o e4 h15 e11, mb_o e4 h15 e11]) rfl rfl
    have e11 : mbS C w i (3 * i + 3) 11 i = 0 := by rw [mb_11, if_neg (by omega)]
    obtain ⟨N3, e3, r4, o3⟩ := M_peaks_15 (b := i) ((o.tr o2).cfg (by decide) hC) hO r3 (by omega) (mb_av hW) (by rw [e11]; decide) (by rw [e11]; decide)
    refine ⟨(iI ((i + 1 : Nat) : Int), N3), ?_, rfl, r4.congr (fun a c ha _ => ?_) rfl rfl, (o.tr o2).tr o3⟩
    · show blp_M_begin_0_28 (lp_M_begin_0_28 f) x1 (iI (i : Int)) N = lp_M_begin_0_28 f x1 _ N3
      unfold blp_M_begin_0_28
      have c0 : (iI (C 0 1) ≤ iI (i : Int)) ↔ C 0 1 ≤ (i : Int) := iI_le (by omega) (by omega) (by omega) (by omega)
      rw [(o.cfg (by decide) hC).2.1, if_neg (fun q => by have := c0.mp q; omega), if_neg hx, e2]
      unfold j_M_begin_0_76
      rw [e3, Option.bind_some, l1, iI_add]
      rfl
    · have h15 : a ≠ 15 := by unfold fdM at ha; omega
      unfold peaS
      rw [e11, waS_eq (S := stS w) (S2 := mbS C w i (3 * i + 3)) (b := i) (C 0 0).toNat (fun j hj => by
        rw [mb_4 (Or.inl rfl), if_pos (by omega)]
        rfl)]
      unfold uS
      rw [show 3 * (i + 1) = 3 * i + 3 by omega]
      by_cases e4 : a = 4
      · subst e4; rw [if_neg (by omega), mb_4 (Or.inl rfl), mb_4 (Or.inl rfl)]
      · by_cases e5 : a = 11
        · subst e5
          rw [mb_11, mb_11]
          grind
        · rw [if_neg (fun q => e5 q.1), mb_o e4 h15 e5, mb_o e4 h15 e5]
  · rintro f ⟨x, N⟩ ⟨ex, r, o⟩
    dsimp only at ex r o
    subst ex
    show blp_M_begin_0_28 (lp_M_begin_0_28 f) x1 (iI ((C 0 1).toNat : Int)) N = _
    unfold blp_M_begin_0_28
    have c0 : (iI (C 0 1) ≤ iI ((C 0 1).toNat : Int)) ↔ C 0 1 ≤ ((C 0 1).toNat : Int) := iI_le (by omega) (by omega) (by omega) (by omega)
    rw [(o.cfg (by decide) hC).2.1, if_pos (c0.mpr (by omega))]
  · by_cases e4 : a = 4 ∨ a = 15
    · rw [mb_4 e4, if_neg (by omega)]
      unfold stS
      rw [if_neg (by omega), if_neg (by omega), if_pos e4]
    · by_cases e5 : a = 11
      · subst e5; rw [mb_11, if_neg (by omega)]; rfl
      · rw [mb_o (by omega) (by omega) e5]
theorem R_begin {X M : Mm} (h0 : Rel X M) (p : Int32) : An (f_P_begin_0 p X) (f_M_begin_0 p M) := by
  unfold f_P_begin_0 f_M_begin_0
  rw [Option.bind_some]
  have h := h0.th 0
  generalize u1 M 0 0 0 = N at h
  rcases h.told with ⟨t1, t2⟩ | ⟨t1, t2, C, w, S, Q, T⟩
  · rw [if_pos t1, if_pos t2]
    exact ⟨_, _, _, rfl, rfl, h.set 1 (-1)⟩
  · rw [if_neg t1, if_neg t2]
    obtain ⟨Y, y1, y2, y3⟩ := X_start_35 T.1 T.2.1 T.wx T.wo T.w0 p
    obtain ⟨N1, n1, n2, n3⟩ := M_begins_15 (C := C) N
    rw [y1, n1, Option.bind_some, Option.bind_some]
    by_cases e : p = 0
    · rw [if_pos e] at y2
      obtain ⟨b1, b2, b3, b4⟩ := Bd_bg T.1 (aOk_0 C)
      have T2 := T.run y3 n3 b1 b2 (by rw [b3]; decide) (by rw [b4]; exact y2) (n2.congr (fun i j _ _ => bg_0 i j) (bg_0 14 1) (bg_0 14 2))
      have hR := h.upd t1 (y3.1 0 (by decide)) (y3.1 1 (by decide)) (fun i _ => by rw [n3.1 0 (by decide)]) (n3.1 1 (by decide)) T2
      have ev : lp_M_begin_0_28 FW p 0 N1 = (f_M_granted_0 0 N1).bind fun q2 => (zr q2.1).bind fun z3 => some (z3, q2.2) := by
        obtain ⟨f, hf⟩ : ∃ f, FW = f + 1 := ⟨FW - 1, by have := FW_gt (n := 0) (by omega); omega⟩
        rw [hf]
        show blp_M_begin_0_28 (lp_M_begin_0_28 f) p 0 N1 = _
        unfold blp_M_begin_0_28
        rw [if_pos e]
        split <;> rfl
      rw [ev]
      exact ⟨_, _, _, rfl, rfl, hR.set 0 (-1)⟩
    · rw [if_neg e] at y2
      obtain ⟨b1, b2, b3, b4⟩ := Bd_bg T.1 (aOk_w T.wo T.w0)
      obtain ⟨N2, m1, m2, m3⟩ := M_full T.1 (n3.cfg (by decide) T.2.2.1) (n3.wy (by decide) T.wm) T.wo T.w0 e n2
      have T2 := T.run y3 (n3.tr m3) b1 b2 (by rw [b3]; decide) (by rw [b4]; exact y2) m2
      have hR := h.upd t1 (y3.1 0 (by decide)) (y3.1 1 (by decide)) (fun i _ => by rw [(n3.tr m3).1 0 (by decide)]) ((n3.tr m3).1 1 (by decide)) T2
      rw [m1]
      exact ⟨_, _, _, rfl, rfl, hR.set 0 (-1)⟩

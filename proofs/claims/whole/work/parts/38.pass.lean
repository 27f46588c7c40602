theorem chg_Me {C S : SS} {w : Nat → Int} (hO : CfgOk C) (hW : WyOk C w) (hB : Bd C S) (hT : S 14 0 ≤ 9999) : Me C S (chgS C w S) ∧ ∀ i j, i ≠ 0 → i ≠ 1 → i ≠ 2 → i ≠ 3 → i ≠ 4 → i ≠ 5 → i ≠ 6 → i ≠ 12 → i ≠ 15 → i ≠ 16 → i ≠ 17 → chgS C w S i j = S i j := by
  have hk1 := hO.1
  have hb1 := hO.2.2.1
  have me := Me_end hO hB hT
  have ep := end_ph hO hB hT (C 0 1).toNat (by omega)
  obtain ⟨⟨m1, m2, m3, m4⟩, m5⟩ := ep
  unfold chgS
  generalize hE : upF (endS C) (C 0 1).toNat S = E at *
  have hc : ∀ k : Nat, (k : Int) < C 0 0 → 0 ≤ E 5 k + arS C k (E 14 0) - E 6 k := by
    intro k hk
    have b4 := hB.2.2.2.1 k hk
    have ha := arS_bd hO k (E 14 0)
    rw [m2 5 k (by decide) (by decide) (by decide) (by decide) (by decide) (by decide) (by decide), m2 6 k (by decide) (by decide) (by decide) (by decide) (by decide) (by decide) (by decide)]; omega
  have ms := Me_srv (n := (C 0 0).toNat) hO me (by omega) hc
  have hb2 := hB.2.1
  obtain ⟨md, df⟩ := dn_ph (w := w) hO hW (S0 := S) (by omega) (by omega) (C 0 1).toNat _ (by omega) ms
  refine ⟨md, fun i j h0 h1 h2 h3 h4 h5 h6 h12 h15 h16 h17 => ?_⟩
  rw [df i j h0 h1 h2 h4 h15 h17, srv_f ⟨h4, h5, h6, h12, h15, h16⟩]
  exact m2 i j h0 h1 h2 h3 h4 h15 h17
theorem totS_congr {S S2 : SS} : ∀ n, (∀ k, k < n → S2 6 k = S 6 k) → totS S2 n = totS S n
  | 0, _ => rfl
  | n + 1, h => by
    show totS S2 n + S2 6 n = totS S n + S 6 n
    rw [totS_congr n (fun k hk => h k (by omega)), h n (by omega)]
theorem min_6 {C S : SS} {w : Nat → Int} (k : Nat) : minS C w S 6 k = chgS C w (ageS C S) 6 k := by
  unfold minS cntS
  rw [uS_nf (by decide), pea_ph _ _ 6 k (by decide), tal_ph _ _ 6 k (by decide) (by decide) (by decide) (by decide) (by decide)]
theorem X_pass_35 {C S : SS} {w : Nat → Int} {tt : Int} {M : Mm} (hC : CfgX C M) (hO : CfgOk C) (h : RelX 35 S tt M) (hw : WyX 32 w M) (hW : WyOk C w) (hB : Bd C S) (hT : S 14 0 ≤ 9999) : ∃ M', f_L_passMinute_35 M = some M' ∧ RelX 35 (minS C w S) (tt + (totS (minS C w S) (C 0 0).toNat - totS S (C 0 0).toNat)) M' ∧ OnlyX 35 M M' := by
  have hBa : Bd C (ageS C S) := Bd_congr hB (fun i j h => age_f h)
  have a14 : ∀ j, ageS C S 14 j = S 14 j := fun j => age_f (by decide)
  have hT' : ageS C S 14 0 ≤ 9999 := by rw [a14]; exact hT
  have hb1 := hO.2.2.1
  obtain ⟨M1, e1, h1, o1⟩ := X_age_35 hC hO h
  obtain ⟨M2, e2, h2, o2⟩ := X_change_35 (o1.cfg (by decide) hC) hO h1 (o1.wy (by decide) hw) hW hBa hT'
  obtain ⟨me, df⟩ := chg_Me hO hW hBa hT'
  have d14 : ∀ j, chgS C w (ageS C S) 14 j = S 14 j := fun j => (df 14 j (by decide) (by decide) (by decide) (by decide) (by decide) (by decide) (by decide) (by decide) (by decide) (by decide) (by decide)).trans (a14 j)
  have d11 : ∀ j, chgS C w (ageS C S) 11 j = S 11 j := fun j => (df 11 j (by decide) (by decide) (by decide) (by decide) (by decide) (by decide) (by decide) (by decide) (by decide) (by decide) (by decide)).trans (age_f (by decide))
  have hT0 := hB.2.1
  have h5 := hB.2.2.2.2.1
  obtain ⟨M3, e3, h3, o3⟩ := X_tally_35 ((o1.tr o2).cfg (by decide) hC) hO h2 ((o1.tr o2).wy (by decide) hw) hW me.1 (by rw [d14]; exact hT0) (by rw [d14]; omega) (by rw [d14]; omega)
  have o13 := (o1.tr o2).tr o3
  have tph := tal_ph (C := C) (w := w) (chgS C w (ageS C S)) (C 0 1).toNat
  have AL : AvS C (upF (talS C w) (C 0 1).toNat (chgS C w (ageS C S))) := AvS_congr me.1 (fun b _ => ⟨tph 0 b (by decide) (by decide) (by decide) (by decide) (by decide), tph 1 b (by decide) (by decide) (by decide) (by decide) (by decide), tph 2 b (by decide) (by decide) (by decide) (by decide) (by decide), tph 17 b (by decide) (by decide) (by decide) (by decide) (by decide)⟩) (fun b k _ _ => ⟨tph 4 _ (by decide) (by decide) (by decide) (by decide) (by decide), tph 15 _ (by decide) (by decide) (by decide) (by decide) (by decide)⟩)
  have t14 := (tal_14 (C := C) (w := w) (chgS C w (ageS C S)) (C 0 1).toNat).1
  obtain ⟨M4, e4, h4, o4⟩ := X_peaks_35 (o13.cfg (by decide) hC) hO h3 AL (fun b hb => by
    rw [tph 11 b (by decide) (by decide) (by decide) (by decide) (by decide), d11]
    have := hB.2.2.1 b hb
    omega)
  have v14 : M4.1 35 14 = iI (S 14 0) := by
    have := h4.1 14 0 (fx 14 rfl) (by decide)
    rw [pea_ph _ _ 14 0 (by decide), t14, d14] at this
    exact this
  have et : totS (chgS C w (ageS C S)) (C 0 0).toNat - totS (ageS C S) (C 0 0).toNat = totS (minS C w S) (C 0 0).toNat - totS S (C 0 0).toNat := by
    rw [totS_congr (S := chgS C w (ageS C S)) (S2 := minS C w S) _ (fun k _ => min_6 k), totS_congr (S := S) (S2 := ageS C S) _ (fun k _ => age_f (by decide))]
  rw [et] at h4
  have h6 := h4.put (i := 14) (j := 0) (fx 14 rfl) (by decide) (S 14 0 + 1)
  refine ⟨_, ?_, h6, (o13.tr o4).u1 (by decide) (by decide)⟩
  unfold f_L_passMinute_35
  rw [e1, Option.bind_some, e2, Option.bind_some, e3, Option.bind_some, e4, Option.bind_some, v14, l1, iI_add]
  rfl

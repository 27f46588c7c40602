/-- the benches' starts, from n - 1 down -/
theorem M_dn_15 {C S0 Q : SS} {w : Nat → Int} {M0 : Mm} (hC : CfgM C M0) (hO : CfgOk C) (hw : WyM 10 w M0) (hW : WyOk C w) (hT : 0 ≤ S0 14 0) (hT2 : S0 14 0 ≤ 9999) : ∀ (n fuel : Nat) (S : SS) (M : Mm), (n : Int) ≤ C 0 1 → n < fuel → Me C S0 S → RelM 15 S Q M → Only 15 M0 M → ∃ M', lp_M_minute_0_15_10_64 fuel (iI (S0 14 0)) (iI ((n : Int) - 1)) M = j_M_minute_0_15_10_84 (iI (S0 14 0)) M' ∧ RelM 15 (dnF (staS C w) n S) Q M' ∧ Only 15 M0 M' := by
  intro n
  have h6 := hO.2.2.2.1
  induction n with
  | zero =>
    intro fuel S M _ hf hm h o
    obtain ⟨f2, rfl⟩ : ∃ f2, fuel = f2 + 1 := ⟨fuel - 1, by omega⟩
    refine ⟨M, ?_, h, o⟩
    show blp_M_minute_0_15_10_64 (lp_M_minute_0_15_10_64 f2) (iI (S0 14 0)) (iI (((0 : Nat) : Int) - 1)) M = _
    unfold blp_M_minute_0_15_10_64
    rw [if_pos (show iI (((0 : Nat) : Int) - 1) < 0 by decide)]
  | succ n ih =>
    intro fuel S M hn hf hm h o
    obtain ⟨f2, rfl⟩ : ∃ f2, fuel = f2 + 1 := ⟨fuel - 1, by omega⟩
    have e14 := hm.2.1 0
    obtain ⟨M1, g1, g2, g3⟩ := M_starts_15 (b := n) (o.cfg (by decide) hC) hO h (o.wy (by decide) hw) hW (by omega) hm.1
    obtain ⟨M', i1, i2, i3⟩ := ih f2 (staS C w n S) M1 (by omega) (by omega) (Me_sta hO hW hm (by omega) hT hT2) g2 (o.tr g3)
    refine ⟨M', ?_, i2, i3⟩
    rw [← i1]
    show blp_M_minute_0_15_10_64 (lp_M_minute_0_15_10_64 f2) (iI (S0 14 0)) (iI (((n + 1 : Nat) : Int) - 1)) M = _
    unfold blp_M_minute_0_15_10_64
    have en : ((n + 1 : Nat) : Int) - 1 = (n : Int) := by omega
    rw [en]
    have c0 : ¬ (iI (n : Int) < 0) := by rw [l0, iI_lt (by omega) (by omega) (by omega) (by omega)]; omega
    rw [e14] at g1
    rw [if_neg c0, g1, lm1, iI_add]
    rfl
theorem M_minute_15 {C S Q : SS} {w : Nat → Int} {M : Mm} (hC : CfgM C M) (hO : CfgOk C) (h : RelM 15 S Q M) (hw : WyM 10 w M) (hW : WyOk C w) (hB : Bd C S) (hQ : QBd C S Q) (hT : S 14 0 ≤ 9999) : ∃ (M' : Mm) (Q' : SS), f_M_minute_0_15_10 M = some M' ∧ RelM 15 (minS C w S) Q' M' ∧ Only 15 M M' ∧ QBd C (minS C w S) Q' := by
  have hk1 := hO.1
  have hk3 := hO.2.1
  have hb1 := hO.2.2.1
  have hb6 := hO.2.2.2.1
  have hT0 := hB.2.1
  have hBa : Bd C (ageS C S) := Bd_congr hB (fun i j h => age_f h)
  have a14 : ageS C S 14 0 = S 14 0 := age_f (by decide)
  have ha : RelM 15 (ageS C S) Q M := h.congr (fun i j hi _ => age_f (fun e => by unfold fdM at hi; omega)) (age_f (by decide)) (age_f (by decide))
  obtain ⟨t, ht⟩ : ∃ t : Nat, S 14 0 = (t : Int) := ⟨(S 14 0).toNat, by omega⟩
  -- the row of steps, one behind another
  have ev0 : f_M_minute_0_15_10 M = lp_M_minute_0_15_10_7 FW (iI (S 14 0)) 0 M := by
    unfold f_M_minute_0_15_10
    rw [l0, rdM h 14 0 (z := 0) (fd 14 rfl) (by decide) rfl]
    rfl
  -- ends
  have L1 := loop_up (σ := Int32 × Mm) (γ := Option Mm) (fun n s => lp_M_minute_0_15_10_7 n (iI (S 14 0)) s.1 s.2) (C 0 1).toNat (fun i s => s.1 = iI (i : Int) ∧ RelM 15 (upF (endS C) i (ageS C S)) Q s.2 ∧ Only 15 M s.2) (fun s => j_M_minute_0_15_10_30 (iI (S 14 0)) s.2) ?_ ?_ FW (FW_gt (by omega)) (iI 0, M) ⟨rfl, ha, Only.rf⟩
  rotate_left
  · rintro n i ⟨x, M1⟩ hi ⟨ex, r1, o1⟩
    dsimp only at ex r1 o1
    subst ex
    obtain ⟨⟨m1, m2, m3, m4⟩, m5⟩ := end_ph hO hBa (by omega) i (by omega)
    have hib : (i : Int) < C 0 1 := by omega
    have q14 : upF (endS C) i (ageS C S) 14 0 = S 14 0 := (m2 14 0 (by decide) (by decide) (by decide) (by decide) (by decide) (by decide) (by decide)).trans a14
    have q3 := (m3 i hib).2.1 (Nat.le_refl i) 3 (by decide) (by decide)
    have b3 := hB.2.2.1 i hib
    have q3' : upF (endS C) i (ageS C S) 3 i = S 3 i := q3.trans (age_f (by decide))
    obtain ⟨M2, g1, g2, g3⟩ := M_ends_15 (b := i) (o1.cfg (by decide) hC) hO r1 hib m1 (by omega) (by omega) (by omega) (by omega)
    refine ⟨(iI ((i + 1 : Nat) : Int), M2), ?_, rfl, g2, o1.tr g3⟩
    show blp_M_minute_0_15_10_7 (lp_M_minute_0_15_10_7 n) (iI (S 14 0)) (iI (i : Int)) M1 = lp_M_minute_0_15_10_7 n (iI (S 14 0)) (iI ((i + 1 : Nat) : Int)) M2
    unfold blp_M_minute_0_15_10_7
    rw [(o1.cfg (by decide) hC).2.1]
    have c0 : (iI (C 0 1) ≤ iI (i : Int)) ↔ C 0 1 ≤ (i : Int) := iI_le (by omega) (by omega) (by omega) (by omega)
    rw [q14] at g1
    simp only [c0]
    rw [if_neg (by omega), g1, l1, iI_add]
    rfl
  · rintro n ⟨x, M1⟩ ⟨ex, r1, o1⟩
    dsimp only at ex r1 o1
    subst ex
    show blp_M_minute_0_15_10_7 (lp_M_minute_0_15_10_7 n) (iI (S 14 0)) (iI ((C 0 1).toNat : Int)) M1 = _
    unfold blp_M_minute_0_15_10_7
    rw [(o1.cfg (by decide) hC).2.1]
    have c0 : (iI (C 0 1) ≤ iI ((C 0 1).toNat : Int)) ↔ C 0 1 ≤ ((C 0 1).toNat : Int) := iI_le (by omega) (by omega) (by omega) (by omega)
    simp only [c0]
    rw [if_pos (by omega)]
  obtain ⟨⟨x1, M1⟩, ⟨-, r1, o1⟩, ev1⟩ := L1
  dsimp only at r1 o1 ev1
  have me := Me_end hO hBa (by omega)
  obtain ⟨⟨m1, m2, m3, m4⟩, m5⟩ := end_ph hO hBa (by omega) (C 0 1).toNat (by omega)
  generalize hE : upF (endS C) (C 0 1).toNat (ageS C S) = E at *
  have E14 : E 14 0 = S 14 0 := (me.2.1 0).trans a14
  have Ek : ∀ k : Nat, E 5 k = S 5 k ∧ E 6 k = S 6 k ∧ E 12 k = S 12 k := fun k =>
    ⟨(m2 5 k (by decide) (by decide) (by decide) (by decide) (by decide) (by decide) (by decide)).trans (age_f (by decide)), (m2 6 k (by decide) (by decide) (by decide) (by decide) (by decide) (by decide) (by decide)).trans (age_f (by decide)), (m2 12 k (by decide) (by decide) (by decide) (by decide) (by decide) (by decide) (by decide)).trans (age_f (by decide))⟩
  have hc : ∀ k : Nat, (k : Int) < C 0 0 → 0 ≤ E 5 k + arS C k (E 14 0) - E 6 k := by
    intro k hk
    obtain ⟨k1, k2, -⟩ := Ek k
    have b4 := hB.2.2.2.1 k hk
    have ha := arS_bd hO k (E 14 0)
    rw [k1, k2]; omega
  -- serving
  have L2 := loop_up (σ := Int32 × Mm) (γ := Option Mm) (fun n s => lp_M_minute_0_15_10_33 n (iI (S 14 0)) s.1 s.2) (C 0 0).toNat (fun i s => s.1 = iI (i : Int) ∧ ∃ Q2, RelM 15 (srvS C i E) Q2 s.2 ∧ Only 15 M s.2 ∧ (∀ k, i ≤ k → ∀ c, Q2 c k = Q c k) ∧ (∀ k : Nat, k < i → QK C k (t + 1) (srvS C i E 5 k) (srvS C i E 6 k) (Q2 1 k) (Q2 2 k) ∧ S 13 k + (S 5 k - S 6 k) = QF C k (t + 1) (Q2 0 k) (Q2 1 k) (Q2 2 k) (srvS C i E 5 k) (srvS C i E 6 k))) (fun s => j_M_minute_0_15_10_56 (iI (S 14 0)) s.2) ?_ ?_ FW (FW_gt (by omega)) (iI 0, M1) ⟨rfl, Q, by rw [srvS_0]; exact r1, o1, fun _ _ _ => rfl, fun k hk => absurd hk (Nat.not_lt_zero k)⟩
  rotate_left
  · rintro n i ⟨x, M2⟩ hi ⟨ex, Q2, r2, o2, q2, q3⟩
    dsimp only at ex r2 o2
    subst ex
    have hik : (i : Int) < C 0 0 := by omega
    have ms := Me_srv (n := i) hO me (by omega) hc
    have b4 := hB.2.2.2.1 i hik
    obtain ⟨k1, k2, k3⟩ := Ek i
    have s5 : srvS C i E 5 i = E 5 i := by unfold srvS; grind
    have s6 : srvS C i E 6 i = E 6 i := by unfold srvS; grind
    have s12 : srvS C i E 12 i = E 12 i := by unfold srvS; grind
    have hq := hQ i hik
    rw [ht, Int.toNat_natCast] at hq
    obtain ⟨M3, Q3, g1, g2, g3, g4, g5, g6⟩ := M_serves_15 (k := i) (n := t) (o2.cfg (by decide) hC) hO r2 hik (by omega) (by rw [srvS_14, E14, ht]) ms.1 (by rw [s5, s6, k1, k2, q2 i (Nat.le_refl i), q2 i (Nat.le_refl i)]; exact hq.1) (by rw [s6, k2]; exact b4.1) (by rw [s12, k3]; omega)
    rw [← srvS_s] at g2
    refine ⟨(iI ((i + 1 : Nat) : Int), M3), ?_, rfl, Q3, g2, o2.tr g3, fun k hk c => ?_, fun k hk => ?_⟩
    · show blp_M_minute_0_15_10_33 (lp_M_minute_0_15_10_33 n) (iI (S 14 0)) (iI (i : Int)) M2 = lp_M_minute_0_15_10_33 n (iI (S 14 0)) (iI ((i + 1 : Nat) : Int)) M3
      unfold blp_M_minute_0_15_10_33
      rw [(o2.cfg (by decide) hC).1]
      have c0 : (iI (C 0 0) ≤ iI (i : Int)) ↔ C 0 0 ≤ (i : Int) := iI_le (by omega) (by omega) (by omega) (by omega)
      simp only [c0]
      rw [if_neg (by omega), ht, g1, l1, iI_add]
      rfl
    · rw [g4 c k (by omega)]; exact q2 k (by omega) c
    · have v5 : srvS C (i + 1) E 5 k = (if k < i then srvS C i E 5 k else E 5 i + arS C i (S 14 0)) := by rw [← E14]; unfold srvS; grind
      have v6 : srvS C (i + 1) E 6 k = (if k < i then srvS C i E 6 k else E 6 i + dvS C E i) := by unfold srvS; grind
      rw [v5, v6]
      by_cases e : k = i
      · subst e
        rw [if_neg (Nat.lt_irrefl k), if_neg (Nat.lt_irrefl k)]
        rw [s5, s6, dvS_k (Nat.le_refl k)] at g5 g6
        rw [ht]
        refine ⟨g5, ?_⟩
        rw [g6, QF_age, k1, k2, q2 k (Nat.le_refl k), q2 k (Nat.le_refl k), q2 k (Nat.le_refl k), ← hq.2]
      · rw [if_pos (by omega), if_pos (by omega), g4 0 k e, g4 1 k e, g4 2 k e]
        exact q3 k (by omega)
  · rintro n ⟨x, M2⟩ ⟨ex, Q2, r2, o2, q2, q3⟩
    dsimp only at ex r2 o2
    subst ex
    show blp_M_minute_0_15_10_33 (lp_M_minute_0_15_10_33 n) (iI (S 14 0)) (iI ((C 0 0).toNat : Int)) M2 = _
    unfold blp_M_minute_0_15_10_33
    rw [(o2.cfg (by decide) hC).1]
    have c0 : (iI (C 0 0) ≤ iI ((C 0 0).toNat : Int)) ↔ C 0 0 ≤ ((C 0 0).toNat : Int) := iI_le (by omega) (by omega) (by omega) (by omega)
    simp only [c0]
    rw [if_pos (by omega)]
  obtain ⟨⟨x2, M2⟩, ⟨-, Q2, r2, o2, -, q3⟩, ev2⟩ := L2
  dsimp only at r2 o2 ev2
  have ms := Me_srv (n := (C 0 0).toNat) hO me (by omega) hc
  have hchg : chgS C w (ageS C S) = dnF (staS C w) (C 0 1).toNat (srvS C (C 0 0).toNat E) := by unfold chgS; rw [hE]
  generalize hR : srvS C (C 0 0).toNat E = R at *
  -- starts
  obtain ⟨M3, ev3, r3, o3⟩ := M_dn_15 (S0 := ageS C S) (Q := Q2) (w := w) hC hO hw hW (by omega) (by omega) (C 0 1).toNat FW R M2 (by omega) (FW_gt (by omega)) ms r2 o2
  obtain ⟨md, df⟩ := dn_ph (w := w) hO hW (S0 := ageS C S) (by omega) (by omega) (C 0 1).toNat R (by omega) ms
  rw [← hchg] at r3 md df
  have hcnt : minS C w S = uS (upF (peaS C) (C 0 1).toNat (upF (talS C w) (C 0 1).toNat (chgS C w (ageS C S)))) 14 0 (S 14 0 + 1) := rfl
  generalize hD : chgS C w (ageS C S) = D at *
  have D14 : D 14 0 = S 14 0 := (md.2.1 0).trans a14
  have D1 : D 14 1 = S 14 1 := (md.2.1 1).trans (age_f (by decide))
  -- tallies
  have L4 := loop_up (σ := Int32 × Mm) (γ := Option Mm) (fun n s => lp_M_minute_0_15_10_87 n (iI (S 14 0)) s.1 s.2) (C 0 1).toNat (fun i s => s.1 = iI (i : Int) ∧ RelM 15 (upF (talS C w) i D) Q2 s.2 ∧ Only 15 M s.2) (fun s => j_M_minute_0_15_10_111 s.2) ?_ ?_ FW (FW_gt (by omega)) (iI 0, M3) ⟨rfl, r3, o3⟩
  rotate_left
  · rintro n i ⟨x, M4⟩ hi ⟨ex, r4, o4⟩
    dsimp only at ex r4 o4
    subst ex
    have t14 := tal_14 (C := C) (w := w) D i
    have tph := tal_ph (C := C) (w := w) D i
    have AL : AvS C (upF (talS C w) i D) := AvS_congr md.1 (fun b _ => ⟨tph 0 b (by decide) (by decide) (by decide) (by decide) (by decide), tph 1 b (by decide) (by decide) (by decide) (by decide) (by decide), tph 2 b (by decide) (by decide) (by decide) (by decide) (by decide), tph 17 b (by decide) (by decide) (by decide) (by decide) (by decide)⟩) (fun b k _ _ => ⟨tph 4 _ (by decide) (by decide) (by decide) (by decide) (by decide), tph 15 _ (by decide) (by decide) (by decide) (by decide) (by decide)⟩)
    have hf : upF (talS C w) i D 14 1 = -2 ∨ (0 ≤ upF (talS C w) i D 14 1 ∧ upF (talS C w) i D 14 1 ≤ 10000) := by
      have b5 := hB.2.2.2.2.1
      rcases t14.2.2.2 with ⟨z, -⟩ | ⟨z, -⟩ <;> rw [z] <;> omega
    obtain ⟨M5, g1, g2, g3⟩ := M_tallies_15 (b := i) (o4.cfg (by decide) hC) hO r4 (o4.wy (by decide) hw) hW (by omega) AL (by rw [t14.1]; omega) (by rw [t14.1]; omega) hf
    refine ⟨(iI ((i + 1 : Nat) : Int), M5), ?_, rfl, g2, o4.tr g3⟩
    show blp_M_minute_0_15_10_87 (lp_M_minute_0_15_10_87 n) (iI (S 14 0)) (iI (i : Int)) M4 = lp_M_minute_0_15_10_87 n (iI (S 14 0)) (iI ((i + 1 : Nat) : Int)) M5
    unfold blp_M_minute_0_15_10_87
    rw [(o4.cfg (by decide) hC).2.1]
    have c0 : (iI (C 0 1) ≤ iI (i : Int)) ↔ C 0 1 ≤ (i : Int) := iI_le (by omega) (by omega) (by omega) (by omega)
    rw [t14.1, D14] at g1
    simp only [c0]
    rw [if_neg (by omega), g1, l1, iI_add]
    rfl
  · rintro n ⟨x, M4⟩ ⟨ex, r4, o4⟩
    dsimp only at ex r4 o4
    subst ex
    show blp_M_minute_0_15_10_87 (lp_M_minute_0_15_10_87 n) (iI (S 14 0)) (iI ((C 0 1).toNat : Int)) M4 = _
    unfold blp_M_minute_0_15_10_87
    rw [(o4.cfg (by decide) hC).2.1]
    have c0 : (iI (C 0 1) ≤ iI ((C 0 1).toNat : Int)) ↔ C 0 1 ≤ ((C 0 1).toNat : Int) := iI_le (by omega) (by omega) (by omega) (by omega)
    simp only [c0]
    rw [if_pos (by omega)]
  obtain ⟨⟨x4, M4⟩, ⟨-, r4, o4⟩, ev4⟩ := L4
  dsimp only at r4 o4 ev4
  have t14 := tal_14 (C := C) (w := w) D (C 0 1).toNat
  have tph := tal_ph (C := C) (w := w) D (C 0 1).toNat
  have AL : AvS C (upF (talS C w) (C 0 1).toNat D) := AvS_congr md.1 (fun b _ => ⟨tph 0 b (by decide) (by decide) (by decide) (by decide) (by decide), tph 1 b (by decide) (by decide) (by decide) (by decide) (by decide), tph 2 b (by decide) (by decide) (by decide) (by decide) (by decide), tph 17 b (by decide) (by decide) (by decide) (by decide) (by decide)⟩) (fun b k _ _ => ⟨tph 4 _ (by decide) (by decide) (by decide) (by decide) (by decide), tph 15 _ (by decide) (by decide) (by decide) (by decide) (by decide)⟩)
  have D11 : ∀ b, D 11 b = S 11 b := fun b => by
    rw [df 11 b (by decide) (by decide) (by decide) (by decide) (by decide) (by decide), ← hR, srv_f (by decide)]
    exact (m2 11 b (by decide) (by decide) (by decide) (by decide) (by decide) (by decide) (by decide)).trans (age_f (by decide))
  generalize hL : upF (talS C w) (C 0 1).toNat D = L at *
  have L11 : ∀ b : Nat, (b : Int) < C 0 1 → 0 ≤ L 11 b ∧ L 11 b ≤ 27 := by
    intro b hb
    rw [tph 11 b (by decide) (by decide) (by decide) (by decide) (by decide), D11 b]
    have := hB.2.2.1 b hb
    omega
  -- peaks
  have L5 := loop_up (σ := Int32 × Mm) (γ := Option Mm) (fun n s => lp_M_minute_0_15_10_114 n s.1 s.2) (C 0 1).toNat (fun i s => s.1 = iI (i : Int) ∧ RelM 15 (upF (peaS C) i L) Q2 s.2 ∧ Only 15 M s.2) (fun s => j_M_minute_0_15_10_136 s.2) ?_ ?_ FW (FW_gt (by omega)) (iI 0, M4) ⟨rfl, r4, o4⟩
  rotate_left
  · rintro n i ⟨x, M5⟩ hi ⟨ex, r5, o5⟩
    dsimp only at ex r5 o5
    subst ex
    have pph := pea_ph (C := C) L i
    have p11 := pea_11 hO AL L11 i (by omega) i (by omega)
    have AP : AvS C (upF (peaS C) i L) := AvS_congr AL (fun b _ => ⟨pph 0 b (by decide), pph 1 b (by decide), pph 2 b (by decide), pph 17 b (by decide)⟩) (fun b k _ _ => ⟨pph 4 _ (by decide), pph 15 _ (by decide)⟩)
    obtain ⟨M6, g1, g2, g3⟩ := M_peaks_15 (b := i) (o5.cfg (by decide) hC) hO r5 (by omega) AP (by omega) (by omega)
    refine ⟨(iI ((i + 1 : Nat) : Int), M6), ?_, rfl, g2, o5.tr g3⟩
    show blp_M_minute_0_15_10_114 (lp_M_minute_0_15_10_114 n) (iI (i : Int)) M5 = lp_M_minute_0_15_10_114 n (iI ((i + 1 : Nat) : Int)) M6
    unfold blp_M_minute_0_15_10_114
    rw [(o5.cfg (by decide) hC).2.1]
    have c0 : (iI (C 0 1) ≤ iI (i : Int)) ↔ C 0 1 ≤ (i : Int) := iI_le (by omega) (by omega) (by omega) (by omega)
    simp only [c0]
    rw [if_neg (by omega), g1, l1, iI_add]
    rfl
  · rintro n ⟨x, M5⟩ ⟨ex, r5, o5⟩
    dsimp only at ex r5 o5
    subst ex
    show blp_M_minute_0_15_10_114 (lp_M_minute_0_15_10_114 n) (iI ((C 0 1).toNat : Int)) M5 = _
    unfold blp_M_minute_0_15_10_114
    rw [(o5.cfg (by decide) hC).2.1]
    have c0 : (iI (C 0 1) ≤ iI ((C 0 1).toNat : Int)) ↔ C 0 1 ≤ ((C 0 1).toNat : Int) := iI_le (by omega) (by omega) (by omega) (by omega)
    simp only [c0]
    rw [if_pos (by omega)]
  obtain ⟨⟨x5, M5⟩, ⟨-, r5, o5⟩, ev5⟩ := L5
  dsimp only at r5 o5 ev5
  have pph := pea_ph (C := C) L (C 0 1).toNat
  generalize hP : upF (peaS C) (C 0 1).toNat L = P at *
  have P14 : P 14 0 = S 14 0 := by rw [pph 14 0 (by decide), t14.1, D14]
  obtain ⟨M6, w6, r6, o6⟩ := r5.wr 14 0 (z := 0) (x := S 14 0 + 1) (fd 14 rfl) (by decide) rfl
  have ev6 : j_M_minute_0_15_10_136 M5 = some M6 := by
    unfold j_M_minute_0_15_10_136
    rw [l0, rdM r5 14 0 (z := 0) (fd 14 rfl) (by decide) rfl, P14]
    simp only [Option.bind_some]
    rw [l1, iI_add, w6]
    rfl
  have ev : f_M_minute_0_15_10 M = some M6 := by
    rw [ev0]
    refine Eq.trans ev1 ?_
    refine Eq.trans ev2 ?_
    unfold j_M_minute_0_15_10_56
    rw [(o2.cfg (by decide) hC).2.1, l1, iI_sub, show C 0 1 - 1 = ((C 0 1).toNat : Int) - 1 by omega, ← a14]
    refine Eq.trans ev3 ?_
    rw [a14]
    refine Eq.trans ev4 ?_
    refine Eq.trans ev5 ?_
    exact ev6
  refine ⟨M6, Q2, ev, by rw [hcnt]; exact r6, o5.tr o6, fun k hk => ?_⟩
  have fk : ∀ i, i = 5 ∨ i = 6 → minS C w S i k = R i k := by
    intro i hi
    rw [hcnt, uS_nf (by omega), pph i k (by omega), tph i k (by omega) (by omega) (by omega) (by omega) (by omega), df i k (by omega) (by omega) (by omega) (by omega) (by omega) (by omega)]
  have f13 : minS C w S 13 k = S 13 k + (S 5 k - S 6 k) := by
    rw [hcnt, uS_nf (by decide), pph 13 k (by decide), tph 13 k (by decide) (by decide) (by decide) (by decide) (by decide), df 13 k (by decide) (by decide) (by decide) (by decide) (by decide) (by decide), ← hR, srv_f (by decide), m2 13 k (by decide) (by decide) (by decide) (by decide) (by decide) (by decide) (by decide)]
    unfold ageS
    rw [if_pos ⟨rfl, by omega⟩, (hB.2.2.2.1 k hk).2.2.2.1]
  have f14 : minS C w S 14 0 = S 14 0 + 1 := by rw [hcnt, uS_eq]
  rw [fk 5 (Or.inl rfl), fk 6 (Or.inr rfl), f13, f14, show (S 14 0 + 1).toNat = t + 1 by omega]
  exact q3 k (by omega)
/-- the benches' starts, from n - 1 down -/
theorem M_dn_16 {C S0 Q : SS} {w : Nat → Int} {M0 : Mm} (hC : CfgM C M0) (hO : CfgOk C) (hw : WyM 12 w M0) (hW : WyOk C w) (hT : 0 ≤ S0 14 0) (hT2 : S0 14 0 ≤ 9999) : ∀ (n fuel : Nat) (S : SS) (M : Mm), (n : Int) ≤ C 0 1 → n < fuel → Me C S0 S → RelM 16 S Q M → Only 16 M0 M → ∃ M', lp_M_minute_0_16_12_64 fuel (iI (S0 14 0)) (iI ((n : Int) - 1)) M = j_M_minute_0_16_12_84 (iI (S0 14 0)) M' ∧ RelM 16 (dnF (staS C w) n S) Q M' ∧ Only 16 M0 M' := by
  intro n
  have h6 := hO.2.2.2.1
  induction n with
  | zero =>
    intro fuel S M _ hf hm h o
    obtain ⟨f2, rfl⟩ : ∃ f2, fuel = f2 + 1 := ⟨fuel - 1, by omega⟩
    refine ⟨M, ?_, h, o⟩
    show blp_M_minute_0_16_12_64 (lp_M_minute_0_16_12_64 f2) (iI (S0 14 0)) (iI (((0 : Nat) : Int) - 1)) M = _
    unfold blp_M_minute_0_16_12_64
    rw [if_pos (show iI (((0 : Nat) : Int) - 1) < 0 by decide)]
  | succ n ih =>
    intro fuel S M hn hf hm h o
    obtain ⟨f2, rfl⟩ : ∃ f2, fuel = f2 + 1 := ⟨fuel - 1, by omega⟩
    have e14 := hm.2.1 0
    obtain ⟨M1, g1, g2, g3⟩ := M_starts_16 (b := n) (o.cfg (by decide) hC) hO h (o.wy (by decide) hw) hW (by omega) hm.1
    obtain ⟨M', i1, i2, i3⟩ := ih f2 (staS C w n S) M1 (by omega) (by omega) (Me_sta hO hW hm (by omega) hT hT2) g2 (o.tr g3)
    refine ⟨M', ?_, i2, i3⟩
    rw [← i1]
    show blp_M_minute_0_16_12_64 (lp_M_minute_0_16_12_64 f2) (iI (S0 14 0)) (iI (((n + 1 : Nat) : Int) - 1)) M = _
    unfold blp_M_minute_0_16_12_64
    have en : ((n + 1 : Nat) : Int) - 1 = (n : Int) := by omega
    rw [en]
    have c0 : ¬ (iI (n : Int) < 0) := by rw [l0, iI_lt (by omega) (by omega) (by omega) (by omega)]; omega
    rw [e14] at g1
    rw [if_neg c0, g1, lm1, iI_add]
    rfl
theorem M_minute_16 {C S Q : SS} {w : Nat → Int} {M : Mm} (hC : CfgM C M) (hO : CfgOk C) (h : RelM 16 S Q M) (hw : WyM 12 w M) (hW : WyOk C w) (hB : Bd C S) (hQ : QBd C S Q) (hT : S 14 0 ≤ 9999) : ∃ (M' : Mm) (Q' : SS), f_M_minute_0_16_12 M = some M' ∧ RelM 16 (minS C w S) Q' M' ∧ Only 16 M M' ∧ QBd C (minS C w S) Q' := by
  have hk1 := hO.1
  have hk3 := hO.2.1
  have hb1 := hO.2.2.1
  have hb6 := hO.2.2.2.1
  have hT0 := hB.2.1
  have hBa : Bd C (ageS C S) := Bd_congr hB (fun i j h => age_f h)
  have a14 : ageS C S 14 0 = S 14 0 := age_f (by decide)
  have ha : RelM 16 (ageS C S) Q M := h.congr (fun i j hi _ => age_f (fun e => by unfold fdM at hi; omega)) (age_f (by decide)) (age_f (by decide))
  obtain ⟨t, ht⟩ : ∃ t : Nat, S 14 0 = (t : Int) := ⟨(S 14 0).toNat, by omega⟩
  -- the row of steps, one behind another
  have ev0 : f_M_minute_0_16_12 M = lp_M_minute_0_16_12_7 FW (iI (S 14 0)) 0 M := by
    unfold f_M_minute_0_16_12
    rw [l0, rdM h 14 0 (z := 0) (fd 14 rfl) (by decide) rfl]
    rfl
  -- ends
  have L1 := loop_up (σ := Int32 × Mm) (γ := Option Mm) (fun n s => lp_M_minute_0_16_12_7 n (iI (S 14 0)) s.1 s.2) (C 0 1).toNat (fun i s => s.1 = iI (i : Int) ∧ RelM 16 (upF (endS C) i (ageS C S)) Q s.2 ∧ Only 16 M s.2) (fun s => j_M_minute_0_16_12_30 (iI (S 14 0)) s.2) ?_ ?_ FW (FW_gt (by omega)) (iI 0, M) ⟨rfl, ha, Only.rf⟩
  rotate_left
  · rintro n i ⟨x, M1⟩ hi ⟨ex, r1, o1⟩
    dsimp only at ex r1 o1
    subst ex
    obtain ⟨⟨m1, m2, m3, m4⟩, m5⟩ := end_ph hO hBa (by omega) i (by omega)
    have hib : (i : Int) < C 0 1 := by omega
    have q14 : upF (endS C) i (ageS C S) 14 0 = S 14 0 := (m2 14 0 (by decide) (by decide) (by decide) (by decide) (by decide) (by decide) (by decide)).trans a14
    have q3 := (m3 i hib).2.1 (Nat.le_refl i) 3 (by decide) (by decide)
    have b3 := hB.2.2.1 i hib
    have q3' : upF (endS C) i (ageS C S) 3 i = S 3 i := q3.trans (age_f (by decide))
    obtain ⟨M2, g1, g2, g3⟩ := M_ends_16 (b := i) (o1.cfg (by decide) hC) hO r1 hib m1 (by omega) (by omega) (by omega) (by omega)
    refine ⟨(iI ((i + 1 : Nat) : Int), M2), ?_, rfl, g2, o1.tr g3⟩
    show blp_M_minute_0_16_12_7 (lp_M_minute_0_16_12_7 n) (iI (S 14 0)) (iI (i : Int)) M1 = lp_M_minute_0_16_12_7 n (iI (S 14 0)) (iI ((i + 1 : Nat) : Int)) M2
    unfold blp_M_minute_0_16_12_7
    rw [(o1.cfg (by decide) hC).2.1]
    have c0 : (iI (C 0 1) ≤ iI (i : Int)) ↔ C 0 1 ≤ (i : Int) := iI_le (by omega) (by omega) (by omega) (by omega)
    rw [q14] at g1
    simp only [c0]
    rw [if_neg (by omega), g1, l1, iI_add]
    rfl
  · rintro n ⟨x, M1⟩ ⟨ex, r1, o1⟩
    dsimp only at ex r1 o1
    subst ex
    show blp_M_minute_0_16_12_7 (lp_M_minute_0_16_12_7 n) (iI (S 14 0)) (iI ((C 0 1).toNat : Int)) M1 = _
    unfold blp_M_minute_0_16_12_7
    rw [(o1.cfg (by decide) hC).2.1]
    have c0 : (iI (C 0 1) ≤ iI ((C 0 1).toNat : Int)) ↔ C 0 1 ≤ ((C 0 1).toNat : Int) := iI_le (by omega) (by omega) (by omega) (by omega)
    simp only [c0]
    rw [if_pos (by omega)]
  obtain ⟨⟨x1, M1⟩, ⟨-, r1, o1⟩, ev1⟩ := L1
  dsimp only at r1 o1 ev1
  have me := Me_end hO hBa (by omega)
  obtain ⟨⟨m1, m2, m3, m4⟩, m5⟩ := end_ph hO hBa (by omega) (C 0 1).toNat (by omega)
  generalize hE : upF (endS C) (C 0 1).toNat (ageS C S) = E at *
  have E14 : E 14 0 = S 14 0 := (me.2.1 0).trans a14
  have Ek : ∀ k : Nat, E 5 k = S 5 k ∧ E 6 k = S 6 k ∧ E 12 k = S 12 k := fun k =>
    ⟨(m2 5 k (by decide) (by decide) (by decide) (by decide) (by decide) (by decide) (by decide)).trans (age_f (by decide)), (m2 6 k (by decide) (by decide) (by decide) (by decide) (by decide) (by decide) (by decide)).trans (age_f (by decide)), (m2 12 k (by decide) (by decide) (by decide) (by decide) (by decide) (by decide) (by decide)).trans (age_f (by decide))⟩
  have hc : ∀ k : Nat, (k : Int) < C 0 0 → 0 ≤ E 5 k + arS C k (E 14 0) - E 6 k := by
    intro k hk
    obtain ⟨k1, k2, -⟩ := Ek k
    have b4 := hB.2.2.2.1 k hk
    have ha := arS_bd hO k (E 14 0)
    rw [k1, k2]; omega
  -- serving
  have L2 := loop_up (σ := Int32 × Mm) (γ := Option Mm) (fun n s => lp_M_minute_0_16_12_33 n (iI (S 14 0)) s.1 s.2) (C 0 0).toNat (fun i s => s.1 = iI (i : Int) ∧ ∃ Q2, RelM 16 (srvS C i E) Q2 s.2 ∧ Only 16 M s.2 ∧ (∀ k, i ≤ k → ∀ c, Q2 c k = Q c k) ∧ (∀ k : Nat, k < i → QK C k (t + 1) (srvS C i E 5 k) (srvS C i E 6 k) (Q2 1 k) (Q2 2 k) ∧ S 13 k + (S 5 k - S 6 k) = QF C k (t + 1) (Q2 0 k) (Q2 1 k) (Q2 2 k) (srvS C i E 5 k) (srvS C i E 6 k))) (fun s => j_M_minute_0_16_12_56 (iI (S 14 0)) s.2) ?_ ?_ FW (FW_gt (by omega)) (iI 0, M1) ⟨rfl, Q, by rw [srvS_0]; exact r1, o1, fun _ _ _ => rfl, fun k hk => absurd hk (Nat.not_lt_zero k)⟩
  rotate_left
  · rintro n i ⟨x, M2⟩ hi ⟨ex, Q2, r2, o2, q2, q3⟩
    dsimp only at ex r2 o2
    subst ex
    have hik : (i : Int) < C 0 0 := by omega
    have ms := Me_srv (n := i) hO me (by omega) hc
    have b4 := hB.2.2.2.1 i hik
    obtain ⟨k1, k2, k3⟩ := Ek i
    have s5 : srvS C i E 5 i = E 5 i := by unfold srvS; grind
    have s6 : srvS C i E 6 i = E 6 i := by unfold srvS; grind
    have s12 : srvS C i E 12 i = E 12 i := by unfold srvS; grind
    have hq := hQ i hik
    rw [ht, Int.toNat_natCast] at hq
    obtain ⟨M3, Q3, g1, g2, g3, g4, g5, g6⟩ := M_serves_16 (k := i) (n := t) (o2.cfg (by decide) hC) hO r2 hik (by omega) (by rw [srvS_14, E14, ht]) ms.1 (by rw [s5, s6, k1, k2, q2 i (Nat.le_refl i), q2 i (Nat.le_refl i)]; exact hq.1) (by rw [s6, k2]; exact b4.1) (by rw [s12, k3]; omega)
    rw [← srvS_s] at g2
    refine ⟨(iI ((i + 1 : Nat) : Int), M3), ?_, rfl, Q3, g2, o2.tr g3, fun k hk c => ?_, fun k hk => ?_⟩
    · show blp_M_minute_0_16_12_33 (lp_M_minute_0_16_12_33 n) (iI (S 14 0)) (iI (i : Int)) M2 = lp_M_minute_0_16_12_33 n (iI (S 14 0)) (iI ((i + 1 : Nat) : Int)) M3
      unfold blp_M_minute_0_16_12_33
      rw [(o2.cfg (by decide) hC).1]
      have c0 : (iI (C 0 0) ≤ iI (i : Int)) ↔ C 0 0 ≤ (i : Int) := iI_le (by omega) (by omega) (by omega) (by omega)
      simp only [c0]
      rw [if_neg (by omega), ht, g1, l1, iI_add]
      rfl
    · rw [g4 c k (by omega)]; exact q2 k (by omega) c
    · have v5 : srvS C (i + 1) E 5 k = (if k < i then srvS C i E 5 k else E 5 i + arS C i (S 14 0)) := by rw [← E14]; unfold srvS; grind
      have v6 : srvS C (i + 1) E 6 k = (if k < i then srvS C i E 6 k else E 6 i + dvS C E i) := by unfold srvS; grind
      rw [v5, v6]
      by_cases e : k = i
      · subst e
        rw [if_neg (Nat.lt_irrefl k), if_neg (Nat.lt_irrefl k)]
        rw [s5, s6, dvS_k (Nat.le_refl k)] at g5 g6
        rw [ht]
        refine ⟨g5, ?_⟩
        rw [g6, QF_age, k1, k2, q2 k (Nat.le_refl k), q2 k (Nat.le_refl k), q2 k (Nat.le_refl k), ← hq.2]
      · rw [if_pos (by omega), if_pos (by omega), g4 0 k e, g4 1 k e, g4 2 k e]
        exact q3 k (by omega)
  · rintro n ⟨x, M2⟩ ⟨ex, Q2, r2, o2, q2, q3⟩
    dsimp only at ex r2 o2
    subst ex
    show blp_M_minute_0_16_12_33 (lp_M_minute_0_16_12_33 n) (iI (S 14 0)) (iI ((C 0 0).toNat : Int)) M2 = _
    unfold blp_M_minute_0_16_12_33
    rw [(o2.cfg (by decide) hC).1]
    have c0 : (iI (C 0 0) ≤ iI ((C 0 0).toNat : Int)) ↔ C 0 0 ≤ ((C 0 0).toNat : Int) := iI_le (by omega) (by omega) (by omega) (by omega)
    simp only [c0]
    rw [if_pos (by omega)]
  obtain ⟨⟨x2, M2⟩, ⟨-, Q2, r2, o2, -, q3⟩, ev2⟩ := L2
  dsimp only at r2 o2 ev2
  have ms := Me_srv (n := (C 0 0).toNat) hO me (by omega) hc
  have hchg : chgS C w (ageS C S) = dnF (staS C w) (C 0 1).toNat (srvS C (C 0 0).toNat E) := by unfold chgS; rw [hE]
  generalize hR : srvS C (C 0 0).toNat E = R at *
  -- starts
  obtain ⟨M3, ev3, r3, o3⟩ := M_dn_16 (S0 := ageS C S) (Q := Q2) (w := w) hC hO hw hW (by omega) (by omega) (C 0 1).toNat FW R M2 (by omega) (FW_gt (by omega)) ms r2 o2
  obtain ⟨md, df⟩ := dn_ph (w := w) hO hW (S0 := ageS C S) (by omega) (by omega) (C 0 1).toNat R (by omega) ms
  rw [← hchg] at r3 md df
  have hcnt : minS C w S = uS (upF (peaS C) (C 0 1).toNat (upF (talS C w) (C 0 1).toNat (chgS C w (ageS C S)))) 14 0 (S 14 0 + 1) := rfl
  generalize hD : chgS C w (ageS C S) = D at *
  have D14 : D 14 0 = S 14 0 := (md.2.1 0).trans a14
  have D1 : D 14 1 = S 14 1 := (md.2.1 1).trans (age_f (by decide))
  -- tallies
  have L4 := loop_up (σ := Int32 × Mm) (γ := Option Mm) (fun n s => lp_M_minute_0_16_12_87 n (iI (S 14 0)) s.1 s.2) (C 0 1).toNat (fun i s => s.1 = iI (i : Int) ∧ RelM 16 (upF (talS C w) i D) Q2 s.2 ∧ Only 16 M s.2) (fun s => j_M_minute_0_16_12_111 s.2) ?_ ?_ FW (FW_gt (by omega)) (iI 0, M3) ⟨rfl, r3, o3⟩
  rotate_left
  · rintro n i ⟨x, M4⟩ hi ⟨ex, r4, o4⟩
    dsimp only at ex r4 o4
    subst ex
    have t14 := tal_14 (C := C) (w := w) D i
    have tph := tal_ph (C := C) (w := w) D i
    have AL : AvS C (upF (talS C w) i D) := AvS_congr md.1 (fun b _ => ⟨tph 0 b (by decide) (by decide) (by decide) (by decide) (by decide), tph 1 b (by decide) (by decide) (by decide) (by decide) (by decide), tph 2 b (by decide) (by decide) (by decide) (by decide) (by decide), tph 17 b (by decide) (by decide) (by decide) (by decide) (by decide)⟩) (fun b k _ _ => ⟨tph 4 _ (by decide) (by decide) (by decide) (by decide) (by decide), tph 15 _ (by decide) (by decide) (by decide) (by decide) (by decide)⟩)
    have hf : upF (talS C w) i D 14 1 = -2 ∨ (0 ≤ upF (talS C w) i D 14 1 ∧ upF (talS C w) i D 14 1 ≤ 10000) := by
      have b5 := hB.2.2.2.2.1
      rcases t14.2.2.2 with ⟨z, -⟩ | ⟨z, -⟩ <;> rw [z] <;> omega
    obtain ⟨M5, g1, g2, g3⟩ := M_tallies_16 (b := i) (o4.cfg (by decide) hC) hO r4 (o4.wy (by decide) hw) hW (by omega) AL (by rw [t14.1]; omega) (by rw [t14.1]; omega) hf
    refine ⟨(iI ((i + 1 : Nat) : Int), M5), ?_, rfl, g2, o4.tr g3⟩
    show blp_M_minute_0_16_12_87 (lp_M_minute_0_16_12_87 n) (iI (S 14 0)) (iI (i : Int)) M4 = lp_M_minute_0_16_12_87 n (iI (S 14 0)) (iI ((i + 1 : Nat) : Int)) M5
    unfold blp_M_minute_0_16_12_87
    rw [(o4.cfg (by decide) hC).2.1]
    have c0 : (iI (C 0 1) ≤ iI (i : Int)) ↔ C 0 1 ≤ (i : Int) := iI_le (by omega) (by omega) (by omega) (by omega)
    rw [t14.1, D14] at g1
    simp only [c0]
    rw [if_neg (by omega), g1, l1, iI_add]
    rfl
  · rintro n ⟨x, M4⟩ ⟨ex, r4, o4⟩
    dsimp only at ex r4 o4
    subst ex
    show blp_M_minute_0_16_12_87 (lp_M_minute_0_16_12_87 n) (iI (S 14 0)) (iI ((C 0 1).toNat : Int)) M4 = _
    unfold blp_M_minute_0_16_12_87
    rw [(o4.cfg (by decide) hC).2.1]
    have c0 : (iI (C 0 1) ≤ iI ((C 0 1).toNat : Int)) ↔ C 0 1 ≤ ((C 0 1).toNat : Int) := iI_le (by omega) (by omega) (by omega) (by omega)
    simp only [c0]
    rw [if_pos (by omega)]
  obtain ⟨⟨x4, M4⟩, ⟨-, r4, o4⟩, ev4⟩ := L4
  dsimp only at r4 o4 ev4
  have t14 := tal_14 (C := C) (w := w) D (C 0 1).toNat
  have tph := tal_ph (C := C) (w := w) D (C 0 1).toNat
  have AL : AvS C (upF (talS C w) (C 0 1).toNat D) := AvS_congr md.1 (fun b _ => ⟨tph 0 b (by decide) (by decide) (by decide) (by decide) (by decide), tph 1 b (by decide) (by decide) (by decide) (by decide) (by decide), tph 2 b (by decide) (by decide) (by decide) (by decide) (by decide), tph 17 b (by decide) (by decide) (by decide) (by decide) (by decide)⟩) (fun b k _ _ => ⟨tph 4 _ (by decide) (by decide) (by decide) (by decide) (by decide), tph 15 _ (by decide) (by decide) (by decide) (by decide) (by decide)⟩)
  have D11 : ∀ b, D 11 b = S 11 b := fun b => by
    rw [df 11 b (by decide) (by decide) (by decide) (by decide) (by decide) (by decide), ← hR, srv_f (by decide)]
    exact (m2 11 b (by decide) (by decide) (by decide) (by decide) (by decide) (by decide) (by decide)).trans (age_f (by decide))
  generalize hL : upF (talS C w) (C 0 1).toNat D = L at *
  have L11 : ∀ b : Nat, (b : Int) < C 0 1 → 0 ≤ L 11 b ∧ L 11 b ≤ 27 := by
    intro b hb
    rw [tph 11 b (by decide) (by decide) (by decide) (by decide) (by decide), D11 b]
    have := hB.2.2.1 b hb
    omega
  -- peaks
  have L5 := loop_up (σ := Int32 × Mm) (γ := Option Mm) (fun n s => lp_M_minute_0_16_12_114 n s.1 s.2) (C 0 1).toNat (fun i s => s.1 = iI (i : Int) ∧ RelM 16 (upF (peaS C) i L) Q2 s.2 ∧ Only 16 M s.2) (fun s => j_M_minute_0_16_12_136 s.2) ?_ ?_ FW (FW_gt (by omega)) (iI 0, M4) ⟨rfl, r4, o4⟩
  rotate_left
  · rintro n i ⟨x, M5⟩ hi ⟨ex, r5, o5⟩
    dsimp only at ex r5 o5
    subst ex
    have pph := pea_ph (C := C) L i
    have p11 := pea_11 hO AL L11 i (by omega) i (by omega)
    have AP : AvS C (upF (peaS C) i L) := AvS_congr AL (fun b _ => ⟨pph 0 b (by decide), pph 1 b (by decide), pph 2 b (by decide), pph 17 b (by decide)⟩) (fun b k _ _ => ⟨pph 4 _ (by decide), pph 15 _ (by decide)⟩)
    obtain ⟨M6, g1, g2, g3⟩ := M_peaks_16 (b := i) (o5.cfg (by decide) hC) hO r5 (by omega) AP (by omega) (by omega)
    refine ⟨(iI ((i + 1 : Nat) : Int), M6), ?_, rfl, g2, o5.tr g3⟩
    show blp_M_minute_0_16_12_114 (lp_M_minute_0_16_12_114 n) (iI (i : Int)) M5 = lp_M_minute_0_16_12_114 n (iI ((i + 1 : Nat) : Int)) M6
    unfold blp_M_minute_0_16_12_114
    rw [(o5.cfg (by decide) hC).2.1]
    have c0 : (iI (C 0 1) ≤ iI (i : Int)) ↔ C 0 1 ≤ (i : Int) := iI_le (by omega) (by omega) (by omega) (by omega)
    simp only [c0]
    rw [if_neg (by omega), g1, l1, iI_add]
    rfl
  · rintro n ⟨x, M5⟩ ⟨ex, r5, o5⟩
    dsimp only at ex r5 o5
    subst ex
    show blp_M_minute_0_16_12_114 (lp_M_minute_0_16_12_114 n) (iI ((C 0 1).toNat : Int)) M5 = _
    unfold blp_M_minute_0_16_12_114
    rw [(o5.cfg (by decide) hC).2.1]
    have c0 : (iI (C 0 1) ≤ iI ((C 0 1).toNat : Int)) ↔ C 0 1 ≤ ((C 0 1).toNat : Int) := iI_le (by omega) (by omega) (by omega) (by omega)
    simp only [c0]
    rw [if_pos (by omega)]
  obtain ⟨⟨x5, M5⟩, ⟨-, r5, o5⟩, ev5⟩ := L5
  dsimp only at r5 o5 ev5
  have pph := pea_ph (C := C) L (C 0 1).toNat
  generalize hP : upF (peaS C) (C 0 1).toNat L = P at *
  have P14 : P 14 0 = S 14 0 := by rw [pph 14 0 (by decide), t14.1, D14]
  obtain ⟨M6, w6, r6, o6⟩ := r5.wr 14 0 (z := 0) (x := S 14 0 + 1) (fd 14 rfl) (by decide) rfl
  have ev6 : j_M_minute_0_16_12_136 M5 = some M6 := by
    unfold j_M_minute_0_16_12_136
    rw [l0, rdM r5 14 0 (z := 0) (fd 14 rfl) (by decide) rfl, P14]
    simp only [Option.bind_some]
    rw [l1, iI_add, w6]
    rfl
  have ev : f_M_minute_0_16_12 M = some M6 := by
    rw [ev0]
    refine Eq.trans ev1 ?_
    refine Eq.trans ev2 ?_
    unfold j_M_minute_0_16_12_56
    rw [(o2.cfg (by decide) hC).2.1, l1, iI_sub, show C 0 1 - 1 = ((C 0 1).toNat : Int) - 1 by omega, ← a14]
    refine Eq.trans ev3 ?_
    rw [a14]
    refine Eq.trans ev4 ?_
    refine Eq.trans ev5 ?_
    exact ev6
  refine ⟨M6, Q2, ev, by rw [hcnt]; exact r6, o5.tr o6, fun k hk => ?_⟩
  have fk : ∀ i, i = 5 ∨ i = 6 → minS C w S i k = R i k := by
    intro i hi
    rw [hcnt, uS_nf (by omega), pph i k (by omega), tph i k (by omega) (by omega) (by omega) (by omega) (by omega), df i k (by omega) (by omega) (by omega) (by omega) (by omega) (by omega)]
  have f13 : minS C w S 13 k = S 13 k + (S 5 k - S 6 k) := by
    rw [hcnt, uS_nf (by decide), pph 13 k (by decide), tph 13 k (by decide) (by decide) (by decide) (by decide) (by decide), df 13 k (by decide) (by decide) (by decide) (by decide) (by decide) (by decide), ← hR, srv_f (by decide), m2 13 k (by decide) (by decide) (by decide) (by decide) (by decide) (by decide) (by decide)]
    unfold ageS
    rw [if_pos ⟨rfl, by omega⟩, (hB.2.2.2.1 k hk).2.2.2.1]
  have f14 : minS C w S 14 0 = S 14 0 + 1 := by rw [hcnt, uS_eq]
  rw [fk 5 (Or.inl rfl), fk 6 (Or.inr rfl), f13, f14, show (S 14 0 + 1).toNat = t + 1 by omega]
  exact q3 k (by omega)

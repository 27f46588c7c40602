/-- kinds' numbers behind the serving -/
theorem srv_k {C S : SS} {n k : Nat} (hk : k < n) : srvS C n S 5 k = S 5 k + arS C k (S 14 0) ∧ srvS C n S 6 k = S 6 k + dvS C S k ∧ srvS C n S 16 k = S 16 k + arS C k (S 14 0) - dvS C S k ∧ srvS C n S 12 k = (if S 12 k = -2 ∧ 0 < dvS C S k then S 14 0 else S 12 k) := by
  refine ⟨?_, ?_, ?_, ?_⟩ <;> unfold srvS <;> grind
theorem Bd_min {C S : SS} {w : Nat → Int} (hO : CfgOk C) (hW : WyOk C w) (hB0 : Bd C S) (hT : S 14 0 ≤ 9999) : Bd C (minS C w S) := by
  have hB : Bd C (ageS C S) := Bd_congr hB0 (fun i j h => age_f h)
  have hT' : ageS C S 14 0 ≤ 9999 := by rw [age_f (by decide)]; exact hT
  have e14 : ageS C S 14 0 = S 14 0 := age_f (by decide)
  have hk1 := hO.1
  have hb1 := hO.2.2.1
  have me := Me_end hO hB hT'
  have ep := end_ph hO hB hT' (C 0 1).toNat (by omega)
  obtain ⟨⟨m1, m2, m3, m4⟩, m5⟩ := ep
  unfold minS cntS chgS
  generalize hE : upF (endS C) (C 0 1).toNat (ageS C S) = E at *
  have E14 : E 14 0 = S 14 0 := (me.2.1 0).trans e14
  have Ek : ∀ k : Nat, (k : Int) < C 0 0 → E 5 k = S 5 k ∧ E 6 k = S 6 k ∧ E 16 k = S 16 k ∧ E 12 k = S 12 k := fun k hk =>
    ⟨(m2 5 k (by decide) (by decide) (by decide) (by decide) (by decide) (by decide) (by decide)).trans (age_f (by decide)), (m2 6 k (by decide) (by decide) (by decide) (by decide) (by decide) (by decide) (by decide)).trans (age_f (by decide)), (m2 16 k (by decide) (by decide) (by decide) (by decide) (by decide) (by decide) (by decide)).trans (age_f (by decide)), (m2 12 k (by decide) (by decide) (by decide) (by decide) (by decide) (by decide) (by decide)).trans (age_f (by decide))⟩
  have hc : ∀ k : Nat, (k : Int) < C 0 0 → 0 ≤ E 5 k + arS C k (E 14 0) - E 6 k := by
    intro k hk
    obtain ⟨k1, k2, -, -⟩ := Ek k hk
    have b4 := hB0.2.2.2.1 k hk
    have ha := arS_bd hO k (E 14 0)
    rw [k1, k2]; omega
  have ms := Me_srv (n := (C 0 0).toNat) hO me (by omega) hc
  generalize hR : srvS C (C 0 0).toNat E = R at *
  have Rk : ∀ k : Nat, (k : Int) < C 0 0 → R 5 k = S 5 k + arS C k (S 14 0) ∧ R 6 k = S 6 k + dvS C E k ∧ R 16 k = S 16 k + arS C k (S 14 0) - dvS C E k ∧ R 12 k = (if S 12 k = -2 ∧ 0 < dvS C E k then S 14 0 else S 12 k) := by
    intro k hk
    have q := srv_k (C := C) (S := E) (n := (C 0 0).toNat) (k := k) (by omega)
    obtain ⟨k1, k2, k3, k4⟩ := Ek k hk
    rw [hR, E14, k1, k2, k3, k4] at q
    exact q
  have R7 : ∀ b, R 7 b = S 7 b ∧ R 11 b = S 11 b := by
    intro b
    rw [← hR, srv_f (by decide), srv_f (by decide)]
    exact ⟨(m2 7 b (by decide) (by decide) (by decide) (by decide) (by decide) (by decide) (by decide)).trans (age_f (by decide)), (m2 11 b (by decide) (by decide) (by decide) (by decide) (by decide) (by decide) (by decide)).trans (age_f (by decide))⟩
  have hb2 := hB0.2.1
  obtain ⟨md, df⟩ := dn_ph (w := w) hO hW (S0 := ageS C S) (by omega) (by omega) (C 0 1).toNat R (by omega) ms
  generalize hD : dnF (staS C w) (C 0 1).toNat R = D at *
  have D14 : D 14 0 = S 14 0 := (md.2.1 0).trans e14
  have t14 := tal_14 (C := C) (w := w) D (C 0 1).toNat
  have tph := tal_ph (C := C) (w := w) D (C 0 1).toNat
  have AL : AvS C (upF (talS C w) (C 0 1).toNat D) := AvS_congr md.1 (fun b _ => ⟨tph 0 b (by decide) (by decide) (by decide) (by decide) (by decide), tph 1 b (by decide) (by decide) (by decide) (by decide) (by decide), tph 2 b (by decide) (by decide) (by decide) (by decide) (by decide), tph 17 b (by decide) (by decide) (by decide) (by decide) (by decide)⟩) (fun b k _ _ => ⟨tph 4 _ (by decide) (by decide) (by decide) (by decide) (by decide), tph 15 _ (by decide) (by decide) (by decide) (by decide) (by decide)⟩)
  have D11 : ∀ b, D 11 b = S 11 b ∧ D 7 b = S 7 b := fun b => ⟨(df 11 b (by decide) (by decide) (by decide) (by decide) (by decide) (by decide)).trans (R7 b).2, (df 7 b (by decide) (by decide) (by decide) (by decide) (by decide) (by decide)).trans (R7 b).1⟩
  generalize hL : upF (talS C w) (C 0 1).toNat D = L at *
  have L11 : ∀ b : Nat, (b : Int) < C 0 1 → 0 ≤ L 11 b ∧ L 11 b ≤ 27 := by
    intro b hb
    rw [tph 11 b (by decide) (by decide) (by decide) (by decide) (by decide), (D11 b).1]
    have := hB0.2.2.1 b hb
    omega
  have p11 := pea_11 hO AL L11 (C 0 1).toNat (by omega)
  have pph := pea_ph (C := C) L (C 0 1).toNat
  generalize hP : upF (peaS C) (C 0 1).toNat L = P at *
  have Pf : ∀ i j, i ≠ 7 → i ≠ 8 → i ≠ 9 → i ≠ 10 → i ≠ 11 → i ≠ 14 → P i j = D i j := fun i j h7 h8 h9 h10 h11 h14 => (pph i j h11).trans (tph i j h7 h8 h9 h10 h14)
  have AP : AvS C P := AvS_congr AL (fun b _ => ⟨pph 0 b (by decide), pph 1 b (by decide), pph 2 b (by decide), pph 17 b (by decide)⟩) (fun b k _ _ => ⟨pph 4 _ (by decide), pph 15 _ (by decide)⟩)
  have F : ∀ i j, i ≠ 14 → uS P 14 0 (S 14 0 + 1) i j = P i j := fun i j h => uS_nf h
  refine ⟨AvS_congr AP (fun b _ => ⟨F 0 b (by decide), F 1 b (by decide), F 2 b (by decide), F 17 b (by decide)⟩) (fun b k _ _ => ⟨F 4 _ (by decide), F 15 _ (by decide)⟩), ?_, fun b hb => ?_, fun k hk => ?_, ?_, fun b k hb hk ht => ?_⟩
  · rw [uS_eq]; omega
  · rw [uS_eq, F 0 b (by decide), F 1 b (by decide), F 3 b (by decide), F 7 b (by decide), F 11 b (by decide), Pf 0 b (by decide) (by decide) (by decide) (by decide) (by decide) (by decide), Pf 1 b (by decide) (by decide) (by decide) (by decide) (by decide) (by decide), Pf 3 b (by decide) (by decide) (by decide) (by decide) (by decide) (by decide), pph 7 b (by decide)]
    have q := md.2.2.1 b hb
    have p := p11 b hb
    have t := t14.2.2.1 b (by omega)
    have d7 := (D11 b).2
    have b3 := hB0.2.2.1 b hb
    omega
  · rw [uS_eq, F 5 k (by decide), F 6 k (by decide), F 12 k (by decide), F 16 k (by decide), Pf 5 k (by decide) (by decide) (by decide) (by decide) (by decide) (by decide), Pf 6 k (by decide) (by decide) (by decide) (by decide) (by decide) (by decide), Pf 12 k (by decide) (by decide) (by decide) (by decide) (by decide) (by decide), Pf 16 k (by decide) (by decide) (by decide) (by decide) (by decide) (by decide), df 5 k (by decide) (by decide) (by decide) (by decide) (by decide) (by decide), df 6 k (by decide) (by decide) (by decide) (by decide) (by decide) (by decide), df 12 k (by decide) (by decide) (by decide) (by decide) (by decide) (by decide), df 16 k (by decide) (by decide) (by decide) (by decide) (by decide) (by decide)]
    obtain ⟨r1, r2, r3, r4⟩ := Rk k hk
    have b4 := hB0.2.2.2.1 k hk
    have hd : 0 ≤ dvS C E k ∧ dvS C E k ≤ S 5 k + arS C k (S 14 0) - S 6 k := by
      obtain ⟨k1, k2, -, -⟩ := Ek k hk
      have q := hc k hk
      have s := me.1.2 ((C 0 1).toNat - 1) k (by omega) hk
      unfold dvS
      rw [E14] at q ⊢
      rw [k1, k2] at q ⊢
      omega
    have hcu : cuA C k ((S 14 0).toNat + 1) = cuA C k (S 14 0).toNat + arS C k ((S 14 0).toNat : Nat) := rfl
    rw [show (((S 14 0).toNat : Nat) : Int) = S 14 0 by omega] at hcu
    rw [r1, r2, r3, r4, show (S 14 0 + 1).toNat = (S 14 0).toNat + 1 by omega, hcu]
    refine ⟨by omega, by omega, by omega, by omega, ?_⟩
    split <;> omega
  · rw [uS_eq, uS_ni (by decide), uS_ni (by decide), pph 14 1 (by decide), pph 14 2 (by decide)]
    have b5 := hB0.2.2.2.2.1
    have D1 : D 14 1 = S 14 1 := (md.2.1 1).trans (age_f (by decide))
    have D2 : D 14 2 = S 14 2 := (md.2.1 2).trans (age_f (by decide))
    rcases t14.2.2.2 with ⟨x, y⟩ | ⟨x, b, hb, y⟩
    · rw [x, y, D1, D2]; omega
    · rw [x, y, D14]; omega
  · rw [F 4 _ (by decide), F 15 _ (by decide), Pf 4 _ (by decide) (by decide) (by decide) (by decide) (by decide) (by decide), Pf 15 _ (by decide) (by decide) (by decide) (by decide) (by decide) (by decide)]
    exact md.2.2.2 b k hb hk ht

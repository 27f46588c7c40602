/-- j wares of kind k are served out of place l, at minute t -/
def dlv (k l : Nat) (t j : Int) (S : SS) : SS := fun a b => if a = 6 ∧ b = k then S 6 k + j else if a = 4 ∧ b = l then S 4 l - j else if a = 12 ∧ b = k ∧ S 12 k = -2 ∧ 0 < j then t else S a b
theorem dlv_0 (k l : Nat) (t : Int) (S : SS) : dlv k l t 0 S = S := by
  funext a b
  unfold dlv
  grind
theorem dlv_s {k l : Nat} {t j : Int} {S : SS} (hj : 0 ≤ j) (ht : t ≠ -2) : uS (if dlv k l t j S 12 k = -2 then uS (uS (dlv k l t j S) 6 k (S 6 k + j + 1)) 12 k t else uS (dlv k l t j S) 6 k (S 6 k + j + 1)) 4 l (S 4 l - j - 1) = dlv k l t (j + 1) S := by
  by_cases e : dlv k l t j S 12 k = -2
  · rw [if_pos e]
    unfold dlv at e
    funext a b
    unfold dlv uS
    grind
  · rw [if_neg e]
    unfold dlv at e
    funext a b
    unfold dlv uS
    grind
def srv1 (C : SS) (k : Nat) (S : SS) : SS := fun a b =>
  if a = 16 ∧ b = k then S 16 k + arS C k (S 14 0) - dvS C S k
  else if a = 15 ∧ b = 3 * ((C 0 1).toNat - 1) + k then S 15 b - dvS C S k
  else dlv k (3 * ((C 0 1).toNat - 1) + k) (S 14 0) (dvS C S k) (uS S 5 k (S 5 k + arS C k (S 14 0))) a b
theorem srvS_0 (C S : SS) : srvS C 0 S = S := by
  funext a b
  unfold srvS
  grind
theorem srvS_14 (C S : SS) (n j : Nat) : srvS C n S 14 j = S 14 j := by
  unfold srvS
  grind
theorem dvS_k {C S : SS} {n k : Nat} (h : n ≤ k) : dvS C (srvS C n S) k = dvS C S k := by
  unfold dvS
  rw [srvS_14]
  have e5 : srvS C n S 5 k = S 5 k := by unfold srvS; grind
  have e6 : srvS C n S 6 k = S 6 k := by unfold srvS; grind
  have e4 : srvS C n S 4 (3 * ((C 0 1).toNat - 1) + k) = S 4 (3 * ((C 0 1).toNat - 1) + k) := by unfold srvS; grind
  rw [e5, e6, e4]
theorem srvS_s (C S : SS) (n : Nat) : srvS C (n + 1) S = srv1 C n (srvS C n S) := by
  funext a b
  unfold srv1
  rw [dvS_k (Nat.le_refl n), srvS_14]
  generalize hl : 3 * ((C 0 1).toNat - 1) = l
  by_cases h4 : a = 4
  · subst h4
    by_cases hb : b = l + n
    · subst hb
      unfold dlv uS srvS
      rw [hl]
      simp
    · unfold dlv uS srvS
      rw [hl]
      simp
      grind
  by_cases h15 : a = 15
  · subst h15
    by_cases hb : b = l + n
    · subst hb
      unfold dlv uS srvS
      rw [hl]
      simp
    · unfold dlv uS srvS
      rw [hl]
      simp
      grind
  by_cases h5 : a = 5
  · subst h5; unfold dlv uS srvS; rw [hl]; simp; grind
  by_cases h6 : a = 6
  · subst h6; unfold dlv uS srvS; rw [hl]; simp; grind
  by_cases h12 : a = 12
  · subst h12; unfold dlv uS srvS; rw [hl]; simp; grind
  by_cases h16 : a = 16
  · subst h16; unfold dlv uS srvS; rw [hl]; simp; grind
  unfold dlv uS srvS
  rw [hl]
  simp [h4, h5, h6, h12, h15, h16]
/-- the orders of a kind: n minutes' orders came, dl are served; the front minute q1, of which q2 are served -/
def QK (C : SS) (k n : Nat) (cm dl q1 q2 : Int) : Prop := cm = cuA C k n ∧ ∃ fr : Nat, q1 = fr ∧ fr ≤ n ∧ 0 ≤ q2 ∧ q2 ≤ arS C k fr ∧ cuA C k fr + q2 = dl
def QF (C : SS) (k n : Nat) (q0 q1 q2 cm dl : Int) : Int := q0 + ((n : Int) - 1) * (cm - dl) - (cuB C k n - cuB C k q1.toNat - q2 * q1)
theorem M_front_15 {C S : SS} {M0 : Mm} {k n l : Nat} (rc : Int32 → Int32 → Int32 → Mm → Option Mm) (hC : CfgM C M0) (hO : CfgOk C) (hk : k < 3) (hn : n ≤ 10000) (dl : Int) (hd : dl < cuA C k (n + 1)) : ∀ (d fr fuel : Nat) (Q : SS) (M : Mm), fr + d = n → d < fuel → RelM 15 S Q M → Only 15 M0 M → Q 1 k = fr → 0 ≤ Q 2 k → Q 2 k ≤ arS C k fr → cuA C k fr + Q 2 k = dl →
    ∃ (M' : Mm) (Q' : SS) (fr' : Nat), lp_M_serves_0_15_52 rc fuel (iI k) (iI n) (iI l) M = j_M_serves_0_15_96 rc (iI k) (iI n) (iI l) M' ∧ RelM 15 S Q' M' ∧ Only 15 M0 M' ∧ (∀ c k', k' ≠ k → Q' c k' = Q c k') ∧ Q' 0 k = Q 0 k ∧ Q' 1 k = fr' ∧ fr' ≤ n ∧ 0 ≤ Q' 2 k ∧ Q' 2 k < arS C k fr' ∧ cuA C k fr' + Q' 2 k = dl ∧ cuB C k fr' + Q' 2 k * fr' = cuB C k fr + Q 2 k * fr := by
  intro d
  induction d with
  | zero =>
    intro fr fuel Q M hfr hfu h o q1 q2 q3 q4
    obtain ⟨f2, rfl⟩ : ∃ f2, fuel = f2 + 1 := ⟨fuel - 1, by omega⟩
    have hfr : fr = n := by omega
    subst hfr
    have hC' := o.cfg (by decide) hC
    have hA := arS_bd hO k fr
    have hlt : Q 2 k < arS C k fr := by
      have : cuA C k (fr + 1) = cuA C k fr + arS C k fr := rfl
      omega
    refine ⟨M, Q, fr, ?_, h, o, fun _ _ _ => rfl, rfl, q1, Nat.le_refl _, q2, hlt, q4, rfl⟩
    show blp_M_serves_0_15_52 rc (lp_M_serves_0_15_52 rc f2) (iI k) (iI fr) (iI l) M = _
    unfold blp_M_serves_0_15_52
    simp only [f_M_ofKind, Option.bind_some, ix75_3, ix75_4]
    rw [rdQ h k 1 (z := 75 + 5 * k + 3) hk (by decide) (by omega), rdQ h k 2 (z := 75 + 5 * k + 4) hk (by decide) (by omega), q1]
    simp only [Option.bind_some]
    rw [M_comeIn hC' hO hk (by omega) (by omega)]
    have c0 : (iI (arS C k fr) = iI (Q 2 k)) ↔ arS C k fr = Q 2 k := iI_eq (by omega) (by omega) (by omega) (by omega)
    simp only [Option.bind_some, c0]
    rw [if_neg (by omega)]
  | succ d ih =>
    intro fr fuel Q M hfr hfu h o q1 q2 q3 q4
    obtain ⟨f2, rfl⟩ : ∃ f2, fuel = f2 + 1 := ⟨fuel - 1, by omega⟩
    have hC' := o.cfg (by decide) hC
    have hA := arS_bd hO k fr
    have c0 : (iI (arS C k fr) = iI (Q 2 k)) ↔ arS C k fr = Q 2 k := iI_eq (by omega) (by omega) (by omega) (by omega)
    by_cases e : arS C k fr = Q 2 k
    · obtain ⟨M1, w1, h1, o1⟩ := wrQ h k 1 (z := 75 + 5 * k + 3) (x := (fr : Int) + 1) hk (by decide) (by omega)
      obtain ⟨M2, w2, h2, o2⟩ := wrQ h1 k 2 (z := 75 + 5 * k + 4) (x := 0) hk (by decide) (by omega)
      have hA2 := arS_bd hO k (fr + 1 : Nat)
      have hcu : cuA C k (fr + 1) = cuA C k fr + arS C k fr := rfl
      have hcb : cuB C k (fr + 1) = cuB C k fr + arS C k fr * fr := rfl
      have v1 : uS (uS Q 1 k ((fr : Int) + 1)) 2 k 0 1 k = (fr : Int) + 1 := by rw [uS_nf (by decide), uS_eq]
      have v2 : uS (uS Q 1 k ((fr : Int) + 1)) 2 k 0 2 k = 0 := uS_eq _ _ _ _
      have v0 : uS (uS Q 1 k ((fr : Int) + 1)) 2 k 0 0 k = Q 0 k := by rw [uS_nf (by decide), uS_nf (by decide)]
      have vk : ∀ c k', k' ≠ k → uS (uS Q 1 k ((fr : Int) + 1)) 2 k 0 c k' = Q c k' := fun c k' q => by rw [uS_ni q, uS_ni q]
      obtain ⟨M', Q', fr', g1, g2, g3, g4, g5, g6, g7, g8, g9, g10, g11⟩ := ih (fr + 1) f2 (uS (uS Q 1 k ((fr : Int) + 1)) 2 k 0) M2 (by omega) (by omega) h2 ((o.tr o1).tr o2) (by rw [v1]; omega) (by rw [v2]; omega) (by rw [v2]; omega) (by rw [v2]; omega)
      refine ⟨M', Q', fr', ?_, g2, g3, fun c k' q => by rw [g4 c k' q, vk c k' q], by rw [g5, v0], g6, g7, g8, g9, g10, by rw [g11, v2, hcb, e]; omega⟩
      rw [← g1]
      show blp_M_serves_0_15_52 rc (lp_M_serves_0_15_52 rc f2) (iI k) (iI n) (iI l) M = _
      unfold blp_M_serves_0_15_52
      simp only [f_M_ofKind, Option.bind_some, ix75_3, ix75_4]
      rw [rdQ h k 1 (z := 75 + 5 * k + 3) hk (by decide) (by omega), rdQ h k 2 (z := 75 + 5 * k + 4) hk (by decide) (by omega), q1]
      simp only [Option.bind_some]
      rw [M_comeIn hC' hO hk (by omega) (by omega)]
      simp only [Option.bind_some, c0]
      rw [if_pos e, l1, iI_add, w1]
      simp only [Option.bind_some]
      rw [l0, w2]
      rfl
    · refine ⟨M, Q, fr, ?_, h, o, fun _ _ _ => rfl, rfl, q1, by omega, q2, by omega, q4, rfl⟩
      show blp_M_serves_0_15_52 rc (lp_M_serves_0_15_52 rc f2) (iI k) (iI n) (iI l) M = _
      unfold blp_M_serves_0_15_52
      simp only [f_M_ofKind, Option.bind_some, ix75_3, ix75_4]
      rw [rdQ h k 1 (z := 75 + 5 * k + 3) hk (by decide) (by omega), rdQ h k 2 (z := 75 + 5 * k + 4) hk (by decide) (by omega), q1]
      simp only [Option.bind_some]
      rw [M_comeIn hC' hO hk (by omega) (by omega)]
      simp only [Option.bind_some, c0]
      rw [if_neg e]
theorem M_serve_15 {C S : SS} {M0 : Mm} {k n l : Nat} (hC : CfgM C M0) (hO : CfgOk C) (hk : k < 3) (hn : n ≤ 10000) (hl : l < 18) (d : Nat) (hcm : S 5 k = cuA C k (n + 1)) (hdl : 0 ≤ S 6 k) (hd1 : (d : Int) ≤ S 5 k - S 6 k) (hd2 : (d : Int) ≤ S 4 l) (hmin : (d : Int) = S 5 k - S 6 k ∨ (d : Int) = S 4 l) (hst : S 4 l ≤ 100) (hfd : S 12 k = -2 ∨ (0 ≤ S 12 k ∧ S 12 k ≤ 10000)) : ∀ (r : Nat) (j : Nat) (fuel : Nat) (Q : SS) (M : Mm), j + r = d → r < fuel → RelM 15 (dlv k (l) n j S) Q M → Only 15 M0 M → QK C k (n + 1) (S 5 k) (S 6 k + j) (Q 1 k) (Q 2 k) → Q 1 k ≤ n →
    ∃ (M' : Mm) (Q' : SS), lp_M_serves_0_15_28 fuel (iI k) (iI n) (iI (57 + l)) M = some M' ∧ RelM 15 (dlv k l n d S) Q' M' ∧ Only 15 M0 M' ∧ (∀ c k', k' ≠ k → Q' c k' = Q c k') ∧ QK C k (n + 1) (S 5 k) (S 6 k + d) (Q' 1 k) (Q' 2 k) ∧ QF C k (n + 1) (Q' 0 k) (Q' 1 k) (Q' 2 k) (S 5 k) (S 6 k + d) = QF C k (n + 1) (Q 0 k) (Q 1 k) (Q 2 k) (S 5 k) (S 6 k + j) := by
  intro r
  have hcb := cuA_bd hO k (n + 1)
  induction r with
  | zero =>
    intro j fuel Q M hj hfu h o hq hq1
    obtain ⟨f2, rfl⟩ : ∃ f2, fuel = f2 + 1 := ⟨fuel - 1, by omega⟩
    have hj : j = d := by omega
    subst hj
    refine ⟨M, Q, ?_, h, o, fun _ _ _ => rfl, hq, rfl⟩
    show blp_M_serves_0_15_28 (lp_M_serves_0_15_28 f2) (iI k) (iI n) (iI (57 + l)) M = _
    unfold blp_M_serves_0_15_28
    simp only [f_M_ofKind, Option.bind_some, ix75_0, ix75_1]
    have v5 : dlv k l n j S 5 k = S 5 k := by unfold dlv; grind
    have v6 : dlv k l n j S 6 k = S 6 k + j := by unfold dlv; grind
    have v4 : dlv k l n j S 4 l = S 4 l - j := by unfold dlv; grind
    rw [rdM h 5 k (z := 75 + 5 * k + 0) (fd 5 rfl) hk (by simp only [lyM]; omega), rdM h 6 k (z := 75 + 5 * k + 1) (fd 6 rfl) hk (by simp only [lyM]; omega), v5, v6]
    simp only [Option.bind_some]
    have c0 : (iI (S 5 k) ≤ iI (S 6 k + j)) ↔ S 5 k ≤ S 6 k + j := iI_le (by omega) (by omega) (by omega) (by omega)
    simp only [c0]
    by_cases e : S 5 k ≤ S 6 k + j
    · rw [if_pos e]
    · rw [if_neg e, rdM h 4 l (z := 57 + l) (fd 4 rfl) hl (by simp only [lyM]; omega), v4]
      have c1 : (iI (S 4 l - j) ≤ 0) ↔ S 4 l - j ≤ 0 := iI_le (b := 0) (by omega) (by omega) (by omega) (by omega)
      simp only [Option.bind_some, c1]
      rw [if_pos (by omega)]
  | succ r ih =>
    intro j fuel Q M hj hfu h o hq hq1
    obtain ⟨f2, rfl⟩ : ∃ f2, fuel = f2 + 1 := ⟨fuel - 1, by omega⟩
    obtain ⟨hq0, fr, e1, e2, e3, e4, e5⟩ := hq
    have hC' := o.cfg (by decide) hC
    have v5 : dlv k l n j S 5 k = S 5 k := by unfold dlv; grind
    have v6 : dlv k l n j S 6 k = S 6 k + j := by unfold dlv; grind
    have v4 : dlv k l n j S 4 l = S 4 l - j := by unfold dlv; grind
    have hdl2 : S 6 k + j < cuA C k (n + 1) := by omega
    obtain ⟨M1, Q1, fr1, g1, g2, g3, g4, g5, g6, g7, g8, g9, g10, g11⟩ := M_front_15 (S := dlv k l n j S) (l := l + 57) (lp_M_serves_0_15_28 f2) hC hO hk hn (S 6 k + j) hdl2 (n - fr) fr FW Q M (by omega) (FW_gt (by omega)) h o e1 e3 e4 e5
    -- one is served
    obtain ⟨M2, w2, h2, o2⟩ := wrQ g2 k 2 (z := 75 + 5 * k + 4) (x := Q1 2 k + 1) hk (by decide) (by omega)
    obtain ⟨M3, w3, h3, o3⟩ := h2.wr 6 k (z := 75 + 5 * k + 1) (x := S 6 k + j + 1) (fd 6 rfl) hk (by simp only [lyM]; omega)
    obtain ⟨M4, w4, h4, o4⟩ := wrQ h3 k 0 (z := 75 + 5 * k + 2) (x := Q1 0 k + ((n : Int) - fr1)) hk (by decide) (by omega)
    have o14 : Only 15 M0 M4 := ((g3.tr o2).tr o3).tr o4
    have fin : ∀ (M5 : Mm) (T : SS), RelM 15 T (uS (uS Q1 2 k (Q1 2 k + 1)) 0 k (Q1 0 k + ((n : Int) - fr1))) M5 → Only 15 M0 M5 → T 4 l = S 4 l - j → uS T 4 l (S 4 l - j - 1) = dlv k l n (j + 1 : Nat) S → ∃ (M' : Mm) (Q' : SS), j_M_serves_0_15_155 (lp_M_serves_0_15_28 f2) (iI k) (iI n) (iI (57 + l)) M5 = some M' ∧ RelM 15 (dlv k l n d S) Q' M' ∧ Only 15 M0 M' ∧ (∀ c k', k' ≠ k → Q' c k' = Q c k') ∧ QK C k (n + 1) (S 5 k) (S 6 k + d) (Q' 1 k) (Q' 2 k) ∧ QF C k (n + 1) (Q' 0 k) (Q' 1 k) (Q' 2 k) (S 5 k) (S 6 k + d) = QF C k (n + 1) (Q 0 k) (Q 1 k) (Q 2 k) (S 5 k) (S 6 k + j) := by
      intro M5 T h5 o5 hT4 hT
      unfold j_M_serves_0_15_155
      rw [rdM h5 4 l (z := 57 + l) (fd 4 rfl) hl (by simp only [lyM]; omega), hT4]
      simp only [Option.bind_some]
      obtain ⟨M6, w6, h6, o6⟩ := h5.wr 4 l (z := 57 + l) (x := S 4 l - j - 1) (fd 4 rfl) hl (by simp only [lyM]; omega)
      rw [l1, iI_sub, w6]
      simp only [Option.bind_some]
      rw [hT] at h6
      have u1 : uS (uS Q1 2 k (Q1 2 k + 1)) 0 k (Q1 0 k + ((n : Int) - fr1)) 1 k = fr1 := by rw [uS_nf (by decide), uS_nf (by decide), g6]
      have u2 : uS (uS Q1 2 k (Q1 2 k + 1)) 0 k (Q1 0 k + ((n : Int) - fr1)) 2 k = Q1 2 k + 1 := by rw [uS_nf (by decide), uS_eq]
      have u0 : uS (uS Q1 2 k (Q1 2 k + 1)) 0 k (Q1 0 k + ((n : Int) - fr1)) 0 k = Q1 0 k + ((n : Int) - fr1) := uS_eq _ _ _ _
      obtain ⟨M', Q', i1, i2, i3, i4, i5, i6⟩ := ih (j + 1) f2 _ M6 (by omega) (by omega) h6 (o5.tr o6) ⟨hq0, fr1, u1, by omega, by rw [u2]; omega, by rw [u2]; omega, by rw [u2]; omega⟩ (by rw [u1]; omega)
      refine ⟨M', Q', i1, i2, i3, fun c k' q => by rw [i4 c k' q, uS_ni q, uS_ni q, g4 c k' q], i5, ?_⟩
      rw [i6, u1, u2, u0]
      unfold QF
      rw [e1, g5, Int.toNat_natCast, Int.toNat_natCast]
      have gg : cuB C k fr1 + Q1 2 k * fr1 = cuB C k fr + Q 2 k * fr := g11
      have m1 : (Q1 2 k + 1) * (fr1 : Int) = Q1 2 k * fr1 + fr1 := by rw [Int.add_mul, Int.one_mul]
      have m2 : (((n + 1 : Nat) : Int) - 1) * (S 5 k - (S 6 k + ((j + 1 : Nat) : Int))) = (((n + 1 : Nat) : Int) - 1) * (S 5 k - (S 6 k + (j : Int))) - n := by
        have e7 : S 5 k - (S 6 k + ((j + 1 : Nat) : Int)) = (S 5 k - (S 6 k + (j : Int))) - 1 := by omega
        rw [e7, Int.mul_sub, Int.mul_one]; omega
      rw [m1, m2]
      omega
    have mid : ∃ (M' : Mm) (Q' : SS), j_M_serves_0_15_96 (lp_M_serves_0_15_28 f2) (iI k) (iI n) (iI (57 + l)) M1 = some M' ∧ RelM 15 (dlv k l n d S) Q' M' ∧ Only 15 M0 M' ∧ (∀ c k', k' ≠ k → Q' c k' = Q c k') ∧ QK C k (n + 1) (S 5 k) (S 6 k + d) (Q' 1 k) (Q' 2 k) ∧ QF C k (n + 1) (Q' 0 k) (Q' 1 k) (Q' 2 k) (S 5 k) (S 6 k + d) = QF C k (n + 1) (Q 0 k) (Q 1 k) (Q 2 k) (S 5 k) (S 6 k + j) := by
      unfold j_M_serves_0_15_96
      simp only [f_M_ofKind, Option.bind_some, ix75_1, ix75_2, ix75_3, ix75_4]
      rw [rdQ g2 k 2 (z := 75 + 5 * k + 4) hk (by decide) (by omega)]
      simp only [Option.bind_some]
      rw [show iI (Q1 2 k) + 1 = iI (Q1 2 k + 1) by rw [l1, iI_add], w2]
      simp only [Option.bind_some]
      rw [rdM h2 6 k (z := 75 + 5 * k + 1) (fd 6 rfl) hk (by simp only [lyM]; omega), v6]
      simp only [Option.bind_some]
      rw [show iI (S 6 k + (j : Int)) + 1 = iI (S 6 k + j + 1) by rw [l1, iI_add], w3]
      simp only [Option.bind_some]
      rw [rdQ h3 k 0 (z := 75 + 5 * k + 2) hk (by decide) (by omega), rdQ h3 k 1 (z := 75 + 5 * k + 3) hk (by decide) (by omega), uS_nf (by decide), uS_nf (by decide), g6]
      simp only [Option.bind_some, iI_sub, iI_add]
      rw [w4]
      simp only [Option.bind_some]
      rw [show (96 : Int32) = iI 96 from rfl, iI_add, rdM h4 12 k (z := 96 + k) (fd 12 rfl) hk (by simp only [lyM]; omega), uS_nf (by decide)]
      have hfd2 : dlv k l n j S 12 k = -2 ∨ (0 ≤ dlv k l n j S 12 k ∧ dlv k l n j S 12 k ≤ 10000) := by unfold dlv; grind
      have c9 : (iI (dlv k l n j S 12 k) = -2) ↔ dlv k l n j S 12 k = -2 := by rw [lm2, iI_eq (by omega) (by omega) (by omega) (by omega)]
      simp only [Option.bind_some, c9]
      have ds := dlv_s (k := k) (l := l) (t := n) (j := j) (S := S) (by omega) (by omega)
      by_cases e : dlv k l n j S 12 k = -2
      · rw [if_pos e]
        rw [if_pos e] at ds
        obtain ⟨M5, w5, h5, o5⟩ := h4.wr 12 k (z := 96 + k) (x := n) (fd 12 rfl) hk (by simp only [lyM]; omega)
        rw [w5]
        simp only [Option.bind_some]
        exact fin M5 _ h5 (o14.tr o5) (by rw [uS_nf (by decide), uS_nf (by decide), v4]) (by rw [ds]; congr 1)
      · rw [if_neg e]
        rw [if_neg e] at ds
        exact fin M4 _ h4 o14 (by rw [uS_nf (by decide), v4]) (by rw [ds]; congr 1)
    obtain ⟨M', Q', x1, x2, x3, x4, x5, x6⟩ := mid
    refine ⟨M', Q', ?_, x2, x3, x4, x5, x6⟩
    rw [← x1]
    have g1' : lp_M_serves_0_15_52 (lp_M_serves_0_15_28 f2) FW (iI k) (iI n) (iI (57 + l)) M = j_M_serves_0_15_96 (lp_M_serves_0_15_28 f2) (iI k) (iI n) (iI (57 + l)) M1 := by
      rw [show (57 + (l : Int)) = ((l + 57 : Nat) : Int) by omega]; exact g1
    rw [← g1']
    show blp_M_serves_0_15_28 (lp_M_serves_0_15_28 f2) (iI k) (iI n) (iI (57 + l)) M = _
    unfold blp_M_serves_0_15_28
    simp only [f_M_ofKind, Option.bind_some, ix75_0, ix75_1]
    rw [rdM h 5 k (z := 75 + 5 * k + 0) (fd 5 rfl) hk (by simp only [lyM]; omega), rdM h 6 k (z := 75 + 5 * k + 1) (fd 6 rfl) hk (by simp only [lyM]; omega), v5, v6]
    simp only [Option.bind_some]
    have c0 : (iI (S 5 k) ≤ iI (S 6 k + j)) ↔ S 5 k ≤ S 6 k + j := iI_le (by omega) (by omega) (by omega) (by omega)
    simp only [c0]
    rw [if_neg (by omega), rdM h 4 l (z := 57 + l) (fd 4 rfl) hl (by simp only [lyM]; omega), v4]
    have c1 : (iI (S 4 l - j) ≤ 0) ↔ S 4 l - j ≤ 0 := iI_le (b := 0) (by omega) (by omega) (by omega) (by omega)
    simp only [Option.bind_some, c1]
    rw [if_neg (by omega)]
theorem M_front_16 {C S : SS} {M0 : Mm} {k n l : Nat} (rc : Int32 → Int32 → Int32 → Mm → Option Mm) (hC : CfgM C M0) (hO : CfgOk C) (hk : k < 3) (hn : n ≤ 10000) (dl : Int) (hd : dl < cuA C k (n + 1)) : ∀ (d fr fuel : Nat) (Q : SS) (M : Mm), fr + d = n → d < fuel → RelM 16 S Q M → Only 16 M0 M → Q 1 k = fr → 0 ≤ Q 2 k → Q 2 k ≤ arS C k fr → cuA C k fr + Q 2 k = dl →
    ∃ (M' : Mm) (Q' : SS) (fr' : Nat), lp_M_serves_0_16_52 rc fuel (iI k) (iI n) (iI l) M = j_M_serves_0_16_96 rc (iI k) (iI n) (iI l) M' ∧ RelM 16 S Q' M' ∧ Only 16 M0 M' ∧ (∀ c k', k' ≠ k → Q' c k' = Q c k') ∧ Q' 0 k = Q 0 k ∧ Q' 1 k = fr' ∧ fr' ≤ n ∧ 0 ≤ Q' 2 k ∧ Q' 2 k < arS C k fr' ∧ cuA C k fr' + Q' 2 k = dl ∧ cuB C k fr' + Q' 2 k * fr' = cuB C k fr + Q 2 k * fr := by
  intro d
  induction d with
  | zero =>
    intro fr fuel Q M hfr hfu h o q1 q2 q3 q4
    obtain ⟨f2, rfl⟩ : ∃ f2, fuel = f2 + 1 := ⟨fuel - 1, by omega⟩
    have hfr : fr = n := by omega
    subst hfr
    have hC' := o.cfg (by decide) hC
    have hA := arS_bd hO k fr
    have hlt : Q 2 k < arS C k fr := by
      have : cuA C k (fr + 1) = cuA C k fr + arS C k fr := rfl
      omega
    refine ⟨M, Q, fr, ?_, h, o, fun _ _ _ => rfl, rfl, q1, Nat.le_refl _, q2, hlt, q4, rfl⟩
    show blp_M_serves_0_16_52 rc (lp_M_serves_0_16_52 rc f2) (iI k) (iI fr) (iI l) M = _
    unfold blp_M_serves_0_16_52
    simp only [f_M_ofKind, Option.bind_some, ix75_3, ix75_4]
    rw [rdQ h k 1 (z := 75 + 5 * k + 3) hk (by decide) (by omega), rdQ h k 2 (z := 75 + 5 * k + 4) hk (by decide) (by omega), q1]
    simp only [Option.bind_some]
    rw [M_comeIn hC' hO hk (by omega) (by omega)]
    have c0 : (iI (arS C k fr) = iI (Q 2 k)) ↔ arS C k fr = Q 2 k := iI_eq (by omega) (by omega) (by omega) (by omega)
    simp only [Option.bind_some, c0]
    rw [if_neg (by omega)]
  | succ d ih =>
    intro fr fuel Q M hfr hfu h o q1 q2 q3 q4
    obtain ⟨f2, rfl⟩ : ∃ f2, fuel = f2 + 1 := ⟨fuel - 1, by omega⟩
    have hC' := o.cfg (by decide) hC
    have hA := arS_bd hO k fr
    have c0 : (iI (arS C k fr) = iI (Q 2 k)) ↔ arS C k fr = Q 2 k := iI_eq (by omega) (by omega) (by omega) (by omega)
    by_cases e : arS C k fr = Q 2 k
    · obtain ⟨M1, w1, h1, o1⟩ := wrQ h k 1 (z := 75 + 5 * k + 3) (x := (fr : Int) + 1) hk (by decide) (by omega)
      obtain ⟨M2, w2, h2, o2⟩ := wrQ h1 k 2 (z := 75 + 5 * k + 4) (x := 0) hk (by decide) (by omega)
      have hA2 := arS_bd hO k (fr + 1 : Nat)
      have hcu : cuA C k (fr + 1) = cuA C k fr + arS C k fr := rfl
      have hcb : cuB C k (fr + 1) = cuB C k fr + arS C k fr * fr := rfl
      have v1 : uS (uS Q 1 k ((fr : Int) + 1)) 2 k 0 1 k = (fr : Int) + 1 := by rw [uS_nf (by decide), uS_eq]
      have v2 : uS (uS Q 1 k ((fr : Int) + 1)) 2 k 0 2 k = 0 := uS_eq _ _ _ _
      have v0 : uS (uS Q 1 k ((fr : Int) + 1)) 2 k 0 0 k = Q 0 k := by rw [uS_nf (by decide), uS_nf (by decide)]
      have vk : ∀ c k', k' ≠ k → uS (uS Q 1 k ((fr : Int) + 1)) 2 k 0 c k' = Q c k' := fun c k' q => by rw [uS_ni q, uS_ni q]
      obtain ⟨M', Q', fr', g1, g2, g3, g4, g5, g6, g7, g8, g9, g10, g11⟩ := ih (fr + 1) f2 (uS (uS Q 1 k ((fr : Int) + 1)) 2 k 0) M2 (by omega) (by omega) h2 ((o.tr o1).tr o2) (by rw [v1]; omega) (by rw [v2]; omega) (by rw [v2]; omega) (by rw [v2]; omega)
      refine ⟨M', Q', fr', ?_, g2, g3, fun c k' q => by rw [g4 c k' q, vk c k' q], by rw [g5, v0], g6, g7, g8, g9, g10, by rw [g11, v2, hcb, e]; omega⟩
      rw [← g1]
      show blp_M_serves_0_16_52 rc (lp_M_serves_0_16_52 rc f2) (iI k) (iI n) (iI l) M = _
      unfold blp_M_serves_0_16_52
      simp only [f_M_ofKind, Option.bind_some, ix75_3, ix75_4]
      rw [rdQ h k 1 (z := 75 + 5 * k + 3) hk (by decide) (by omega), rdQ h k 2 (z := 75 + 5 * k + 4) hk (by decide) (by omega), q1]
      simp only [Option.bind_some]
      rw [M_comeIn hC' hO hk (by omega) (by omega)]
      simp only [Option.bind_some, c0]
      rw [if_pos e, l1, iI_add, w1]
      simp only [Option.bind_some]
      rw [l0, w2]
      rfl
    · refine ⟨M, Q, fr, ?_, h, o, fun _ _ _ => rfl, rfl, q1, by omega, q2, by omega, q4, rfl⟩
      show blp_M_serves_0_16_52 rc (lp_M_serves_0_16_52 rc f2) (iI k) (iI n) (iI l) M = _
      unfold blp_M_serves_0_16_52
      simp only [f_M_ofKind, Option.bind_some, ix75_3, ix75_4]
      rw [rdQ h k 1 (z := 75 + 5 * k + 3) hk (by decide) (by omega), rdQ h k 2 (z := 75 + 5 * k + 4) hk (by decide) (by omega), q1]
      simp only [Option.bind_some]
      rw [M_comeIn hC' hO hk (by omega) (by omega)]
      simp only [Option.bind_some, c0]
      rw [if_neg e]
theorem M_serve_16 {C S : SS} {M0 : Mm} {k n l : Nat} (hC : CfgM C M0) (hO : CfgOk C) (hk : k < 3) (hn : n ≤ 10000) (hl : l < 18) (d : Nat) (hcm : S 5 k = cuA C k (n + 1)) (hdl : 0 ≤ S 6 k) (hd1 : (d : Int) ≤ S 5 k - S 6 k) (hd2 : (d : Int) ≤ S 4 l) (hmin : (d : Int) = S 5 k - S 6 k ∨ (d : Int) = S 4 l) (hst : S 4 l ≤ 100) (hfd : S 12 k = -2 ∨ (0 ≤ S 12 k ∧ S 12 k ≤ 10000)) : ∀ (r : Nat) (j : Nat) (fuel : Nat) (Q : SS) (M : Mm), j + r = d → r < fuel → RelM 16 (dlv k (l) n j S) Q M → Only 16 M0 M → QK C k (n + 1) (S 5 k) (S 6 k + j) (Q 1 k) (Q 2 k) → Q 1 k ≤ n →
    ∃ (M' : Mm) (Q' : SS), lp_M_serves_0_16_28 fuel (iI k) (iI n) (iI (57 + l)) M = some M' ∧ RelM 16 (dlv k l n d S) Q' M' ∧ Only 16 M0 M' ∧ (∀ c k', k' ≠ k → Q' c k' = Q c k') ∧ QK C k (n + 1) (S 5 k) (S 6 k + d) (Q' 1 k) (Q' 2 k) ∧ QF C k (n + 1) (Q' 0 k) (Q' 1 k) (Q' 2 k) (S 5 k) (S 6 k + d) = QF C k (n + 1) (Q 0 k) (Q 1 k) (Q 2 k) (S 5 k) (S 6 k + j) := by
  intro r
  have hcb := cuA_bd hO k (n + 1)
  induction r with
  | zero =>
    intro j fuel Q M hj hfu h o hq hq1
    obtain ⟨f2, rfl⟩ : ∃ f2, fuel = f2 + 1 := ⟨fuel - 1, by omega⟩
    have hj : j = d := by omega
    subst hj
    refine ⟨M, Q, ?_, h, o, fun _ _ _ => rfl, hq, rfl⟩
    show blp_M_serves_0_16_28 (lp_M_serves_0_16_28 f2) (iI k) (iI n) (iI (57 + l)) M = _
    unfold blp_M_serves_0_16_28
    simp only [f_M_ofKind, Option.bind_some, ix75_0, ix75_1]
    have v5 : dlv k l n j S 5 k = S 5 k := by unfold dlv; grind
    have v6 : dlv k l n j S 6 k = S 6 k + j := by unfold dlv; grind
    have v4 : dlv k l n j S 4 l = S 4 l - j := by unfold dlv; grind
    rw [rdM h 5 k (z := 75 + 5 * k + 0) (fd 5 rfl) hk (by simp only [lyM]; omega), rdM h 6 k (z := 75 + 5 * k + 1) (fd 6 rfl) hk (by simp only [lyM]; omega), v5, v6]
    simp only [Option.bind_some]
    have c0 : (iI (S 5 k) ≤ iI (S 6 k + j)) ↔ S 5 k ≤ S 6 k + j := iI_le (by omega) (by omega) (by omega) (by omega)
    simp only [c0]
    by_cases e : S 5 k ≤ S 6 k + j
    · rw [if_pos e]
    · rw [if_neg e, rdM h 4 l (z := 57 + l) (fd 4 rfl) hl (by simp only [lyM]; omega), v4]
      have c1 : (iI (S 4 l - j) ≤ 0) ↔ S 4 l - j ≤ 0 := iI_le (b := 0) (by omega) (by omega) (by omega) (by omega)
      simp only [Option.bind_some, c1]
      rw [if_pos (by omega)]
  | succ r ih =>
    intro j fuel Q M hj hfu h o hq hq1
    obtain ⟨f2, rfl⟩ : ∃ f2, fuel = f2 + 1 := ⟨fuel - 1, by omega⟩
    obtain ⟨hq0, fr, e1, e2, e3, e4, e5⟩ := hq
    have hC' := o.cfg (by decide) hC
    have v5 : dlv k l n j S 5 k = S 5 k := by unfold dlv; grind
    have v6 : dlv k l n j S 6 k = S 6 k + j := by unfold dlv; grind
    have v4 : dlv k l n j S 4 l = S 4 l - j := by unfold dlv; grind
    have hdl2 : S 6 k + j < cuA C k (n + 1) := by omega
    obtain ⟨M1, Q1, fr1, g1, g2, g3, g4, g5, g6, g7, g8, g9, g10, g11⟩ := M_front_16 (S := dlv k l n j S) (l := l + 57) (lp_M_serves_0_16_28 f2) hC hO hk hn (S 6 k + j) hdl2 (n - fr) fr FW Q M (by omega) (FW_gt (by omega)) h o e1 e3 e4 e5
    -- one is served
    obtain ⟨M2, w2, h2, o2⟩ := wrQ g2 k 2 (z := 75 + 5 * k + 4) (x := Q1 2 k + 1) hk (by decide) (by omega)
    obtain ⟨M3, w3, h3, o3⟩ := h2.wr 6 k (z := 75 + 5 * k + 1) (x := S 6 k + j + 1) (fd 6 rfl) hk (by simp only [lyM]; omega)
    obtain ⟨M4, w4, h4, o4⟩ := wrQ h3 k 0 (z := 75 + 5 * k + 2) (x := Q1 0 k + ((n : Int) - fr1)) hk (by decide) (by omega)
    have o14 : Only 16 M0 M4 := ((g3.tr o2).tr o3).tr o4
    have fin : ∀ (M5 : Mm) (T : SS), RelM 16 T (uS (uS Q1 2 k (Q1 2 k + 1)) 0 k (Q1 0 k + ((n : Int) - fr1))) M5 → Only 16 M0 M5 → T 4 l = S 4 l - j → uS T 4 l (S 4 l - j - 1) = dlv k l n (j + 1 : Nat) S → ∃ (M' : Mm) (Q' : SS), j_M_serves_0_16_155 (lp_M_serves_0_16_28 f2) (iI k) (iI n) (iI (57 + l)) M5 = some M' ∧ RelM 16 (dlv k l n d S) Q' M' ∧ Only 16 M0 M' ∧ (∀ c k', k' ≠ k → Q' c k' = Q c k') ∧ QK C k (n + 1) (S 5 k) (S 6 k + d) (Q' 1 k) (Q' 2 k) ∧ QF C k (n + 1) (Q' 0 k) (Q' 1 k) (Q' 2 k) (S 5 k) (S 6 k + d) = QF C k (n + 1) (Q 0 k) (Q 1 k) (Q 2 k) (S 5 k) (S 6 k + j) := by
      intro M5 T h5 o5 hT4 hT
      unfold j_M_serves_0_16_155
      rw [rdM h5 4 l (z := 57 + l) (fd 4 rfl) hl (by simp only [lyM]; omega), hT4]
      simp only [Option.bind_some]
      obtain ⟨M6, w6, h6, o6⟩ := h5.wr 4 l (z := 57 + l) (x := S 4 l - j - 1) (fd 4 rfl) hl (by simp only [lyM]; omega)
      rw [l1, iI_sub, w6]
      simp only [Option.bind_some]
      rw [hT] at h6
      have u1 : uS (uS Q1 2 k (Q1 2 k + 1)) 0 k (Q1 0 k + ((n : Int) - fr1)) 1 k = fr1 := by rw [uS_nf (by decide), uS_nf (by decide), g6]
      have u2 : uS (uS Q1 2 k (Q1 2 k + 1)) 0 k (Q1 0 k + ((n : Int) - fr1)) 2 k = Q1 2 k + 1 := by rw [uS_nf (by decide), uS_eq]
      have u0 : uS (uS Q1 2 k (Q1 2 k + 1)) 0 k (Q1 0 k + ((n : Int) - fr1)) 0 k = Q1 0 k + ((n : Int) - fr1) := uS_eq _ _ _ _
      obtain ⟨M', Q', i1, i2, i3, i4, i5, i6⟩ := ih (j + 1) f2 _ M6 (by omega) (by omega) h6 (o5.tr o6) ⟨hq0, fr1, u1, by omega, by rw [u2]; omega, by rw [u2]; omega, by rw [u2]; omega⟩ (by rw [u1]; omega)
      refine ⟨M', Q', i1, i2, i3, fun c k' q => by rw [i4 c k' q, uS_ni q, uS_ni q, g4 c k' q], i5, ?_⟩
      rw [i6, u1, u2, u0]
      unfold QF
      rw [e1, g5, Int.toNat_natCast, Int.toNat_natCast]
      have gg : cuB C k fr1 + Q1 2 k * fr1 = cuB C k fr + Q 2 k * fr := g11
      have m1 : (Q1 2 k + 1) * (fr1 : Int) = Q1 2 k * fr1 + fr1 := by rw [Int.add_mul, Int.one_mul]
      have m2 : (((n + 1 : Nat) : Int) - 1) * (S 5 k - (S 6 k + ((j + 1 : Nat) : Int))) = (((n + 1 : Nat) : Int) - 1) * (S 5 k - (S 6 k + (j : Int))) - n := by
        have e7 : S 5 k - (S 6 k + ((j + 1 : Nat) : Int)) = (S 5 k - (S 6 k + (j : Int))) - 1 := by omega
        rw [e7, Int.mul_sub, Int.mul_one]; omega
      rw [m1, m2]
      omega
    have mid : ∃ (M' : Mm) (Q' : SS), j_M_serves_0_16_96 (lp_M_serves_0_16_28 f2) (iI k) (iI n) (iI (57 + l)) M1 = some M' ∧ RelM 16 (dlv k l n d S) Q' M' ∧ Only 16 M0 M' ∧ (∀ c k', k' ≠ k → Q' c k' = Q c k') ∧ QK C k (n + 1) (S 5 k) (S 6 k + d) (Q' 1 k) (Q' 2 k) ∧ QF C k (n + 1) (Q' 0 k) (Q' 1 k) (Q' 2 k) (S 5 k) (S 6 k + d) = QF C k (n + 1) (Q 0 k) (Q 1 k) (Q 2 k) (S 5 k) (S 6 k + j) := by
      unfold j_M_serves_0_16_96
      simp only [f_M_ofKind, Option.bind_some, ix75_1, ix75_2, ix75_3, ix75_4]
      rw [rdQ g2 k 2 (z := 75 + 5 * k + 4) hk (by decide) (by omega)]
      simp only [Option.bind_some]
      rw [show iI (Q1 2 k) + 1 = iI (Q1 2 k + 1) by rw [l1, iI_add], w2]
      simp only [Option.bind_some]
      rw [rdM h2 6 k (z := 75 + 5 * k + 1) (fd 6 rfl) hk (by simp only [lyM]; omega), v6]
      simp only [Option.bind_some]
      rw [show iI (S 6 k + (j : Int)) + 1 = iI (S 6 k + j + 1) by rw [l1, iI_add], w3]
      simp only [Option.bind_some]
      rw [rdQ h3 k 0 (z := 75 + 5 * k + 2) hk (by decide) (by omega), rdQ h3 k 1 (z := 75 + 5 * k + 3) hk (by decide) (by omega), uS_nf (by decide), uS_nf (by decide), g6]
      simp only [Option.bind_some, iI_sub, iI_add]
      rw [w4]
      simp only [Option.bind_some]
      rw [show (96 : Int32) = iI 96 from rfl, iI_add, rdM h4 12 k (z := 96 + k) (fd 12 rfl) hk (by simp only [lyM]; omega), uS_nf (by decide)]
      have hfd2 : dlv k l n j S 12 k = -2 ∨ (0 ≤ dlv k l n j S 12 k ∧ dlv k l n j S 12 k ≤ 10000) := by unfold dlv; grind
      have c9 : (iI (dlv k l n j S 12 k) = -2) ↔ dlv k l n j S 12 k = -2 := by rw [lm2, iI_eq (by omega) (by omega) (by omega) (by omega)]
      simp only [Option.bind_some, c9]
      have ds := dlv_s (k := k) (l := l) (t := n) (j := j) (S := S) (by omega) (by omega)
      by_cases e : dlv k l n j S 12 k = -2
      · rw [if_pos e]
        rw [if_pos e] at ds
        obtain ⟨M5, w5, h5, o5⟩ := h4.wr 12 k (z := 96 + k) (x := n) (fd 12 rfl) hk (by simp only [lyM]; omega)
        rw [w5]
        simp only [Option.bind_some]
        exact fin M5 _ h5 (o14.tr o5) (by rw [uS_nf (by decide), uS_nf (by decide), v4]) (by rw [ds]; congr 1)
      · rw [if_neg e]
        rw [if_neg e] at ds
        exact fin M4 _ h4 o14 (by rw [uS_nf (by decide), v4]) (by rw [ds]; congr 1)
    obtain ⟨M', Q', x1, x2, x3, x4, x5, x6⟩ := mid
    refine ⟨M', Q', ?_, x2, x3, x4, x5, x6⟩
    rw [← x1]
    have g1' : lp_M_serves_0_16_52 (lp_M_serves_0_16_28 f2) FW (iI k) (iI n) (iI (57 + l)) M = j_M_serves_0_16_96 (lp_M_serves_0_16_28 f2) (iI k) (iI n) (iI (57 + l)) M1 := by
      rw [show (57 + (l : Int)) = ((l + 57 : Nat) : Int) by omega]; exact g1
    rw [← g1']
    show blp_M_serves_0_16_28 (lp_M_serves_0_16_28 f2) (iI k) (iI n) (iI (57 + l)) M = _
    unfold blp_M_serves_0_16_28
    simp only [f_M_ofKind, Option.bind_some, ix75_0, ix75_1]
    rw [rdM h 5 k (z := 75 + 5 * k + 0) (fd 5 rfl) hk (by simp only [lyM]; omega), rdM h 6 k (z := 75 + 5 * k + 1) (fd 6 rfl) hk (by simp only [lyM]; omega), v5, v6]
    simp only [Option.bind_some]
    have c0 : (iI (S 5 k) ≤ iI (S 6 k + j)) ↔ S 5 k ≤ S 6 k + j := iI_le (by omega) (by omega) (by omega) (by omega)
    simp only [c0]
    rw [if_neg (by omega), rdM h 4 l (z := 57 + l) (fd 4 rfl) hl (by simp only [lyM]; omega), v4]
    have c1 : (iI (S 4 l - j) ≤ 0) ↔ S 4 l - j ≤ 0 := iI_le (b := 0) (by omega) (by omega) (by omega) (by omega)
    simp only [Option.bind_some, c1]
    rw [if_neg (by omega)]

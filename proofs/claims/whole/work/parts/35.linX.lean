def enX (q : Option Nat) : Int32 := match q with
  | none => iI (-2)
  | some k => iI (k : Int)
def moX (w : Nat → Int) (S : SS) (b : Nat) (q : Option Nat) : Int := match q with
  | none => 0
  | some k => frS w S b k
theorem beS_stay {C : SS} {w : Nat → Int} {S : SS} {b : Nat} (hr : w 36 ≠ 1) {i q : Nat} (h : beS C w S b i = some q) : ∀ n, beS C w S b (i + n) = some q := by
  intro n
  induction n with
  | zero => exact h
  | succ n ih =>
    rw [show i + (n + 1) = (i + n) + 1 from rfl, beS, ih]
    dsimp only
    split
    · rw [if_neg (fun z => hr z.1)]
    · rfl
theorem X_deliver_35 {C S : SS} {tt : Int} {M : Mm} {k : Nat} (hC : CfgX C M) (hO : CfgOk C) (h : RelX 35 (sdS C k S) tt M) (hk : (k : Int) < C 0 0) (A : AvS C S) (hT : 0 ≤ S 14 0) (hT2 : S 14 0 ≤ 10000) (hw : S 16 k = S 5 k - S 6 k) (hw0 : 0 ≤ S 16 k) (hw1 : S 16 k ≤ 100000) (hfd : S 12 k = -2 ∨ (0 ≤ S 12 k ∧ S 12 k ≤ 10000)) : ∃ M', f_L_deliver_35 (iI k) M = some M' ∧ RelX 35 (sdS C (k + 1) S) (tt + dvS C S k) M' ∧ OnlyX 35 M M' := by
  have hk3 : k < 3 := by have := hO.2.1; omega
  have h1 := hO.2.2.1
  have h6 := hO.2.2.2.1
  have hb : (((C 0 1).toNat - 1 : Nat) : Int) < C 0 1 := by omega
  obtain ⟨s1, s2, s3⟩ := A.2 ((C 0 1).toNat - 1) k hb hk
  have s4 : S 4 (3 * ((C 0 1).toNat - 1) + k) ≤ S 15 (3 * ((C 0 1).toNat - 1) + k) := by rw [s2]; split <;> omega
  have ha := arS_bd hO k (S 14 0)
  have e16 : sdS C k S 16 k = S 16 k + arS C k (S 14 0) := by unfold sdS; grind
  have e4 : sdS C k S 4 (3 * ((C 0 1).toNat - 1) + k) = S 4 (3 * ((C 0 1).toNat - 1) + k) := by unfold sdS; grind
  have e15 : sdS C k S 15 (3 * ((C 0 1).toNat - 1) + k) = S 15 (3 * ((C 0 1).toNat - 1) + k) := by unfold sdS; grind
  have e12 : sdS C k S 12 k = S 12 k := by unfold sdS; grind
  have e14 : sdS C k S 14 0 = S 14 0 := by unfold sdS; grind
  have hd : dvS C S k = min (S 16 k + arS C k (S 14 0)) (S 4 (3 * ((C 0 1).toNat - 1) + k)) := by unfold dvS; rw [hw]; congr 1; omega
  have hl18 : 3 * ((C 0 1).toNat - 1) + k < 18 := by omega
  have rc : f_P_cell (iI (C 0 1) - 1) (iI (k : Int)) = some (iI ((3 * ((C 0 1).toNat - 1) + k : Nat) : Int)) := by
    unfold f_P_cell
    rw [l1, iI_sub, ixc]
    congr 2; omega
  have r16 : rd (M.1 45) 3 (iI (k : Int)) = some (iI (S 16 k + arS C k (S 14 0))) := by rw [← e16]; exact h.rd 16 k (fx 16 rfl) (by decide) hk3 rfl
  have r4 : rd (M.1 36) 18 (iI ((3 * ((C 0 1).toNat - 1) + k : Nat) : Int)) = some (iI (S 4 (3 * ((C 0 1).toNat - 1) + k))) := by rw [← e4]; exact h.rd 4 _ (fx 4 rfl) (by decide) hl18 rfl
  generalize hl : 3 * ((C 0 1).toNat - 1) + k = l at *
  unfold f_L_deliver_35 j_L_deliver_35_37
  have cl : ¬ (iI (l : Int) < 0) := by rw [l0, iI_lt (by omega) (by omega) (by omega) (by omega)]; omega
  rw [hC.2.1, rc, Option.bind_some, if_neg cl, r16, Option.bind_some, r4, Option.bind_some, mn_iI (by omega) (by omega) (by omega) (by omega), ← hd]
  have c0 : (iI (dvS C S k) ≤ 0) ↔ dvS C S k ≤ 0 := by rw [l0]; exact iI_le (by omega) (by omega) (by omega) (by omega)
  by_cases e0 : dvS C S k ≤ 0
  · have ez : dvS C S k = 0 := by omega
    rw [if_pos (c0.mpr e0), ez, Int.add_zero]
    exact ⟨M, rfl, h.congr (fun i j _ _ => by rw [sdS_s hk3, if_neg (by omega), if_pos ez]), OnlyX.rf⟩
  · rw [if_neg (fun q => e0 (c0.mp q)), Option.bind_some, iI_sub]
    obtain ⟨M2, w2, h2, o2⟩ : ∃ M2, wr M 45 3 (iI (k : Int)) (iI (S 16 k + arS C k (S 14 0) - dvS C S k)) = some M2 ∧ RelX 35 (uS (sdS C k S) 16 k (S 16 k + arS C k (S 14 0) - dvS C S k)) tt M2 ∧ OnlyX 35 M M2 := h.wr 16 k (fx 16 rfl) (by decide) hk3 rfl
    rw [w2, Option.bind_some]
    have r4' : rd (M2.1 36) 18 (iI (l : Int)) = some (iI (S 4 l)) := by
      have := h2.rd 4 l (z := l) (fx 4 rfl) (by decide) hl18 rfl
      rw [uS_nf (by decide), e4] at this
      exact this
    rw [r4', Option.bind_some, iI_sub]
    obtain ⟨M3, w3, h3, o3⟩ : ∃ M3, wr M2 36 18 (iI (l : Int)) (iI (S 4 l - dvS C S k)) = some M3 ∧ RelX 35 (uS (uS (sdS C k S) 16 k (S 16 k + arS C k (S 14 0) - dvS C S k)) 4 l (S 4 l - dvS C S k)) tt M3 ∧ OnlyX 35 M2 M3 := h2.wr 4 l (fx 4 rfl) (by decide) hl18 rfl
    rw [w3, Option.bind_some]
    have r15' : rd (M3.1 37) 18 (iI (l : Int)) = some (iI (S 15 l)) := by
      have := h3.rd 15 l (z := l) (fx 15 rfl) (by decide) hl18 rfl
      rw [uS_nf (by decide), uS_nf (by decide), e15] at this
      exact this
    rw [r15', Option.bind_some, iI_sub]
    obtain ⟨M4, w4, h4, o4⟩ : ∃ M4, wr M3 37 18 (iI (l : Int)) (iI (S 15 l - dvS C S k)) = some M4 ∧ RelX 35 (uS (uS (uS (sdS C k S) 16 k (S 16 k + arS C k (S 14 0) - dvS C S k)) 4 l (S 4 l - dvS C S k)) 15 l (S 15 l - dvS C S k)) tt M4 ∧ OnlyX 35 M3 M4 := h3.wr 15 l (fx 15 rfl) (by decide) hl18 rfl
    rw [w4, Option.bind_some, h4.2, iI_add, Option.bind_some]
    have h5 := (h4.putT (tt + dvS C S k)).skip (i := 6) (j := k) (by unfold fdX; omega) (S 6 k + dvS C S k)
    have o5 : OnlyX 35 M (u1 M4 35 15 (iI (tt + dvS C S k))) := ((o2.tr o3).tr o4).u1 (Nat.le_refl _) (by decide)
    generalize u1 M4 35 15 (iI (tt + dvS C S k)) = M5 at h5 o5 ⊢
    have r12 : rd (M5.1 47) 3 (iI (k : Int)) = some (iI (S 12 k)) := by
      have := h5.rd 12 k (z := k) (fx 12 rfl) (by decide) hk3 rfl
      rw [uS_nf (by decide), uS_nf (by decide), uS_nf (by decide), uS_nf (by decide), e12] at this
      exact this
    rw [r12, Option.bind_some]
    have c2 : (iI (S 12 k) = -2) ↔ S 12 k = -2 := by rw [lm2, iI_eq (by omega) (by omega) (by omega) (by omega)]
    by_cases e2 : S 12 k = -2
    · rw [if_pos (c2.mpr e2)]
      have r14 : M5.1 35 14 = iI (S 14 0) := by
        have := h5.1 14 0 (fx 14 rfl) (by decide)
        rw [uS_nf (by decide), uS_nf (by decide), uS_nf (by decide), uS_nf (by decide), e14] at this
        exact this
      rw [r14]
      obtain ⟨M6, w6, h6, o6⟩ : ∃ M6, wr M5 47 3 (iI (k : Int)) (iI (S 14 0)) = some M6 ∧ RelX 35 (uS (uS (uS (uS (uS (sdS C k S) 16 k (S 16 k + arS C k (S 14 0) - dvS C S k)) 4 l (S 4 l - dvS C S k)) 15 l (S 15 l - dvS C S k)) 6 k (S 6 k + dvS C S k)) 12 k (S 14 0)) (tt + dvS C S k) M6 ∧ OnlyX 35 M5 M6 := h5.wr 12 k (fx 12 rfl) (by decide) hk3 rfl
      rw [w6]
      exact ⟨M6, rfl, h6.congr (fun i j _ _ => by rw [sdS_s hk3, if_pos (by omega), if_pos e2, hl, e16]), o5.tr o6⟩
    · rw [if_neg (fun q => e2 (c2.mp q))]
      exact ⟨M5, rfl, h5.congr (fun i j _ _ => by rw [sdS_s hk3, if_pos (by omega), if_neg e2, hl, e16]), o5⟩
theorem X_freeIf_35 {C S : SS} {w : Nat → Int} {tt : Int} {M : Mm} {b k : Nat} (hO : CfgOk C) (h : RelX 35 S tt M) (hw : WyX 32 w M) (hb : (b : Int) < C 0 1) (hk : (k : Int) < C 0 0) (A : AvS C S) : f_L_freeIfCan_35 (iI b) (iI k) M = some (iI (if b = 0 ∨ 0 < S 4 (3 * (b - 1) + k) then frS w S b k else 0)) := by
  have hb6 := sz6 hO hb
  have hk3 : k < 3 := by have := hO.2.1; omega
  have cb : (iI (b : Int) ≤ 0) ↔ b = 0 := by rw [l0, iI_le (by omega) (by omega) (by omega) (by omega)]; omega
  have rj : j_L_freeIfCan_35_23 (iI (3 * b + k)) M = some (iI (frS w S b k)) := by
    unfold j_L_freeIfCan_35_23
    have ra : rd (M.1 33) 18 (iI (3 * (b : Int) + k)) = some (iI (w (3 * b + k))) := by
      rw [rd_iI (by omega) (by omega) (by decide), show (3 * (b : Int) + (k : Int)).toNat = 3 * b + k by omega]
      exact congrArg some (hw.1 _ (by omega))
    have rh : rd (M.1 37) 18 (iI (3 * (b : Int) + k)) = some (iI (S 15 (3 * b + k))) := h.rd 15 (3 * b + k) (fx 15 rfl) (by decide) (by simp only [szX]; omega) (by simp only [ixX]; omega)
    rw [ra, Option.bind_some, rh, Option.bind_some, iI_sub]
    rfl
  unfold f_L_freeIfCan_35
  rw [ixc]
  by_cases e : b = 0
  · rw [if_pos (cb.mpr e), rj, if_pos (Or.inl e)]
  · rw [if_neg (fun q => e (cb.mp q)), l3, iI_sub]
    obtain ⟨t1, t2, t3⟩ := A.2 (b - 1) k (by omega) hk
    have t4 : S 4 (3 * (b - 1) + k) ≤ S 15 (3 * (b - 1) + k) := by rw [t2]; split <;> omega
    have r4 : rd (M.1 36) 18 (iI (3 * (b : Int) + k - 3)) = some (iI (S 4 (3 * (b - 1) + k))) := h.rd 4 (3 * (b - 1) + k) (fx 4 rfl) (by decide) (by simp only [szX]; omega) (by simp only [ixX]; omega)
    have c0 : (0 < iI (S 4 (3 * (b - 1) + k))) ↔ 0 < S 4 (3 * (b - 1) + k) := by rw [l0]; exact iI_lt (by omega) (by omega) (by omega) (by omega)
    rw [r4, Option.bind_some]
    by_cases e2 : 0 < S 4 (3 * (b - 1) + k)
    · rw [if_pos (c0.mpr e2), rj, if_pos (Or.inr e2)]
    · rw [if_neg (fun q => e2 (c0.mp q)), if_neg (fun q => q.elim e e2), l0]
theorem X_chosen_35 {C S : SS} {w : Nat → Int} {tt : Int} {M : Mm} {b : Nat} (hC : CfgX C M) (hO : CfgOk C) (h : RelX 35 S tt M) (hw : WyX 32 w M) (hW : WyOk C w) (hb : (b : Int) < C 0 1) (A : AvS C S) : f_L_chosen_35 (iI b) M = some (enX (beS C w S b (C 0 0).toNat)) := by
  have hb6 := sz6 hO hb
  have hk3 := hO.2.1
  have hk1 := hO.1
  have hr := hW.2
  obtain ⟨a1, a2, a3, a4, a5, a6⟩ := A.1 b hb
  have r2 : rd (M.1 39) 6 (iI (b : Int)) = some (iI (S 2 b)) := h.rd 2 b (fx 2 rfl) (by decide) hb6 rfl
  have hrule : M.1 32 2 = iI (w 36) := hw.2.2
  -- the loop, from 'ahead' on
  have main : ∀ ah : Int, 0 ≤ ah → ah ≤ 3 → (∀ i : Nat, i < (C 0 0).toNat → (ah + i) % C 0 0 = (kiS C w S b i : Int)) → lp_L_chosen_35_55 FW (iI b) (iI ah) (-2) 0 0 M = some (enX (beS C w S b (C 0 0).toNat)) := by
    intro ah h0 h3 hki
    refine loop_ex (σ := Int32 × Int32 × Int32) (γ := Option Int32) (fun n s => lp_L_chosen_35_55 n (iI b) (iI ah) s.1 s.2.1 s.2.2 M) (fun s => ∃ i : Nat, i ≤ (C 0 0).toNat ∧ s = (enX (beS C w S b i), iI (moX w S b (beS C w S b i)), iI (i : Int)) ∧ (w 36 ≠ 1 → beS C w S b i = none)) (fun s => (C 0 0).toNat - s.2.2.toNatClampNeg) (fun r => r = some (enX (beS C w S b (C 0 0).toNat))) ?_ FW (iI (-2), iI 0, iI 0) ⟨0, Nat.zero_le _, rfl, fun _ => rfl⟩ (FW_gt (by omega))
    rintro n _ ⟨i, hi, rfl, hno⟩
    dsimp only
    have cN : (iI (C 0 0) ≤ iI (i : Int)) ↔ C 0 0 ≤ (i : Int) := iI_le (by omega) (by omega) (by omega) (by omega)
    by_cases ei : i = (C 0 0).toNat
    · left
      show blp_L_chosen_35_55 (lp_L_chosen_35_55 n) (iI b) (iI ah) (enX (beS C w S b i)) (iI (moX w S b (beS C w S b i))) (iI (i : Int)) M = _
      unfold blp_L_chosen_35_55
      rw [hC.1, if_pos (cN.mpr (by omega)), ei]
    · have hlt : i < (C 0 0).toNat := by omega
      have hkl := kiS_lt (w := w) (S := S) (b := b) hO hlt
      have hkb : ((kiS C w S b i : Nat) : Int) < C 0 0 := by omega
      have ev : lp_L_chosen_35_55 (n + 1) (iI b) (iI ah) (enX (beS C w S b i)) (iI (moX w S b (beS C w S b i))) (iI (i : Int)) M = (if iI (if b = 0 ∨ 0 < S 4 (3 * (b - 1) + kiS C w S b i) then frS w S b (kiS C w S b i) else 0) ≤ 0 then j_L_chosen_35_111 (lp_L_chosen_35_55 n) (iI b) (iI ah) (enX (beS C w S b i)) (iI (moX w S b (beS C w S b i))) (iI (i : Int)) (iI (kiS C w S b i : Int)) (iI (if b = 0 ∨ 0 < S 4 (3 * (b - 1) + kiS C w S b i) then frS w S b (kiS C w S b i) else 0)) M else if iI (w 36) = 1 then j_L_chosen_35_111 (lp_L_chosen_35_55 n) (iI b) (iI ah) (enX (beS C w S b i)) (iI (moX w S b (beS C w S b i))) (iI (i : Int)) (iI (kiS C w S b i : Int)) (iI (if b = 0 ∨ 0 < S 4 (3 * (b - 1) + kiS C w S b i) then frS w S b (kiS C w S b i) else 0)) M else some (iI (kiS C w S b i : Int))) := by
        show blp_L_chosen_35_55 (lp_L_chosen_35_55 n) (iI b) (iI ah) (enX (beS C w S b i)) (iI (moX w S b (beS C w S b i))) (iI (i : Int)) M = _
        unfold blp_L_chosen_35_55
        rw [hC.1, if_neg (fun q => by have := cN.mp q; omega), iI_add, P_rem (by omega) (by omega) (by omega) (by omega), Option.bind_some, hki i hlt, X_freeIf_35 hO h hw hb hkb A, Option.bind_some, hrule]
      have fk : ∀ q : Nat, (q : Int) < C 0 0 → -9 ≤ frS w S b q ∧ frS w S b q ≤ 9 := by
        intro q hq
        obtain ⟨s1, s2, s3⟩ := A.2 b q hb hq
        obtain ⟨w1, w2, -⟩ := hW.1 b q hb hq
        unfold frS
        have : S 4 (3 * b + q) ≤ S 15 (3 * b + q) := by rw [s2]; split <;> omega
        omega
      have fki := fk _ hkb
      have mo : 0 ≤ moX w S b (beS C w S b i) ∧ moX w S b (beS C w S b i) ≤ 9 := by
        cases hq : beS C w S b i with
        | none => exact ⟨Int.le_refl _, by show (0 : Int) ≤ 9; decide⟩
        | some q =>
          have l1 := beS_lt hO i hi q hq
          have av := beS_av i q hq
          have := fk q (by omega)
          show 0 ≤ frS w S b q ∧ frS w S b q ≤ 9
          have := av.1
          omega
      have nx : ∀ (be : Option Nat), beS C w S b (i + 1) = be → (w 36 ≠ 1 → be = none) → ∃ s' : Int32 × Int32 × Int32, lp_L_chosen_35_55 n (iI b) (iI ah) (enX be) (iI (moX w S b be)) (iI (i : Int) + 1) M = lp_L_chosen_35_55 n (iI b) (iI ah) s'.1 s'.2.1 s'.2.2 M ∧ (∃ i2 : Nat, i2 ≤ (C 0 0).toNat ∧ s' = (enX (beS C w S b i2), iI (moX w S b (beS C w S b i2)), iI (i2 : Int)) ∧ (w 36 ≠ 1 → beS C w S b i2 = none)) ∧ (C 0 0).toNat - s'.2.2.toNatClampNeg < (C 0 0).toNat - (iI (i : Int)).toNatClampNeg := by
        intro be hbe hno2
        refine ⟨(enX be, iI (moX w S b be), iI ((i + 1 : Nat) : Int)), ?_, ⟨i + 1, by omega, by rw [hbe], by rw [hbe]; exact hno2⟩, ?_⟩
        · rw [l1, iI_add]; rfl
        · dsimp only
          rw [iI_clamp (by omega) (by omega), iI_clamp (by omega) (by omega)]
          omega
      rw [ev]
      by_cases av : avS w S b (kiS C w S b i)
      · have e1 : (if b = 0 ∨ 0 < S 4 (3 * (b - 1) + kiS C w S b i) then frS w S b (kiS C w S b i) else 0) = frS w S b (kiS C w S b i) := if_pos av.2
        have av1 := av.1
        rw [e1]
        have c1 : ¬ (iI (frS w S b (kiS C w S b i)) ≤ 0) := by rw [l0, iI_le (by omega) (by omega) (by omega) (by omega)]; omega
        have c2 : (iI (w 36) = 1) ↔ w 36 = 1 := by rw [l1, iI_eq (by omega) (by omega) (by omega) (by omega)]
        rw [if_neg c1]
        by_cases er : w 36 = 1
        · right
          rw [if_pos (c2.mpr er)]
          unfold j_L_chosen_35_111 j_L_chosen_35_126
          have c3 : (iI (frS w S b (kiS C w S b i)) ≤ iI (moX w S b (beS C w S b i))) ↔ frS w S b (kiS C w S b i) ≤ moX w S b (beS C w S b i) := iI_le (by omega) (by omega) (by omega) (by omega)
          cases hq : beS C w S b i with
          | none =>
            rw [hq] at c3
            have hbe : beS C w S b (i + 1) = some (kiS C w S b i) := by
              show (if avS w S b (kiS C w S b i) then _ else _) = _
              rw [if_pos av, hq]
            rw [if_neg (fun z => by have := c3.mp z; have e9 : moX w S b none = 0 := rfl; omega)]
            exact nx _ hbe (fun z => absurd er z)
          | some q =>
            rw [hq] at c3
            have hbe : beS C w S b (i + 1) = if w 36 = 1 ∧ frS w S b q < frS w S b (kiS C w S b i) then some (kiS C w S b i) else some q := by
              show (if avS w S b (kiS C w S b i) then _ else _) = _
              rw [if_pos av, hq]
            by_cases e4 : frS w S b q < frS w S b (kiS C w S b i)
            · rw [if_pos ⟨er, e4⟩] at hbe
              rw [if_neg (fun z => by have := c3.mp z; have e9 : moX w S b (some q) = frS w S b q := rfl; omega)]
              exact nx _ hbe (fun z => absurd er z)
            · rw [if_neg (fun z => e4 z.2)] at hbe
              rw [if_pos (c3.mpr (by show _ ≤ frS w S b q; omega))]
              exact nx _ hbe (fun z => absurd er z)
        · left
          rw [if_neg (fun q => er (c2.mp q))]
          have hq := hno er
          have hbe : beS C w S b (i + 1) = some (kiS C w S b i) := by
            show (if avS w S b (kiS C w S b i) then _ else _) = _
            rw [if_pos av, hq]
          have := beS_stay er hbe ((C 0 0).toNat - (i + 1))
          rw [show i + 1 + ((C 0 0).toNat - (i + 1)) = (C 0 0).toNat by omega] at this
          rw [this]
          rfl
      · right
        have e1 : (if b = 0 ∨ 0 < S 4 (3 * (b - 1) + kiS C w S b i) then frS w S b (kiS C w S b i) else 0) ≤ 0 := by
          by_cases z : b = 0 ∨ 0 < S 4 (3 * (b - 1) + kiS C w S b i)
          · rw [if_pos z]
            exact Int.not_lt.mp (fun q => av ⟨q, z⟩)
          · rw [if_neg z]; exact Int.le_refl 0
        have e1' : -9 ≤ (if b = 0 ∨ 0 < S 4 (3 * (b - 1) + kiS C w S b i) then frS w S b (kiS C w S b i) else 0) := by split <;> omega
        have hbe : beS C w S b (i + 1) = beS C w S b i := by
          show (if avS w S b (kiS C w S b i) then _ else _) = _
          rw [if_neg av]
        generalize (if b = 0 ∨ 0 < S 4 (3 * (b - 1) + kiS C w S b i) then frS w S b (kiS C w S b i) else 0) = v at e1 e1' ⊢
        have c1 : iI v ≤ 0 := by rw [l0, iI_le (by omega) (by omega) (by omega) (by omega)]; exact e1
        have c3 : iI v ≤ iI (moX w S b (beS C w S b i)) := by rw [iI_le (by omega) (by omega) (by omega) (by omega)]; omega
        rw [if_pos c1]
        unfold j_L_chosen_35_111 j_L_chosen_35_126
        rw [if_pos c3]
        exact nx _ hbe hno
  have c2 : (iI (w 36) = 2) ↔ w 36 = 2 := by rw [l2, iI_eq (by omega) (by omega) (by omega) (by omega)]
  have c3 : (iI (S 2 b) = -2) ↔ S 2 b = -2 := by rw [lm2, iI_eq (by omega) (by omega) (by omega) (by omega)]
  have m0 : ¬ (w 36 = 2 ∧ S 2 b ≠ -2) → lp_L_chosen_35_55 FW (iI b) 0 (-2) 0 0 M = some (enX (beS C w S b (C 0 0).toNat)) := by
    intro hn
    have := main 0 (by omega) (by omega) (fun i hi => by
      unfold kiS
      rw [if_neg hn, Int.zero_add, Int.emod_eq_of_lt (by omega) (by omega)])
    rw [← l0] at this
    exact this
  unfold f_L_chosen_35
  rw [hrule]
  by_cases e2 : w 36 = 2
  · rw [if_pos (c2.mpr e2), r2, Option.bind_some]
    by_cases e3 : S 2 b = -2
    · rw [if_pos (c3.mpr e3)]
      unfold j_L_chosen_35_26 j_L_chosen_35_27
      rw [if_pos rfl]
      unfold j_L_chosen_35_44
      exact m0 (fun z => z.2 e3)
    · rw [if_neg (fun q => e3 (c3.mp q))]
      unfold j_L_chosen_35_27
      rw [if_neg (show ¬ (1 : Int32) = 0 by decide), r2, Option.bind_some]
      unfold j_L_chosen_35_44
      rw [l1, iI_add]
      refine main (S 2 b + 1) (by omega) (by omega) (fun i hi => ?_)
      unfold kiS
      rw [if_pos ⟨e2, e3⟩]
      have : S 2 b + 1 + (i : Int) = (((S 2 b).toNat + 1 + i : Nat) : Int) := by omega
      rw [this, Int.natCast_emod, show (((C 0 0).toNat : Nat) : Int) = C 0 0 by omega]
  · rw [if_neg (fun q => e2 (c2.mp q))]
    unfold j_L_chosen_35_26 j_L_chosen_35_27
    rw [if_pos rfl]
    unfold j_L_chosen_35_44
    exact m0 (fun z => e2 z.1)
theorem X_deliver_52 {C S : SS} {tt : Int} {M : Mm} {k : Nat} (hC : CfgX C M) (hO : CfgOk C) (h : RelX 52 (sdS C k S) tt M) (hk : (k : Int) < C 0 0) (A : AvS C S) (hT : 0 ≤ S 14 0) (hT2 : S 14 0 ≤ 10000) (hw : S 16 k = S 5 k - S 6 k) (hw0 : 0 ≤ S 16 k) (hw1 : S 16 k ≤ 100000) (hfd : S 12 k = -2 ∨ (0 ≤ S 12 k ∧ S 12 k ≤ 10000)) : ∃ M', f_L_deliver_52 (iI k) M = some M' ∧ RelX 52 (sdS C (k + 1) S) (tt + dvS C S k) M' ∧ OnlyX 52 M M' := by
  have hk3 : k < 3 := by have := hO.2.1; omega
  have h1 := hO.2.2.1
  have h6 := hO.2.2.2.1
  have hb : (((C 0 1).toNat - 1 : Nat) : Int) < C 0 1 := by omega
  obtain ⟨s1, s2, s3⟩ := A.2 ((C 0 1).toNat - 1) k hb hk
  have s4 : S 4 (3 * ((C 0 1).toNat - 1) + k) ≤ S 15 (3 * ((C 0 1).toNat - 1) + k) := by rw [s2]; split <;> omega
  have ha := arS_bd hO k (S 14 0)
  have e16 : sdS C k S 16 k = S 16 k + arS C k (S 14 0) := by unfold sdS; grind
  have e4 : sdS C k S 4 (3 * ((C 0 1).toNat - 1) + k) = S 4 (3 * ((C 0 1).toNat - 1) + k) := by unfold sdS; grind
  have e15 : sdS C k S 15 (3 * ((C 0 1).toNat - 1) + k) = S 15 (3 * ((C 0 1).toNat - 1) + k) := by unfold sdS; grind
  have e12 : sdS C k S 12 k = S 12 k := by unfold sdS; grind
  have e14 : sdS C k S 14 0 = S 14 0 := by unfold sdS; grind
  have hd : dvS C S k = min (S 16 k + arS C k (S 14 0)) (S 4 (3 * ((C 0 1).toNat - 1) + k)) := by unfold dvS; rw [hw]; congr 1; omega
  have hl18 : 3 * ((C 0 1).toNat - 1) + k < 18 := by omega
  have rc : f_P_cell (iI (C 0 1) - 1) (iI (k : Int)) = some (iI ((3 * ((C 0 1).toNat - 1) + k : Nat) : Int)) := by
    unfold f_P_cell
    rw [l1, iI_sub, ixc]
    congr 2; omega
  have r16 : rd (M.1 62) 3 (iI (k : Int)) = some (iI (S 16 k + arS C k (S 14 0))) := by rw [← e16]; exact h.rd 16 k (fx 16 rfl) (by decide) hk3 rfl
  have r4 : rd (M.1 53) 18 (iI ((3 * ((C 0 1).toNat - 1) + k : Nat) : Int)) = some (iI (S 4 (3 * ((C 0 1).toNat - 1) + k))) := by rw [← e4]; exact h.rd 4 _ (fx 4 rfl) (by decide) hl18 rfl
  generalize hl : 3 * ((C 0 1).toNat - 1) + k = l at *
  unfold f_L_deliver_52 j_L_deliver_52_37
  have cl : ¬ (iI (l : Int) < 0) := by rw [l0, iI_lt (by omega) (by omega) (by omega) (by omega)]; omega
  rw [hC.2.1, rc, Option.bind_some, if_neg cl, r16, Option.bind_some, r4, Option.bind_some, mn_iI (by omega) (by omega) (by omega) (by omega), ← hd]
  have c0 : (iI (dvS C S k) ≤ 0) ↔ dvS C S k ≤ 0 := by rw [l0]; exact iI_le (by omega) (by omega) (by omega) (by omega)
  by_cases e0 : dvS C S k ≤ 0
  · have ez : dvS C S k = 0 := by omega
    rw [if_pos (c0.mpr e0), ez, Int.add_zero]
    exact ⟨M, rfl, h.congr (fun i j _ _ => by rw [sdS_s hk3, if_neg (by omega), if_pos ez]), OnlyX.rf⟩
  · rw [if_neg (fun q => e0 (c0.mp q)), Option.bind_some, iI_sub]
    obtain ⟨M2, w2, h2, o2⟩ : ∃ M2, wr M 62 3 (iI (k : Int)) (iI (S 16 k + arS C k (S 14 0) - dvS C S k)) = some M2 ∧ RelX 52 (uS (sdS C k S) 16 k (S 16 k + arS C k (S 14 0) - dvS C S k)) tt M2 ∧ OnlyX 52 M M2 := h.wr 16 k (fx 16 rfl) (by decide) hk3 rfl
    rw [w2, Option.bind_some]
    have r4' : rd (M2.1 53) 18 (iI (l : Int)) = some (iI (S 4 l)) := by
      have := h2.rd 4 l (z := l) (fx 4 rfl) (by decide) hl18 rfl
      rw [uS_nf (by decide), e4] at this
      exact this
    rw [r4', Option.bind_some, iI_sub]
    obtain ⟨M3, w3, h3, o3⟩ : ∃ M3, wr M2 53 18 (iI (l : Int)) (iI (S 4 l - dvS C S k)) = some M3 ∧ RelX 52 (uS (uS (sdS C k S) 16 k (S 16 k + arS C k (S 14 0) - dvS C S k)) 4 l (S 4 l - dvS C S k)) tt M3 ∧ OnlyX 52 M2 M3 := h2.wr 4 l (fx 4 rfl) (by decide) hl18 rfl
    rw [w3, Option.bind_some]
    have r15' : rd (M3.1 54) 18 (iI (l : Int)) = some (iI (S 15 l)) := by
      have := h3.rd 15 l (z := l) (fx 15 rfl) (by decide) hl18 rfl
      rw [uS_nf (by decide), uS_nf (by decide), e15] at this
      exact this
    rw [r15', Option.bind_some, iI_sub]
    obtain ⟨M4, w4, h4, o4⟩ : ∃ M4, wr M3 54 18 (iI (l : Int)) (iI (S 15 l - dvS C S k)) = some M4 ∧ RelX 52 (uS (uS (uS (sdS C k S) 16 k (S 16 k + arS C k (S 14 0) - dvS C S k)) 4 l (S 4 l - dvS C S k)) 15 l (S 15 l - dvS C S k)) tt M4 ∧ OnlyX 52 M3 M4 := h3.wr 15 l (fx 15 rfl) (by decide) hl18 rfl
    rw [w4, Option.bind_some, h4.2, iI_add, Option.bind_some]
    have h5 := (h4.putT (tt + dvS C S k)).skip (i := 6) (j := k) (by unfold fdX; omega) (S 6 k + dvS C S k)
    have o5 : OnlyX 52 M (u1 M4 52 15 (iI (tt + dvS C S k))) := ((o2.tr o3).tr o4).u1 (Nat.le_refl _) (by decide)
    generalize u1 M4 52 15 (iI (tt + dvS C S k)) = M5 at h5 o5 ⊢
    have r12 : rd (M5.1 64) 3 (iI (k : Int)) = some (iI (S 12 k)) := by
      have := h5.rd 12 k (z := k) (fx 12 rfl) (by decide) hk3 rfl
      rw [uS_nf (by decide), uS_nf (by decide), uS_nf (by decide), uS_nf (by decide), e12] at this
      exact this
    rw [r12, Option.bind_some]
    have c2 : (iI (S 12 k) = -2) ↔ S 12 k = -2 := by rw [lm2, iI_eq (by omega) (by omega) (by omega) (by omega)]
    by_cases e2 : S 12 k = -2
    · rw [if_pos (c2.mpr e2)]
      have r14 : M5.1 52 14 = iI (S 14 0) := by
        have := h5.1 14 0 (fx 14 rfl) (by decide)
        rw [uS_nf (by decide), uS_nf (by decide), uS_nf (by decide), uS_nf (by decide), e14] at this
        exact this
      rw [r14]
      obtain ⟨M6, w6, h6, o6⟩ : ∃ M6, wr M5 64 3 (iI (k : Int)) (iI (S 14 0)) = some M6 ∧ RelX 52 (uS (uS (uS (uS (uS (sdS C k S) 16 k (S 16 k + arS C k (S 14 0) - dvS C S k)) 4 l (S 4 l - dvS C S k)) 15 l (S 15 l - dvS C S k)) 6 k (S 6 k + dvS C S k)) 12 k (S 14 0)) (tt + dvS C S k) M6 ∧ OnlyX 52 M5 M6 := h5.wr 12 k (fx 12 rfl) (by decide) hk3 rfl
      rw [w6]
      exact ⟨M6, rfl, h6.congr (fun i j _ _ => by rw [sdS_s hk3, if_pos (by omega), if_pos e2, hl, e16]), o5.tr o6⟩
    · rw [if_neg (fun q => e2 (c2.mp q))]
      exact ⟨M5, rfl, h5.congr (fun i j _ _ => by rw [sdS_s hk3, if_pos (by omega), if_neg e2, hl, e16]), o5⟩
theorem X_freeIf_52 {C S : SS} {w : Nat → Int} {tt : Int} {M : Mm} {b k : Nat} (hO : CfgOk C) (h : RelX 52 S tt M) (hw : WyX 49 w M) (hb : (b : Int) < C 0 1) (hk : (k : Int) < C 0 0) (A : AvS C S) : f_L_freeIfCan_52 (iI b) (iI k) M = some (iI (if b = 0 ∨ 0 < S 4 (3 * (b - 1) + k) then frS w S b k else 0)) := by
  have hb6 := sz6 hO hb
  have hk3 : k < 3 := by have := hO.2.1; omega
  have cb : (iI (b : Int) ≤ 0) ↔ b = 0 := by rw [l0, iI_le (by omega) (by omega) (by omega) (by omega)]; omega
  have rj : j_L_freeIfCan_52_23 (iI (3 * b + k)) M = some (iI (frS w S b k)) := by
    unfold j_L_freeIfCan_52_23
    have ra : rd (M.1 50) 18 (iI (3 * (b : Int) + k)) = some (iI (w (3 * b + k))) := by
      rw [rd_iI (by omega) (by omega) (by decide), show (3 * (b : Int) + (k : Int)).toNat = 3 * b + k by omega]
      exact congrArg some (hw.1 _ (by omega))
    have rh : rd (M.1 54) 18 (iI (3 * (b : Int) + k)) = some (iI (S 15 (3 * b + k))) := h.rd 15 (3 * b + k) (fx 15 rfl) (by decide) (by simp only [szX]; omega) (by simp only [ixX]; omega)
    rw [ra, Option.bind_some, rh, Option.bind_some, iI_sub]
    rfl
  unfold f_L_freeIfCan_52
  rw [ixc]
  by_cases e : b = 0
  · rw [if_pos (cb.mpr e), rj, if_pos (Or.inl e)]
  · rw [if_neg (fun q => e (cb.mp q)), l3, iI_sub]
    obtain ⟨t1, t2, t3⟩ := A.2 (b - 1) k (by omega) hk
    have t4 : S 4 (3 * (b - 1) + k) ≤ S 15 (3 * (b - 1) + k) := by rw [t2]; split <;> omega
    have r4 : rd (M.1 53) 18 (iI (3 * (b : Int) + k - 3)) = some (iI (S 4 (3 * (b - 1) + k))) := h.rd 4 (3 * (b - 1) + k) (fx 4 rfl) (by decide) (by simp only [szX]; omega) (by simp only [ixX]; omega)
    have c0 : (0 < iI (S 4 (3 * (b - 1) + k))) ↔ 0 < S 4 (3 * (b - 1) + k) := by rw [l0]; exact iI_lt (by omega) (by omega) (by omega) (by omega)
    rw [r4, Option.bind_some]
    by_cases e2 : 0 < S 4 (3 * (b - 1) + k)
    · rw [if_pos (c0.mpr e2), rj, if_pos (Or.inr e2)]
    · rw [if_neg (fun q => e2 (c0.mp q)), if_neg (fun q => q.elim e e2), l0]
theorem X_chosen_52 {C S : SS} {w : Nat → Int} {tt : Int} {M : Mm} {b : Nat} (hC : CfgX C M) (hO : CfgOk C) (h : RelX 52 S tt M) (hw : WyX 49 w M) (hW : WyOk C w) (hb : (b : Int) < C 0 1) (A : AvS C S) : f_L_chosen_52 (iI b) M = some (enX (beS C w S b (C 0 0).toNat)) := by
  have hb6 := sz6 hO hb
  have hk3 := hO.2.1
  have hk1 := hO.1
  have hr := hW.2
  obtain ⟨a1, a2, a3, a4, a5, a6⟩ := A.1 b hb
  have r2 : rd (M.1 56) 6 (iI (b : Int)) = some (iI (S 2 b)) := h.rd 2 b (fx 2 rfl) (by decide) hb6 rfl
  have hrule : M.1 49 2 = iI (w 36) := hw.2.2
  -- the loop, from 'ahead' on
  have main : ∀ ah : Int, 0 ≤ ah → ah ≤ 3 → (∀ i : Nat, i < (C 0 0).toNat → (ah + i) % C 0 0 = (kiS C w S b i : Int)) → lp_L_chosen_52_55 FW (iI b) (iI ah) (-2) 0 0 M = some (enX (beS C w S b (C 0 0).toNat)) := by
    intro ah h0 h3 hki
    refine loop_ex (σ := Int32 × Int32 × Int32) (γ := Option Int32) (fun n s => lp_L_chosen_52_55 n (iI b) (iI ah) s.1 s.2.1 s.2.2 M) (fun s => ∃ i : Nat, i ≤ (C 0 0).toNat ∧ s = (enX (beS C w S b i), iI (moX w S b (beS C w S b i)), iI (i : Int)) ∧ (w 36 ≠ 1 → beS C w S b i = none)) (fun s => (C 0 0).toNat - s.2.2.toNatClampNeg) (fun r => r = some (enX (beS C w S b (C 0 0).toNat))) ?_ FW (iI (-2), iI 0, iI 0) ⟨0, Nat.zero_le _, rfl, fun _ => rfl⟩ (FW_gt (by omega))
    rintro n _ ⟨i, hi, rfl, hno⟩
    dsimp only
    have cN : (iI (C 0 0) ≤ iI (i : Int)) ↔ C 0 0 ≤ (i : Int) := iI_le (by omega) (by omega) (by omega) (by omega)
    by_cases ei : i = (C 0 0).toNat
    · left
      show blp_L_chosen_52_55 (lp_L_chosen_52_55 n) (iI b) (iI ah) (enX (beS C w S b i)) (iI (moX w S b (beS C w S b i))) (iI (i : Int)) M = _
      unfold blp_L_chosen_52_55
      rw [hC.1, if_pos (cN.mpr (by omega)), ei]
    · have hlt : i < (C 0 0).toNat := by omega
      have hkl := kiS_lt (w := w) (S := S) (b := b) hO hlt
      have hkb : ((kiS C w S b i : Nat) : Int) < C 0 0 := by omega
      have ev : lp_L_chosen_52_55 (n + 1) (iI b) (iI ah) (enX (beS C w S b i)) (iI (moX w S b (beS C w S b i))) (iI (i : Int)) M = (if iI (if b = 0 ∨ 0 < S 4 (3 * (b - 1) + kiS C w S b i) then frS w S b (kiS C w S b i) else 0) ≤ 0 then j_L_chosen_52_111 (lp_L_chosen_52_55 n) (iI b) (iI ah) (enX (beS C w S b i)) (iI (moX w S b (beS C w S b i))) (iI (i : Int)) (iI (kiS C w S b i : Int)) (iI (if b = 0 ∨ 0 < S 4 (3 * (b - 1) + kiS C w S b i) then frS w S b (kiS C w S b i) else 0)) M else if iI (w 36) = 1 then j_L_chosen_52_111 (lp_L_chosen_52_55 n) (iI b) (iI ah) (enX (beS C w S b i)) (iI (moX w S b (beS C w S b i))) (iI (i : Int)) (iI (kiS C w S b i : Int)) (iI (if b = 0 ∨ 0 < S 4 (3 * (b - 1) + kiS C w S b i) then frS w S b (kiS C w S b i) else 0)) M else some (iI (kiS C w S b i : Int))) := by
        show blp_L_chosen_52_55 (lp_L_chosen_52_55 n) (iI b) (iI ah) (enX (beS C w S b i)) (iI (moX w S b (beS C w S b i))) (iI (i : Int)) M = _
        unfold blp_L_chosen_52_55
        rw [hC.1, if_neg (fun q => by have := cN.mp q; omega), iI_add, P_rem (by omega) (by omega) (by omega) (by omega), Option.bind_some, hki i hlt, X_freeIf_52 hO h hw hb hkb A, Option.bind_some, hrule]
      have fk : ∀ q : Nat, (q : Int) < C 0 0 → -9 ≤ frS w S b q ∧ frS w S b q ≤ 9 := by
        intro q hq
        obtain ⟨s1, s2, s3⟩ := A.2 b q hb hq
        obtain ⟨w1, w2, -⟩ := hW.1 b q hb hq
        unfold frS
        have : S 4 (3 * b + q) ≤ S 15 (3 * b + q) := by rw [s2]; split <;> omega
        omega
      have fki := fk _ hkb
      have mo : 0 ≤ moX w S b (beS C w S b i) ∧ moX w S b (beS C w S b i) ≤ 9 := by
        cases hq : beS C w S b i with
        | none => exact ⟨Int.le_refl _, by show (0 : Int) ≤ 9; decide⟩
        | some q =>
          have l1 := beS_lt hO i hi q hq
          have av := beS_av i q hq
          have := fk q (by omega)
          show 0 ≤ frS w S b q ∧ frS w S b q ≤ 9
          have := av.1
          omega
      have nx : ∀ (be : Option Nat), beS C w S b (i + 1) = be → (w 36 ≠ 1 → be = none) → ∃ s' : Int32 × Int32 × Int32, lp_L_chosen_52_55 n (iI b) (iI ah) (enX be) (iI (moX w S b be)) (iI (i : Int) + 1) M = lp_L_chosen_52_55 n (iI b) (iI ah) s'.1 s'.2.1 s'.2.2 M ∧ (∃ i2 : Nat, i2 ≤ (C 0 0).toNat ∧ s' = (enX (beS C w S b i2), iI (moX w S b (beS C w S b i2)), iI (i2 : Int)) ∧ (w 36 ≠ 1 → beS C w S b i2 = none)) ∧ (C 0 0).toNat - s'.2.2.toNatClampNeg < (C 0 0).toNat - (iI (i : Int)).toNatClampNeg := by
        intro be hbe hno2
        refine ⟨(enX be, iI (moX w S b be), iI ((i + 1 : Nat) : Int)), ?_, ⟨i + 1, by omega, by rw [hbe], by rw [hbe]; exact hno2⟩, ?_⟩
        · rw [l1, iI_add]; rfl
        · dsimp only
          rw [iI_clamp (by omega) (by omega), iI_clamp (by omega) (by omega)]
          omega
      rw [ev]
      by_cases av : avS w S b (kiS C w S b i)
      · have e1 : (if b = 0 ∨ 0 < S 4 (3 * (b - 1) + kiS C w S b i) then frS w S b (kiS C w S b i) else 0) = frS w S b (kiS C w S b i) := if_pos av.2
        have av1 := av.1
        rw [e1]
        have c1 : ¬ (iI (frS w S b (kiS C w S b i)) ≤ 0) := by rw [l0, iI_le (by omega) (by omega) (by omega) (by omega)]; omega
        have c2 : (iI (w 36) = 1) ↔ w 36 = 1 := by rw [l1, iI_eq (by omega) (by omega) (by omega) (by omega)]
        rw [if_neg c1]
        by_cases er : w 36 = 1
        · right
          rw [if_pos (c2.mpr er)]
          unfold j_L_chosen_52_111 j_L_chosen_52_126
          have c3 : (iI (frS w S b (kiS C w S b i)) ≤ iI (moX w S b (beS C w S b i))) ↔ frS w S b (kiS C w S b i) ≤ moX w S b (beS C w S b i) := iI_le (by omega) (by omega) (by omega) (by omega)
          cases hq : beS C w S b i with
          | none =>
            rw [hq] at c3
            have hbe : beS C w S b (i + 1) = some (kiS C w S b i) := by
              show (if avS w S b (kiS C w S b i) then _ else _) = _
              rw [if_pos av, hq]
            rw [if_neg (fun z => by have := c3.mp z; have e9 : moX w S b none = 0 := rfl; omega)]
            exact nx _ hbe (fun z => absurd er z)
          | some q =>
            rw [hq] at c3
            have hbe : beS C w S b (i + 1) = if w 36 = 1 ∧ frS w S b q < frS w S b (kiS C w S b i) then some (kiS C w S b i) else some q := by
              show (if avS w S b (kiS C w S b i) then _ else _) = _
              rw [if_pos av, hq]
            by_cases e4 : frS w S b q < frS w S b (kiS C w S b i)
            · rw [if_pos ⟨er, e4⟩] at hbe
              rw [if_neg (fun z => by have := c3.mp z; have e9 : moX w S b (some q) = frS w S b q := rfl; omega)]
              exact nx _ hbe (fun z => absurd er z)
            · rw [if_neg (fun z => e4 z.2)] at hbe
              rw [if_pos (c3.mpr (by show _ ≤ frS w S b q; omega))]
              exact nx _ hbe (fun z => absurd er z)
        · left
          rw [if_neg (fun q => er (c2.mp q))]
          have hq := hno er
          have hbe : beS C w S b (i + 1) = some (kiS C w S b i) := by
            show (if avS w S b (kiS C w S b i) then _ else _) = _
            rw [if_pos av, hq]
          have := beS_stay er hbe ((C 0 0).toNat - (i + 1))
          rw [show i + 1 + ((C 0 0).toNat - (i + 1)) = (C 0 0).toNat by omega] at this
          rw [this]
          rfl
      · right
        have e1 : (if b = 0 ∨ 0 < S 4 (3 * (b - 1) + kiS C w S b i) then frS w S b (kiS C w S b i) else 0) ≤ 0 := by
          by_cases z : b = 0 ∨ 0 < S 4 (3 * (b - 1) + kiS C w S b i)
          · rw [if_pos z]
            exact Int.not_lt.mp (fun q => av ⟨q, z⟩)
          · rw [if_neg z]; exact Int.le_refl 0
        have e1' : -9 ≤ (if b = 0 ∨ 0 < S 4 (3 * (b - 1) + kiS C w S b i) then frS w S b (kiS C w S b i) else 0) := by split <;> omega
        have hbe : beS C w S b (i + 1) = beS C w S b i := by
          show (if avS w S b (kiS C w S b i) then _ else _) = _
          rw [if_neg av]
        generalize (if b = 0 ∨ 0 < S 4 (3 * (b - 1) + kiS C w S b i) then frS w S b (kiS C w S b i) else 0) = v at e1 e1' ⊢
        have c1 : iI v ≤ 0 := by rw [l0, iI_le (by omega) (by omega) (by omega) (by omega)]; exact e1
        have c3 : iI v ≤ iI (moX w S b (beS C w S b i)) := by rw [iI_le (by omega) (by omega) (by omega) (by omega)]; omega
        rw [if_pos c1]
        unfold j_L_chosen_52_111 j_L_chosen_52_126
        rw [if_pos c3]
        exact nx _ hbe hno
  have c2 : (iI (w 36) = 2) ↔ w 36 = 2 := by rw [l2, iI_eq (by omega) (by omega) (by omega) (by omega)]
  have c3 : (iI (S 2 b) = -2) ↔ S 2 b = -2 := by rw [lm2, iI_eq (by omega) (by omega) (by omega) (by omega)]
  have m0 : ¬ (w 36 = 2 ∧ S 2 b ≠ -2) → lp_L_chosen_52_55 FW (iI b) 0 (-2) 0 0 M = some (enX (beS C w S b (C 0 0).toNat)) := by
    intro hn
    have := main 0 (by omega) (by omega) (fun i hi => by
      unfold kiS
      rw [if_neg hn, Int.zero_add, Int.emod_eq_of_lt (by omega) (by omega)])
    rw [← l0] at this
    exact this
  unfold f_L_chosen_52
  rw [hrule]
  by_cases e2 : w 36 = 2
  · rw [if_pos (c2.mpr e2), r2, Option.bind_some]
    by_cases e3 : S 2 b = -2
    · rw [if_pos (c3.mpr e3)]
      unfold j_L_chosen_52_26 j_L_chosen_52_27
      rw [if_pos rfl]
      unfold j_L_chosen_52_44
      exact m0 (fun z => z.2 e3)
    · rw [if_neg (fun q => e3 (c3.mp q))]
      unfold j_L_chosen_52_27
      rw [if_neg (show ¬ (1 : Int32) = 0 by decide), r2, Option.bind_some]
      unfold j_L_chosen_52_44
      rw [l1, iI_add]
      refine main (S 2 b + 1) (by omega) (by omega) (fun i hi => ?_)
      unfold kiS
      rw [if_pos ⟨e2, e3⟩]
      have : S 2 b + 1 + (i : Int) = (((S 2 b).toNat + 1 + i : Nat) : Int) := by omega
      rw [this, Int.natCast_emod, show (((C 0 0).toNat : Nat) : Int) = C 0 0 by omega]
  · rw [if_neg (fun q => e2 (c2.mp q))]
    unfold j_L_chosen_52_26 j_L_chosen_52_27
    rw [if_pos rfl]
    unfold j_L_chosen_52_44
    exact m0 (fun z => e2 z.1)

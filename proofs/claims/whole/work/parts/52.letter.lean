/-! longs -/
theorem bmod64 {z : Int} (h1 : -9223372036854775808 ≤ z) (h2 : z < 9223372036854775808) : z.bmod Int64.size = z := by
  have : Int64.size = 18446744073709551616 := rfl
  rw [this, Int.bmod_def]
  split <;> omega
def jI (z : Int) : Int64 := Int64.ofInt z
theorem jI_toInt {z : Int} (h1 : -9223372036854775808 ≤ z) (h2 : z < 9223372036854775808) : (jI z).toInt = z := by
  unfold jI
  rw [Int64.toInt_ofInt]
  exact bmod64 h1 h2
theorem jI_add (a b : Int) : jI a + jI b = jI (a + b) := (Int64.ofInt_add a b).symm
theorem jI_sub (a b : Int) : jI a - jI b = jI (a - b) := (Int64.ofInt_sub a b).symm
theorem jI_mul (a b : Int) : jI a * jI b = jI (a * b) := (Int64.ofInt_mul a b).symm
theorem jI_eq {a b : Int} (ha : -9223372036854775808 ≤ a) (ha2 : a < 9223372036854775808) (hb : -9223372036854775808 ≤ b) (hb2 : b < 9223372036854775808) : (jI a = jI b) ↔ a = b := by
  rw [← Int64.toInt_inj, jI_toInt ha ha2, jI_toInt hb hb2]
theorem jI_div {a b : Int} (ha : 0 ≤ a) (ha2 : a < 9223372036854775808) (hb : 0 < b) (hb2 : b < 9223372036854775808) : jI a / jI b = jI (a / b) := by
  rw [← Int64.toInt_inj, Int64.toInt_div, jI_toInt (by omega) (by omega), jI_toInt (by omega) (by omega)]
  have h1 : a / b ≤ a := Int.ediv_le_self b ha
  have h0 : 0 ≤ a / b := Int.ediv_nonneg ha (by omega)
  rw [jI_toInt (by omega) (by omega), Int.tdiv_eq_ediv_of_nonneg ha]
  exact bmod64 (by omega) (by omega)
theorem dvL_jI {a b : Int} (ha : 0 ≤ a) (ha2 : a < 9223372036854775808) (hb : 0 < b) (hb2 : b < 9223372036854775808) : dvL (jI a) (jI b) = some (jI (a / b)) := by
  unfold dvL
  have hb0 : ¬ jI b = 0 := by rw [show (0 : Int64) = jI 0 from rfl, jI_eq (by omega) (by omega) (by omega) (by omega)]; omega
  rw [if_neg hb0, jI_div ha ha2 hb hb2]
theorem rmL_jI {a b : Int} (ha : 0 ≤ a) (ha2 : a < 9223372036854775808) (hb : 0 < b) (hb2 : b < 9223372036854775808) : rmL (jI a) (jI b) = some (jI (a % b)) := by
  unfold rmL
  have hb0 : ¬ jI b = 0 := by rw [show (0 : Int64) = jI 0 from rfl, jI_eq (by omega) (by omega) (by omega) (by omega)]; omega
  rw [if_neg hb0, jI_div ha ha2 hb hb2, jI_mul, jI_sub, Int.emod_def, Int.mul_comm]
theorem jI_toI32 (z : Int) : Int64.toInt32 (jI z) = iI z := by
  unfold jI iI
  rw [Int64.toInt32_ofInt]
theorem jI_lt {a b : Int} (ha : -9223372036854775808 ≤ a) (ha2 : a < 9223372036854775808) (hb : -9223372036854775808 ≤ b) (hb2 : b < 9223372036854775808) : (jI a < jI b) ↔ a < b := by
  rw [Int64.lt_iff_toInt_lt, jI_toInt ha ha2, jI_toInt hb hb2]
theorem cmp0 {a : Int} (ha : 0 ≤ a) (ha2 : a < 9223372036854775808) : (lg_cmp (jI a) 0 ≤ 0) ↔ a = 0 := by
  unfold lg_cmp
  have c : (jI a > 0) ↔ 0 < a := by rw [show (0 : Int64) = jI 0 from rfl]; exact jI_lt (by omega) (by omega) (by omega) (by omega)
  have c2 : (jI a = 0) ↔ a = 0 := by rw [show (0 : Int64) = jI 0 from rfl]; exact jI_eq (by omega) (by omega) (by omega) (by omega)
  by_cases e : a = 0
  · rw [if_neg (fun q => by have := c.mp q; omega), if_pos (c2.mpr e)]; exact ⟨fun _ => e, fun _ => by decide⟩
  · rw [if_pos (c.mpr (by omega))]; exact ⟨fun q => absurd q (by decide), fun q => absurd q e⟩
theorem rdL_iI {f : Nat → Int64} {n : Nat} {z : Int} (h1 : 0 ≤ z) (h2 : z < n) (hn : (n : Int) < 2147483648) : rdL f n (iI z) = some (f z.toNat) := by
  unfold rdL
  have hz : (0 : Int32) ≤ iI z := (iI_le (a := 0) (by omega) (by omega) (by omega) (by omega)).mpr h1
  rw [iI_clamp h1 (by omega), if_pos ⟨hz, by omega⟩]
/-! names as numbers -/
theorem wd_bd {l : Nat → Int} {z : Nat} (h : ∀ j, j < z → 0 ≤ l j ∧ l j ≤ 25) : ∀ n, n ≤ z → 0 ≤ wdS l n ∧ wdS l n < 32 ^ n ∧ (0 < n → 0 < wdS l n)
  | 0, _ => ⟨Int.le_refl _, (by decide : (0 : Int) < 32 ^ 0), fun q => absurd q (by decide)⟩
  | n + 1, hn => by
    obtain ⟨a, b, c⟩ := wd_bd h n (by omega)
    have q := h n (by omega)
    have p : (32 : Int) ^ (n + 1) = 32 ^ n * 32 := Int.pow_succ 32 n
    show 0 ≤ wdS l n * 32 + l n + 1 ∧ wdS l n * 32 + l n + 1 < 32 ^ (n + 1) ∧ (0 < n + 1 → 0 < wdS l n * 32 + l n + 1)
    omega
theorem wd_b6 {l : Nat → Int} {z : Nat} (hz : z ≤ 6) (h : ∀ j, j < z → 0 ≤ l j ∧ l j ≤ 25) (n : Nat) (hn : n ≤ z) : 0 ≤ wdS l n ∧ wdS l n < 1073741824 ∧ (0 < n → 0 < wdS l n) := by
  obtain ⟨a, b, c⟩ := wd_bd h n hn
  refine ⟨a, ?_, c⟩
  have e : (32 : Int) ^ n ≤ 1073741824 := by
    have q : n = 0 ∨ n = 1 ∨ n = 2 ∨ n = 3 ∨ n = 4 ∨ n = 5 ∨ n = 6 := by omega
    rcases q with rfl | rfl | rfl | rfl | rfl | rfl | rfl <;> decide
  omega
theorem wd_div {l : Nat → Int} {n : Nat} (h : 0 ≤ l n ∧ l n ≤ 25) : wdS l (n + 1) / 32 = wdS l n ∧ wdS l (n + 1) % 32 = l n + 1 := by
  show (wdS l n * 32 + l n + 1) / 32 = _ ∧ (wdS l n * 32 + l n + 1) % 32 = _
  omega
theorem M_let1 {l : Nat → Int} {z : Nat} {M : Mm} {x3 : Int32} {x4 : Int64} (hz : z ≤ 6) (h : ∀ j, j < z → 0 ≤ l j ∧ l j ≤ 25) : lp_M_letter_0_61 FW x3 x4 0 (jI (wdS l z)) M = j_M_letter_0_82 x3 x4 (iI z) M := by
  have loop := loop_up (σ := Int32 × Int64) (γ := Option (Int32 × Mm)) (fun f s => lp_M_letter_0_61 f x3 x4 s.1 s.2 M) z (fun i s => s.1 = iI (i : Int) ∧ s.2 = jI (wdS l (z - i))) (fun s => j_M_letter_0_82 x3 x4 s.1 M) ?_ ?_ FW (FW_gt (by omega)) (iI 0, jI (wdS l z)) ⟨rfl, rfl⟩
  · obtain ⟨s, ⟨e1, -⟩, e⟩ := loop
    rw [l0]
    exact e.trans (by rw [e1])
  · rintro f i ⟨a, b⟩ hi ⟨ea, eb⟩
    dsimp only at ea eb
    subst ea; subst eb
    obtain ⟨m, hm⟩ : ∃ m, z - i = m + 1 := ⟨z - i - 1, by omega⟩
    obtain ⟨q1, q2, q3⟩ := wd_b6 hz h (z - i) (by omega)
    refine ⟨(iI ((i + 1 : Nat) : Int), jI (wdS l (z - (i + 1)))), ?_, rfl, rfl⟩
    show blp_M_letter_0_61 (lp_M_letter_0_61 f) x3 x4 (iI (i : Int)) (jI (wdS l (z - i))) M = lp_M_letter_0_61 f x3 x4 _ _ M
    unfold blp_M_letter_0_61
    have c := cmp0 (a := wdS l (z - i)) q1 (by omega)
    rw [if_neg (fun q => by have := c.mp q; have := q3 (by omega); omega), show (32 : Int64) = jI 32 from rfl, dvL_jI q1 (by omega) (by omega) (by omega), Option.bind_some, hm, (wd_div (h m (by omega))).1, l1, iI_add, show z - (i + 1) = m by omega]
    rfl
  · rintro f ⟨a, b⟩ ⟨ea, eb⟩
    dsimp only at ea eb
    subst ea; subst eb
    show blp_M_letter_0_61 (lp_M_letter_0_61 f) x3 x4 (iI (z : Int)) (jI (wdS l (z - z))) M = _
    unfold blp_M_letter_0_61
    rw [show z - z = 0 by omega]
    have c := cmp0 (a := wdS l 0) (Int.le_refl 0) (by decide : (0 : Int) < 9223372036854775808)
    rw [if_pos (c.mpr rfl)]
theorem M_let2 {l : Nat → Int} {z c : Nat} {M : Mm} (hz : z ≤ 6) (hc : c < z) (h : ∀ j, j < z → 0 ≤ l j ∧ l j ≤ 25) : lp_M_letter_0_107 FW (iI c) (jI (wdS l z)) (iI ((z : Int) - 1)) M = some (iI (l c), M) := by
  have loop := loop_up (σ := Int64 × Int32) (γ := Option (Int32 × Mm)) (fun f s => lp_M_letter_0_107 f (iI c) s.1 s.2 M) (z - 1 - c) (fun i s => s.1 = jI (wdS l (z - i)) ∧ s.2 = iI ((z : Int) - 1 - i)) (fun _ => some (iI (l c), M)) ?_ ?_ FW (FW_gt (by omega)) (jI (wdS l z), iI ((z : Int) - 1)) ⟨rfl, by dsimp only; congr 1; omega⟩
  · obtain ⟨s, -, e⟩ := loop
    exact e
  · rintro f i ⟨a, b⟩ hi ⟨ea, eb⟩
    dsimp only at ea eb
    subst ea; subst eb
    obtain ⟨m, hm⟩ : ∃ m, z - i = m + 1 := ⟨z - i - 1, by omega⟩
    obtain ⟨q1, q2, q3⟩ := wd_b6 hz h (z - i) (by omega)
    refine ⟨(jI (wdS l (z - (i + 1))), iI ((z : Int) - 1 - ((i + 1 : Nat) : Int))), ?_, rfl, rfl⟩
    show blp_M_letter_0_107 (lp_M_letter_0_107 f) (iI c) (jI (wdS l (z - i))) (iI ((z : Int) - 1 - i)) M = lp_M_letter_0_107 f (iI c) _ _ M
    unfold blp_M_letter_0_107
    have c0 : ¬ (iI ((z : Int) - 1 - i) ≤ iI (c : Int)) := by rw [iI_le (by omega) (by omega) (by omega) (by omega)]; omega
    rw [if_neg c0, show (32 : Int64) = jI 32 from rfl, dvL_jI q1 (by omega) (by omega) (by omega), Option.bind_some, hm, (wd_div (h m (by omega))).1, lm1, iI_add, show z - (i + 1) = m by omega, show (z : Int) - 1 - i + -1 = (z : Int) - 1 - ((i + 1 : Nat) : Int) by omega]
  · rintro f ⟨a, b⟩ ⟨ea, eb⟩
    dsimp only at ea eb
    subst ea; subst eb
    obtain ⟨q1, q2, q3⟩ := wd_b6 hz h (c + 1) (by omega)
    show blp_M_letter_0_107 (lp_M_letter_0_107 f) (iI c) (jI (wdS l (z - (z - 1 - c)))) (iI ((z : Int) - 1 - ((z - 1 - c : Nat) : Int))) M = _
    unfold blp_M_letter_0_107
    have c0 : iI ((z : Int) - 1 - ((z - 1 - c : Nat) : Int)) ≤ iI (c : Int) := (iI_le (by omega) (by omega) (by omega) (by omega)).mpr (by omega)
    rw [if_pos c0, show z - (z - 1 - c) = c + 1 by omega, show (32 : Int64) = jI 32 from rfl, rmL_jI q1 (by omega) (by omega) (by omega), Option.bind_some, (wd_div (h c hc)).2, jI_toI32, l1, iI_sub, show l c + 1 - 1 = l c by omega]
/-- where letter throws -/
def LT (p0 p1 p2 : Int32) (X : Mm) : Prop := (if p0 = 0 then f_P_isBench_0 p1 X else f_P_isKind_0 p1 X) = some 0 ∨ ((if p0 = 0 then f_P_isBench_0 p1 X else f_P_isKind_0 p1 X) = some 1 ∧ ∃ z, rd (X.1 10) 9 (if p0 = 0 then 3 + p1 else p1) = some z ∧ f_P_within p2 (z - 1) = some 0)
theorem M_let0 {X M : Mm} (h : Rel X M) (x3 : Int32) : ∃ N, j_M_letter_0_54 x3 0 M = some (0, N) ∧ N.1 0 0 = 1 ∧ Rel X N := by
  have e := M_let1 (l := fun _ => 0) (z := 0) (M := M) (x3 := x3) (x4 := 0) (by omega) (fun j hj => absurd hj (by omega))
  refine ⟨u1 M 0 0 1, ?_, by rw [u1_at, if_pos ⟨rfl, rfl⟩], h.th 1⟩
  unfold j_M_letter_0_54
  have e' : lp_M_letter_0_61 FW x3 0 0 0 M = j_M_letter_0_82 x3 0 (iI ((0 : Nat) : Int)) M := e
  rw [e']
  unfold j_M_letter_0_82
  rw [in_wi, l1, iI_sub]
  rcases wi (p := x3) (n := ((0 : Nat) : Int) - 1) (by omega) (by omega) with ⟨b, -, hb, -⟩ | ⟨e2, -⟩
  · omega
  · rw [e2, Option.bind_some, if_pos rfl, Option.bind_some, ← l1]
theorem let_in {X M : Mm} (h : Rel X M) {z s : Nat} {l : Nat → Int} {v : Int64} (x3 : Int32) (hs : s < 9) (hN : NmR z l s X v) : (∃ r, j_P_letter_0_42 x3 (iI s) X = some r ∧ j_M_letter_0_52 x3 v M = some (r, M)) ∨ ((∃ q, rd (X.1 10) 9 (iI s) = some q ∧ f_P_within x3 (q - 1) = some 0) ∧ ∃ N, j_M_letter_0_52 x3 v M = some (0, N) ∧ N.1 0 0 = 1 ∧ Rel X N) := by
  obtain ⟨z1, z2, z3, z4, z5⟩ := hN
  have hl : ∀ j, j < z → 0 ≤ l j ∧ l j ≤ 25 := fun j hj => ⟨(z4 j hj).1, (z4 j hj).2.1⟩
  have e : j_M_letter_0_52 x3 v M = j_M_letter_0_82 x3 (jI (wdS l z)) (iI z) M := by
    unfold j_M_letter_0_52 j_M_letter_0_54
    rw [z5]
    exact M_let1 z2 hl
  have r : rd (X.1 10) 9 (iI (s : Int)) = some (iI z) := by rw [rd_iI (by omega) (by omega) (by omega), Int.toNat_natCast, z3]
  rw [e]
  unfold j_P_letter_0_42 j_M_letter_0_82
  have iz : iI (z : Int) - 1 = iI ((z : Int) - 1) := by rw [l1, iI_sub]
  rw [r, Option.bind_some, in_wi, iz]
  rcases wi (p := x3) (n := (z : Int) - 1) (by omega) (by omega) with ⟨c, rfl, hc, e2⟩ | ⟨e2, -⟩
  · left
    have r2 : rd (X.1 9) 54 (iI (6 * (s : Int) + c)) = some (iI (l c)) := by
      rw [rd_iI (by omega) (by omega) (by omega), show (6 * (s : Int) + c).toNat = 6 * s + c by omega, (z4 c (by omega)).2.2]
    refine ⟨iI (l c), ?_, ?_⟩
    · rw [e2, Option.bind_some, if_neg n10, l6, iI_mul, iI_add, r2]; rfl
    · rw [e2, Option.bind_some, if_neg n10]; exact M_let2 z2 (by omega) hl
  · right
    refine ⟨⟨iI z, rfl, by rw [iz]; exact e2⟩, u1 M 0 0 1, ?_, by rw [u1_at, if_pos ⟨rfl, rfl⟩], h.th 1⟩
    rw [e2, Option.bind_some, if_pos rfl, Option.bind_some]
theorem R_letter {X M : Mm} (h0 : Rel X M) (p0 p1 p2 : Int32) : (∃ r N, f_P_letter_0 p0 p1 p2 X = some r ∧ f_M_letter_0 p0 p1 p2 M = some (r, N) ∧ N.1 0 0 = 0 ∧ Rel X N) ∨ (LT p0 p1 p2 X ∧ ∃ N, f_M_letter_0 p0 p1 p2 M = some (0, N) ∧ N.1 0 0 = 1 ∧ Rel X N) := by
  unfold f_M_letter_0
  rw [Option.bind_some]
  have h := h0.th 0
  have hz : (u1 M 0 0 0).1 0 0 = 0 := by rw [u1_at, if_pos ⟨rfl, rfl⟩]
  generalize u1 M 0 0 0 = N at h hz
  unfold f_P_letter_0 LT j_M_letter_0_25
  by_cases e0 : p0 = 0
  · rw [if_pos e0, if_pos e0, if_pos e0, if_pos e0, in_wi, if_pos e0]
    rcases h.told with ⟨t1, t2⟩ | ⟨t1, t2, C, w, S, Q, T⟩
    · right
      have e1 : f_P_isBench_0 p1 X = some 0 := by unfold f_P_isBench_0; rw [if_pos t1]
      have e2 : f_P_within p1 (N.1 0 23 - 1) = some 0 := by
        rcases h.2.2.2.2 with ⟨-, -, -, q⟩ | ⟨q, -⟩
        · rw [q, l0, l1, iI_sub, ← l0]
          rcases wi (p := p1) (n := 0 - 1) (by omega) (by omega) with ⟨b, -, hb, -⟩ | ⟨e2, -⟩
          · omega
          · exact e2
        · exact absurd (q.symm.trans t1) n10
      obtain ⟨O, o1, o2, o3⟩ := M_let0 h p2
      rw [e1, e2, Option.bind_some, if_pos rfl]
      exact ⟨Or.inl rfl, O, o1, o2, o3⟩
    · have h1 := T.1.2.2.1
      have h6 := T.1.2.2.2.1
      have e23 : N.1 0 23 - 1 = iI (C 0 1 - 1) := by rw [T.2.2.1.2.1, l1, iI_sub]
      have e21 : X.1 2 1 - 1 = iI (C 0 1 - 1) := by rw [T.2.1.2.1, l1, iI_sub]
      unfold f_P_isBench_0
      rw [if_neg t1, e21, e23]
      rcases wi (p := p1) (n := C 0 1 - 1) (by omega) (by omega) with ⟨b, rfl, hb, e⟩ | ⟨e, -⟩
      · obtain ⟨z, l, hN⟩ := T.2.2.2.2.1.2 b (by omega)
        have r : rdL (N.2 3) 12 (iI (b : Int)) = some (N.2 3 b) := by rw [rdL_iI (by omega) (by omega) (by omega), Int.toNat_natCast]
        have e3 : 3 + iI (b : Int) = iI ((3 + b : Nat) : Int) := by rw [l3, iI_add]; rfl
        rw [e, Option.bind_some, if_neg n10, Option.bind_some, if_neg n10, Option.bind_some, if_neg n10, r, Option.bind_some]
        unfold j_P_letter_0_31
        rw [if_pos e0, e3]
        rcases let_in h p2 (by omega) hN with ⟨q, q1, q2⟩ | ⟨q1, O, o1, o2, o3⟩
        · exact Or.inl ⟨q, N, q1, q2, hz, h⟩
        · exact Or.inr ⟨Or.inr ⟨rfl, q1⟩, O, o1, o2, o3⟩
      · right
        obtain ⟨O, o1, o2, o3⟩ := M_let0 h p2
        rw [e, Option.bind_some, if_pos rfl, Option.bind_some, if_pos rfl]
        exact ⟨Or.inl rfl, O, o1, o2, o3⟩
  · rw [if_neg e0, if_neg e0, if_neg e0, if_neg e0, in_wi, if_neg e0]
    rcases h.told with ⟨t1, t2⟩ | ⟨t1, t2, C, w, S, Q, T⟩
    · right
      have e1 : f_P_isKind_0 p1 X = some 0 := by unfold f_P_isKind_0; rw [if_pos t1]
      have e2 : f_P_within p1 (N.1 0 22 - 1) = some 0 := by
        rcases h.2.2.2.2 with ⟨-, -, q, -⟩ | ⟨q, -⟩
        · rw [q, l0, l1, iI_sub, ← l0]
          rcases wi (p := p1) (n := 0 - 1) (by omega) (by omega) with ⟨b, -, hb, -⟩ | ⟨e2, -⟩
          · omega
          · exact e2
        · exact absurd (q.symm.trans t1) n10
      obtain ⟨O, o1, o2, o3⟩ := M_let0 h p2
      rw [e1, e2, Option.bind_some, if_pos rfl]
      exact ⟨Or.inl rfl, O, o1, o2, o3⟩
    · have h1 := T.1.1
      have h6 := T.1.2.1
      have e23 : N.1 0 22 - 1 = iI (C 0 0 - 1) := by rw [T.2.2.1.1, l1, iI_sub]
      have e21 : X.1 2 0 - 1 = iI (C 0 0 - 1) := by rw [T.2.1.1, l1, iI_sub]
      unfold f_P_isKind_0
      rw [if_neg t1, e21, e23]
      rcases wi (p := p1) (n := C 0 0 - 1) (by omega) (by omega) with ⟨b, rfl, hb, e⟩ | ⟨e, -⟩
      · obtain ⟨z, l, hN⟩ := T.2.2.2.2.1.1 b (by omega)
        have r : rdL (N.2 2) 6 (iI (b : Int)) = some (N.2 2 b) := by rw [rdL_iI (by omega) (by omega) (by omega), Int.toNat_natCast]
        rw [e, Option.bind_some, if_neg n10, Option.bind_some, if_neg n10, Option.bind_some, if_neg n10, r, Option.bind_some]
        unfold j_P_letter_0_31
        rw [if_neg e0]
        rcases let_in h p2 (by omega) hN with ⟨q, q1, q2⟩ | ⟨q1, O, o1, o2, o3⟩
        · exact Or.inl ⟨q, N, q1, q2, hz, h⟩
        · exact Or.inr ⟨Or.inr ⟨rfl, q1⟩, O, o1, o2, o3⟩
      · right
        obtain ⟨O, o1, o2, o3⟩ := M_let0 h p2
        rw [e, Option.bind_some, if_pos rfl, Option.bind_some, if_pos rfl]
        exact ⟨Or.inl rfl, O, o1, o2, o3⟩

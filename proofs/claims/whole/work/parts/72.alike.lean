/-! both kinds of sign say the same -/
theorem up_fr {f : Nat → SS → SS} {i j : Nat} (h : ∀ b S, f b S i j = S i j) (S : SS) : ∀ n, upF f n S i j = S i j
  | 0 => rfl
  | n + 1 => by show f n (upF f n S) i j = _; rw [h, up_fr h S n]
theorem dn_fr {f : Nat → SS → SS} {i j : Nat} (h : ∀ b S, f b S i j = S i j) : ∀ (n : Nat) (S : SS), dnF f n S i j = S i j
  | 0, _ => rfl
  | n + 1, S => by show dnF f n (f n S) i j = _; rw [dn_fr h n, h]
theorem min_56 {C S : SS} {w : Nat → Int} {i k : Nat} (hi : i = 5 ∨ i = 6) (hk : (C 0 0).toNat ≤ k) : minS C w S i k = S i k := by
  have n0 : i ≠ 0 := by omega
  have n1 : i ≠ 1 := by omega
  have n2 : i ≠ 2 := by omega
  have n3 : i ≠ 3 := by omega
  have n4 : i ≠ 4 := by omega
  have n7 : i ≠ 7 := by omega
  have n8 : i ≠ 8 := by omega
  have n9 : i ≠ 9 := by omega
  have na : i ≠ 10 := by omega
  have nb : i ≠ 11 := by omega
  have nc : i ≠ 12 := by omega
  have nd : i ≠ 13 := by omega
  have ne : i ≠ 14 := by omega
  have nf : i ≠ 15 := by omega
  have ng : i ≠ 16 := by omega
  have nh : i ≠ 17 := by omega
  unfold minS cntS chgS
  rw [uS_nf ne, up_fr (fun b S => by unfold peaS; rw [uS_nf nb]), up_fr (fun b S => by
    unfold talS
    split
    · rw [uS_nf n7]
    · split
      · rw [uS_nf n8]
      · split
        · split
          · rw [uS_nf ne, uS_nf ne, uS_nf n9]
          · rw [uS_nf n9]
        · rw [uS_nf na]), dn_fr (fun b S => by
    unfold staS
    split
    · cases beS C w S b (C 0 0).toNat with
      | none => rfl
      | some q =>
        dsimp only
        unfold begS takS
        rw [uS_nf n2, uS_nf nh, uS_nf n0, uS_nf n1, uS_nf nf]
        split
        · rfl
        · rw [uS_nf nf, uS_nf n4]
    · rfl)]
  have es : ∀ V : SS, srvS C (C 0 0).toNat V i k = V i k := fun V => by
    unfold srvS
    rw [if_neg (by omega), if_neg (by omega), if_neg (by omega), if_neg (by omega), if_neg (by omega)]
  rw [es, up_fr (fun b S => by
    unfold endS
    split
    · rfl
    · split
      · rw [uS_nf n0]
      · split
        · rw [uS_nf nh, uS_nf n0, uS_nf n3, uS_nf n4]
        · rw [uS_nf n1, uS_nf n0, uS_nf nh, uS_nf n3, uS_nf n4])]
  unfold ageS
  rw [if_neg (by omega)]
theorem pa_56 {C : SS} {w : Nat → Int} {i k : Nat} (hi : i = 5 ∨ i = 6) (hk : (C 0 0).toNat ≤ k) : ∀ n, itS C w n (bgS C (fun _ => 0)) i k = 0
  | 0 => by
    show bgS C (fun _ => 0) i k = 0
    rw [bg_0]
    unfold stS
    rw [if_neg (by omega), if_neg (by omega), if_neg (by omega)]
  | n + 1 => by
    show minS C w (itS C w n (bgS C (fun _ => 0))) i k = 0
    rw [min_56 hi hk]
    exact pa_56 hi hk n
/-- part by part -/
def CmS (C S T : SS) (m o : Int) : Prop := (∀ b : Nat, (b : Int) < C 0 1 → S 0 b = T 0 b ∧ S 2 b = T 2 b ∧ (S 0 b ≠ 0 → S 1 b - m = T 1 b - o) ∧ (C 5 b ≠ 0 → S 3 b % C 5 b = T 3 b % C 5 b)) ∧ (∀ c, c < 18 → S 4 c = T 4 c) ∧ (∀ k : Nat, (k : Int) < C 0 0 → S 16 k = T 16 k) ∧ ∀ i : Nat, (i : Int) < C 0 2 → (m - o) % C 7 i = 0
theorem ph_iff {e f a b : Int} : ((a - f) % e = (b - f) % e) ↔ (a - b) % e = 0 := by
  rw [Int.emod_sub_cancel_right, Int.emod_eq_emod_iff_emod_sub_eq_zero]
theorem sn_cm {C S T : SS} {m o : Nat} (hO : CfgOk C) (hS : SgOk C S) (hT : SgOk C T) (bS : Bd C S) (bT : Bd C T) (zS : ∀ i k, i = 5 ∨ i = 6 → (C 0 0).toNat ≤ k → S i k = 0) (zT : ∀ i k, i = 5 ∨ i = 6 → (C 0 0).toNat ≤ k → T i k = 0) (hm : S 14 0 = (m : Int) + 1) (ho : T 14 0 = (o : Int) + 1) : (∀ j, j < 49 → snS C S m j = snS C T o j) ↔ CmS C S T m o := by
  have hb6 := hO.2.2.2.1
  have hk3 := hO.2.1
  have hs4 := hO.2.2.2.2.2.1
  refine ⟨fun h => ⟨fun b hb => ?_, fun c hc => ?_, fun k hk => ?_, fun i hi => ?_⟩, fun h j hj => ?_⟩
  · have h0 := h (4 * b) (by omega)
    have h1 := h (4 * b + 1) (by omega)
    have h2 := h (4 * b + 2) (by omega)
    have h3 := h (4 * b + 3) (by omega)
    unfold snS at h0 h1 h2 h3
    rw [if_pos (show 4 * b < 24 by omega), if_pos (show 4 * b < 24 by omega), show 4 * b / 4 = b by omega, if_pos hb, if_pos hb, if_pos (show 4 * b % 4 = 0 by omega), if_pos (show 4 * b % 4 = 0 by omega)] at h0
    rw [if_pos (show 4 * b + 1 < 24 by omega), if_pos (show 4 * b + 1 < 24 by omega), show (4 * b + 1) / 4 = b by omega, if_pos hb, if_pos hb, if_neg (show ¬ (4 * b + 1) % 4 = 0 by omega), if_neg (show ¬ (4 * b + 1) % 4 = 0 by omega), if_pos (show (4 * b + 1) % 4 = 1 by omega), if_pos (show (4 * b + 1) % 4 = 1 by omega)] at h1
    rw [if_pos (show 4 * b + 2 < 24 by omega), if_pos (show 4 * b + 2 < 24 by omega), show (4 * b + 2) / 4 = b by omega, if_pos hb, if_pos hb, if_neg (show ¬ (4 * b + 2) % 4 = 0 by omega), if_neg (show ¬ (4 * b + 2) % 4 = 0 by omega), if_neg (show ¬ (4 * b + 2) % 4 = 1 by omega), if_neg (show ¬ (4 * b + 2) % 4 = 1 by omega), if_pos (show (4 * b + 2) % 4 = 2 by omega), if_pos (show (4 * b + 2) % 4 = 2 by omega)] at h2
    rw [if_pos (show 4 * b + 3 < 24 by omega), if_pos (show 4 * b + 3 < 24 by omega), show (4 * b + 3) / 4 = b by omega, if_pos hb, if_pos hb, if_neg (show ¬ (4 * b + 3) % 4 = 0 by omega), if_neg (show ¬ (4 * b + 3) % 4 = 0 by omega), if_neg (show ¬ (4 * b + 3) % 4 = 1 by omega), if_neg (show ¬ (4 * b + 3) % 4 = 1 by omega), if_neg (show ¬ (4 * b + 3) % 4 = 2 by omega), if_neg (show ¬ (4 * b + 3) % 4 = 2 by omega)] at h3
    have a := hS.1 b hb
    have c5 := hO.2.2.2.2.2.2.1 b
    refine ⟨h0, h2, fun n => ?_, fun n => ?_⟩
    · rw [if_neg (by omega), if_neg (by omega)] at h1; exact h1
    · rw [if_neg (by omega), if_neg (by omega)] at h3; exact h3
  · have := h (24 + c) (by omega)
    unfold snS at this
    rw [if_neg (show ¬ 24 + c < 24 by omega), if_neg (show ¬ 24 + c < 24 by omega), if_pos (show 24 + c < 42 by omega), if_pos (show 24 + c < 42 by omega), show 24 + c - 24 = c by omega] at this
    exact this
  · have := h (42 + k) (by omega)
    unfold snS at this
    rw [if_neg (show ¬ 42 + k < 24 by omega), if_neg (show ¬ 42 + k < 24 by omega), if_neg (show ¬ 42 + k < 42 by omega), if_neg (show ¬ 42 + k < 42 by omega), if_pos (show 42 + k < 45 by omega), if_pos (show 42 + k < 45 by omega), show 42 + k - 42 = k by omega] at this
    have a := (bS.2.2.2.1 k hk).2.2.2.1
    have b := (bT.2.2.2.1 k hk).2.2.2.1
    omega
  · have q := h (45 + i) (by omega)
    have x1 := hS.2.2.2.1 i hi
    have x2 := hT.2.2.2.1 i hi
    unfold snS at q
    rw [if_neg (show ¬ 45 + i < 24 by omega), if_neg (show ¬ 45 + i < 24 by omega), if_neg (show ¬ 45 + i < 42 by omega), if_neg (show ¬ 45 + i < 42 by omega), if_neg (show ¬ 45 + i < 45 by omega), if_neg (show ¬ 45 + i < 45 by omega), show 45 + i - 45 = i by omega, if_pos ⟨hi, by omega⟩, if_pos ⟨hi, by omega⟩] at q
    exact ph_iff.mp q
  · obtain ⟨h1, h2, h3, h4⟩ := h
    unfold snS
    by_cases j1 : j < 24
    · rw [if_pos j1, if_pos j1]
      by_cases hb : ((j / 4 : Nat) : Int) < C 0 1
      · rw [if_pos hb, if_pos hb]
        obtain ⟨q1, q2, q3, q4⟩ := h1 (j / 4) hb
        have c5 := hO.2.2.2.2.2.2.1 (j / 4)
        have a := hS.1 (j / 4) hb
        rw [q1, q2]
        rw [q1] at q3 a
        split
        · rfl
        · split
          · by_cases z : T 0 (j / 4) ≤ 0
            · rw [if_pos z, if_pos z]
            · rw [if_neg z, if_neg z]; exact q3 (by omega)
          · split
            · rfl
            · by_cases z : C 5 (j / 4) ≤ 0
              · rw [if_pos z, if_pos z]
              · rw [if_neg z, if_neg z]; exact q4 (by omega)
      · rw [if_neg hb, if_neg hb]
    · rw [if_neg j1, if_neg j1]
      by_cases j2 : j < 42
      · rw [if_pos j2, if_pos j2]; exact h2 _ (by omega)
      · rw [if_neg j2, if_neg j2]
        by_cases j3 : j < 45
        · rw [if_pos j3, if_pos j3]
          by_cases hk : ((j - 42 : Nat) : Int) < C 0 0
          · have a := (bS.2.2.2.1 (j - 42) hk).2.2.2.1
            have b := (bT.2.2.2.1 (j - 42) hk).2.2.2.1
            have := h3 (j - 42) hk
            omega
          · rw [zS 5 _ (Or.inl rfl) (by omega), zS 6 _ (Or.inr rfl) (by omega), zT 5 _ (Or.inl rfl) (by omega), zT 6 _ (Or.inr rfl) (by omega)]
        · rw [if_neg j3, if_neg j3]
          by_cases hi : ((j - 45 : Nat) : Int) < C 0 2
          · have x1 := hS.2.2.2.1 (j - 45) hi
            have x2 := hT.2.2.2.1 (j - 45) hi
            rw [if_pos ⟨hi, by omega⟩, if_pos ⟨hi, by omega⟩]
            exact ph_iff.mpr (h4 (j - 45) hi)
          · rw [if_neg (fun q => hi q.1), if_neg (fun q => hi q.1)]
theorem dg2 {K a b x y : Nat} (hx : x < K) (hy : y < K) (h : a * K + x = b * K + y) : a = b ∧ x = y := by
  have h1 : (a * K + x) / K = a := by rw [Nat.mul_comm, Nat.mul_add_div (by omega), Nat.div_eq_of_lt hx, Nat.add_zero]
  have h2 : (b * K + y) / K = b := by rw [Nat.mul_comm, Nat.mul_add_div (by omega), Nat.div_eq_of_lt hy, Nat.add_zero]
  have e : a = b := by rw [← h1, ← h2, h]
  subst e
  exact ⟨rfl, by omega⟩
theorem dg_iff {C S T : SS} {b : Nat} {m o : Nat} (hO : CfgOk C) (hS : SgOk C S) (hT : SgOk C T) (hm : S 14 0 = (m : Int) + 1) (ho : T 14 0 = (o : Int) + 1) (hb : (b : Int) < C 0 1) : dgB C S b = dgB C T b ↔ (S 0 b = T 0 b ∧ S 2 b = T 2 b ∧ (S 0 b ≠ 0 → S 1 b - m = T 1 b - o) ∧ (C 5 b ≠ 0 → S 3 b % C 5 b = T 3 b % C 5 b)) ∧ ∀ k, k < 3 → S 4 (3 * b + k) = T 4 (3 * b + k) := by
  obtain ⟨a1, a2, a3, a4, a5, a6, a7, a8⟩ := hS.1 b hb
  obtain ⟨c1, c2, c3, c4, c5, c6, c7, c8⟩ := hT.1 b hb
  have hb6 := sz6 hO hb
  have rS := rem_b (b := b) hO a7
  have rT := rem_b (b := b) hO c7
  have laS' : lasN S b < 4 := by unfold lasN; split <;> omega
  have leS' : lefN S b < 128 := by unfold lefN; split <;> omega
  have laT' : lasN T b < 4 := by unfold lasN; split <;> omega
  have leT' : lefN T b < 128 := by unfold lefN; split <;> omega
  have s0 := hS.2.1 (3 * b) (by omega)
  have s1 := hS.2.1 (3 * b + 1) (by omega)
  have s2 := hS.2.1 (3 * b + 2) (by omega)
  have t0 := hT.2.1 (3 * b) (by omega)
  have t1 := hT.2.1 (3 * b + 1) (by omega)
  have t2 := hT.2.1 (3 * b + 2) (by omega)
  have hc5 := hO.2.2.2.2.2.2.1 b
  have eA : lasN S b = lasN T b ↔ S 2 b = T 2 b := by
    unfold lasN
    split <;> split <;> omega
  have eR : remN C S b = remN C T b ↔ (C 5 b ≠ 0 → S 3 b % C 5 b = T 3 b % C 5 b) := by
    unfold remN
    split
    · rename_i z; exact ⟨fun _ q => absurd z q, fun _ => rfl⟩
    · rename_i z
      have m1 := Int.emod_nonneg (S 3 b) z
      have m2 := Int.emod_nonneg (T 3 b) z
      exact ⟨fun q _ => by omega, fun q => by have := q z; omega⟩
  have eL : S 0 b = T 0 b → (lefN S b = lefN T b ↔ (S 0 b ≠ 0 → S 1 b - m = T 1 b - o)) := by
    intro e
    unfold lefN
    rw [← e]
    split
    · rename_i z; exact ⟨fun _ q => absurd z q, fun _ => rfl⟩
    · rename_i z
      have := a4 z
      have := c4 (by omega)
      exact ⟨fun q _ => by omega, fun q => by have := q z; omega⟩
  unfold dgB
  constructor
  · intro h
    obtain ⟨h, g2⟩ := dg2 (by omega) (by omega) h
    obtain ⟨h, g1⟩ := dg2 (by omega) (by omega) h
    obtain ⟨h, g0⟩ := dg2 (by omega) (by omega) h
    obtain ⟨h, gr⟩ := dg2 (by omega) (by omega) h
    obtain ⟨h, gl⟩ := dg2 (by omega) (by omega) h
    obtain ⟨gd, ga⟩ := dg2 (by omega) (by omega) h
    have e0 : S 0 b = T 0 b := by omega
    refine ⟨⟨e0, eA.mp ga, (eL e0).mp gl, eR.mp gr⟩, fun k hk => ?_⟩
    have q : k = 0 ∨ k = 1 ∨ k = 2 := by omega
    rcases q with rfl | rfl | rfl
    · show S 4 (3 * b) = T 4 (3 * b); omega
    · omega
    · omega
  · rintro ⟨⟨e0, e1, e2, e3⟩, e4⟩
    rw [eA.mpr e1, (eL e0).mpr e2, eR.mpr e3, e0, show S 4 (3 * b) = T 4 (3 * b) from e4 0 (by omega), e4 1 (by omega), e4 2 (by omega)]
theorem wt_iff {S T : SS} : ∀ n : Nat, (∀ k, k < n → 0 ≤ S 16 k ∧ S 16 k < 1048576 ∧ 0 ≤ T 16 k ∧ T 16 k < 1048576) → (wtN S n = wtN T n ↔ ∀ k, k < n → S 16 k = T 16 k)
  | 0, _ => ⟨fun _ k hk => absurd hk (by omega), fun _ => rfl⟩
  | n + 1, h => by
    have ih := wt_iff n (fun k hk => h k (by omega))
    have b := h n (by omega)
    show wtN S n * 2 ^ 20 + (S 16 n).toNat = wtN T n * 2 ^ 20 + (T 16 n).toNat ↔ _
    constructor
    · intro q k hk
      obtain ⟨q1, q2⟩ := dg2 (by omega) (by omega) q
      by_cases e : k = n
      · subst e; omega
      · exact ih.mp q1 k (by omega)
    · intro q
      rw [ih.mpr (fun k hk => q k (by omega)), q n (by omega)]
theorem nx_iff {C : SS} {t u : Int} : ∀ n : Nat, (∀ i, i < n → 1 ≤ C 7 i ∧ C 7 i ≤ 99) → (nxN C t n = nxN C u n ↔ ∀ i, i < n → (t - u) % C 7 i = 0)
  | 0, _ => ⟨fun _ k hk => absurd hk (by omega), fun _ => rfl⟩
  | n + 1, h => by
    have ih := nx_iff (t := t) (u := u) n (fun k hk => h k (by omega))
    have b := h n (by omega)
    have m1 := Int.emod_nonneg (t - C 8 n) (show C 7 n ≠ 0 by omega)
    have m2 := Int.emod_nonneg (u - C 8 n) (show C 7 n ≠ 0 by omega)
    have m3 := Int.emod_lt_of_pos (t - C 8 n) (show 0 < C 7 n by omega)
    have m4 := Int.emod_lt_of_pos (u - C 8 n) (show 0 < C 7 n by omega)
    show nxN C t n * 2 ^ 10 + (C 7 n - (t - C 8 n) % C 7 n).toNat = nxN C u n * 2 ^ 10 + (C 7 n - (u - C 8 n) % C 7 n).toNat ↔ _
    constructor
    · intro q k hk
      obtain ⟨q1, q2⟩ := dg2 (by omega) (by omega) q
      by_cases e : k = n
      · subst e
        exact ph_iff.mp (show (t - C 8 k) % C 7 k = (u - C 8 k) % C 7 k by omega)
      · exact ih.mp q1 k (by omega)
    · intro q
      rw [ih.mpr (fun k hk => q k (by omega)), ph_iff.mpr (q n (by omega))]
theorem al_cm {C S T : SS} {m o : Nat} (hO : CfgOk C) (hS : SgOk C S) (hT : SgOk C T) (z4 : ∀ b k : Nat, b < 6 → k < 3 → ¬ ((b : Int) < C 0 1) → S 4 (3 * b + k) = 0 ∧ T 4 (3 * b + k) = 0) (hm : S 14 0 = (m : Int) + 1) (ho : T 14 0 = (o : Int) + 1) : alS C S T ↔ CmS C S T m o := by
  have hb1 := hO.2.2.1
  have hb6 := hO.2.2.2.1
  have hk1 := hO.1
  have hk3 := hO.2.1
  have hs0 := hO.2.2.2.2.1
  have hs4 := hO.2.2.2.2.2.1
  have w := wt_iff (S := S) (T := T) (C 0 0).toNat (fun k hk => by
    have a := hS.2.2.1 k (by omega)
    have b := hT.2.2.1 k (by omega)
    omega)
  have x := nx_iff (C := C) (t := S 14 0) (u := T 14 0) (C 0 2).toNat (fun i hi => by
    have := hO.2.2.2.2.2.2.2.2 i (by omega)
    omega)
  have et : S 14 0 - T 14 0 = (m : Int) - o := by omega
  rw [et] at x
  have dgs : (∀ j, j < 3 → rwB C S (C 0 1).toNat j = rwB C T (C 0 1).toNat j) ↔ ∀ b : Nat, (b : Int) < C 0 1 → dgB C S b = dgB C T b := by
    constructor
    · intro q b hb
      have := q (b / 2) (by omega)
      unfold rwB at this
      have d1 : (if 2 * (b / 2) < (C 0 1).toNat then dgB C S (2 * (b / 2)) else 0) < 2 ^ 32 := by
        split
        · exact Nat.lt_trans (dg_b hO hS (by omega)) (by decide)
        · decide
      have d2 : (if 2 * (b / 2) < (C 0 1).toNat then dgB C T (2 * (b / 2)) else 0) < 2 ^ 32 := by
        split
        · exact Nat.lt_trans (dg_b hO hT (by omega)) (by decide)
        · decide
      rw [Nat.add_comm, Nat.add_comm (if 2 * (b / 2) < (C 0 1).toNat then dgB C T (2 * (b / 2)) else 0)] at this
      obtain ⟨e1, e2⟩ := dg2 d1 d2 this
      rcases Nat.mod_two_eq_zero_or_one b with h | h
      · rw [if_pos (by omega), if_pos (by omega), show 2 * (b / 2) = b by omega] at e2; exact e2
      · rw [if_pos (by omega), if_pos (by omega), show 2 * (b / 2) + 1 = b by omega] at e1; exact e1
    · intro q j hj
      unfold rwB
      have e1 : (if 2 * j < (C 0 1).toNat then dgB C S (2 * j) else 0) = if 2 * j < (C 0 1).toNat then dgB C T (2 * j) else 0 := by
        split
        · exact q _ (by omega)
        · rfl
      have e2 : (if 2 * j + 1 < (C 0 1).toNat then dgB C S (2 * j + 1) else 0) = if 2 * j + 1 < (C 0 1).toNat then dgB C T (2 * j + 1) else 0 := by
        split
        · exact q _ (by omega)
        · rfl
      rw [e1, e2]
  have rows : alS C S T ↔ (∀ j, j < 3 → rwB C S (C 0 1).toNat j = rwB C T (C 0 1).toNat j) ∧ wtN S (C 0 0).toNat = wtN T (C 0 0).toNat ∧ nxN C (S 14 0) (C 0 2).toNat = nxN C (T 14 0) (C 0 2).toNat := by
    constructor
    · intro q
      refine ⟨fun j hj => ?_, ?_, ?_⟩
      · have := q j (by omega)
        unfold rwS at this
        rw [if_pos hj, if_pos hj] at this
        exact this
      · exact q 3 (by omega)
      · exact q 4 (by omega)
    · rintro ⟨q1, q2, q3⟩ j hj
      unfold rwS
      split
      · exact q1 j (by omega)
      · split
        · exact q2
        · exact q3
  rw [rows, dgs, w, x]
  constructor
  · rintro ⟨q1, q2, q3⟩
    refine ⟨fun b hb => ((dg_iff hO hS hT hm ho hb).mp (q1 b hb)).1, fun c hc => ?_, fun k hk => q2 k (by omega), fun i hi => q3 i (by omega)⟩
    by_cases hb : ((c / 3 : Nat) : Int) < C 0 1
    · have := ((dg_iff hO hS hT hm ho hb).mp (q1 _ hb)).2 (c % 3) (by omega)
      rw [show 3 * (c / 3) + c % 3 = c by omega] at this
      exact this
    · have := z4 (c / 3) (c % 3) (by omega) (by omega) hb
      rw [show 3 * (c / 3) + c % 3 = c by omega] at this
      rw [this.1, this.2]
  · rintro ⟨q1, q2, q3, q4⟩
    exact ⟨fun b hb => (dg_iff hO hS hT hm ho hb).mpr ⟨q1 b hb, fun k hk => q2 _ (by have := sz6 hO hb; omega)⟩, fun k hk => q3 k (by omega), fun i hi => q4 i (by omega)⟩
theorem sn_al {C : SS} {w : Nat → Int} {m o : Nat} (hO : CfgOk C) (hW : WyOk C w) (hm : m < 2000) (ho : o < 2000) (bm : bgC C ≤ m) (bo : bgC C ≤ o) : (∀ j, j < 49 → snS C (paS C w m) m j = snS C (paS C w o) o j) ↔ alS C (paS C w m) (paS C w o) := by
  obtain ⟨b1, e1⟩ := bd_pa hO hW (n := m + 1) (by omega)
  obtain ⟨b2, e2⟩ := bd_pa hO hW (n := o + 1) (by omega)
  have s1 := sg_pa hO hW hm bm
  have s2 := sg_pa hO hW ho bo
  rw [sn_cm (m := m) (o := o) hO s1 s2 b1 b2 (fun i k hi hk => pa_56 hi hk _) (fun i k hi hk => pa_56 hi hk _) (by show itS C w (m + 1) (bgS C (fun _ => 0)) 14 0 = _; rw [e1]; rfl) (by show itS C w (o + 1) (bgS C (fun _ => 0)) 14 0 = _; rw [e2]; rfl)]
  exact (al_cm (m := m) (o := o) hO s1 s2 (fun b k hb hk hn => ⟨(b1.2.2.2.2.2 b k hb hk (fun z => hn z.1)).1, (b2.2.2.2.2.2 b k hb hk (fun z => hn z.1)).1⟩) (by show itS C w (m + 1) (bgS C (fun _ => 0)) 14 0 = _; rw [e1]; rfl) (by show itS C w (o + 1) (bgS C (fun _ => 0)) 14 0 = _; rw [e2]; rfl)).symm

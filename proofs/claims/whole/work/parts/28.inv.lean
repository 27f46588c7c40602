theorem AvS_congr {C S S2 : SS} (A : AvS C S) (h0 : ∀ b : Nat, (b : Int) < C 0 1 → S2 0 b = S 0 b ∧ S2 1 b = S 1 b ∧ S2 2 b = S 2 b ∧ S2 17 b = S 17 b) (h1 : ∀ b k : Nat, (b : Int) < C 0 1 → (k : Int) < C 0 0 → S2 4 (3 * b + k) = S 4 (3 * b + k) ∧ S2 15 (3 * b + k) = S 15 (3 * b + k)) : AvS C S2 := by
  refine ⟨fun b hb => ?_, fun b k hb hk => ?_⟩
  · obtain ⟨e0, e1, e2, e3⟩ := h0 b hb
    rw [e0, e1, e2, e3]; exact A.1 b hb
  · obtain ⟨e0, e1, e2, e3⟩ := h0 b hb
    obtain ⟨f0, f1⟩ := h1 b k hb hk
    rw [e0, e2, f0, f1]; exact A.2 b k hb hk
theorem AvS_end {C S : SS} {b : Nat} (A : AvS C S) (hO : CfgOk C) (hb : (b : Int) < C 0 1) (hT : 0 ≤ S 14 0) (hT2 : S 14 0 ≤ 10000) : AvS C (endS C b S) := by
  unfold endS
  split
  · exact A
  rename_i h1
  have hk3 := hO.2.1
  obtain ⟨a1, a2, a3, a4, a5, a6⟩ := A.1 b hb
  have hB := hO.2.2.2.2.2.2.1 b
  split
  · rename_i h2
    refine ⟨fun b' hb' => ?_, fun b' k' hb' hk' => ?_⟩
    · have q := A.1 b' hb'
      simp only [uS]
      grind
    · have q := A.2 b' k' hb' hk'
      simp only [uS]
      grind
  · rename_i h2
    have e1 : S 0 b = 1 := by omega
    have e2 := a3 e1
    obtain ⟨k, hk⟩ : ∃ k : Nat, S 2 b = (k : Int) := ⟨(S 2 b).toNat, by omega⟩
    have hkk : (k : Int) < C 0 0 := by omega
    rw [hk, Int.toNat_natCast]
    split
    · refine ⟨fun b' hb' => ?_, fun b' k' hb' hk' => ?_⟩
      · have q := A.1 b' hb'
        simp only [uS]
        grind
      · have q := A.2 b' k' hb' hk'
        simp only [uS]
        grind
    · refine ⟨fun b' hb' => ?_, fun b' k' hb' hk' => ?_⟩
      · have q := A.1 b' hb'
        simp only [uS]
        grind
      · have q := A.2 b' k' hb' hk'
        simp only [uS]
        grind
theorem end_f {C S : SS} {b i j : Nat} (h : i ≠ 0 ∧ i ≠ 1 ∧ i ≠ 3 ∧ i ≠ 4 ∧ i ≠ 17) : endS C b S i j = S i j := by
  unfold endS
  split
  · rfl
  split
  · simp only [uS]; grind
  split
  · simp only [uS]; grind
  · simp only [uS]; grind
theorem end_b {C S : SS} {b i j : Nat} (h : i ≠ 4) (hj : j ≠ b) : endS C b S i j = S i j := by
  unfold endS
  split
  · rfl
  split
  · simp only [uS]; grind
  split
  · simp only [uS]; grind
  · simp only [uS]; grind
theorem beS_av {C : SS} {w : Nat → Int} {S : SS} {b : Nat} : ∀ n q, beS C w S b n = some q → avS w S b q := by
  intro n
  induction n with
  | zero => intro q h; cases h
  | succ n ih =>
    intro q h
    unfold beS at h
    split at h
    · rename_i av
      cases hb : beS C w S b n with
      | none => rw [hb] at h; cases h; exact av
      | some q2 =>
        rw [hb] at h
        dsimp only at h
        split at h
        · cases h; exact av
        · cases h; exact ih q hb
    · exact ih q h
theorem beS_none {C : SS} {w : Nat → Int} {S : SS} {b : Nat} : ∀ n, beS C w S b n = none → ∀ i, i < n → ¬ avS w S b (kiS C w S b i) := by
  intro n
  induction n with
  | zero => intro _ i hi; omega
  | succ n ih =>
    intro h i hi
    unfold beS at h
    split at h
    · cases hb : beS C w S b n with
      | none => rw [hb] at h; cases h
      | some q2 =>
        rw [hb] at h
        dsimp only at h
        split at h <;> cases h
    · rename_i av
      by_cases e : i = n
      · subst e; exact av
      · exact ih h i (by omega)
theorem AvS_srv {C S : SS} {n : Nat} (A : AvS C S) (hO : CfgOk C) (hn : (n : Int) ≤ C 0 0) (hc : ∀ k : Nat, (k : Int) < C 0 0 → 0 ≤ S 5 k + arS C k (S 14 0) - S 6 k) : AvS C (srvS C n S) := by
  refine ⟨fun b hb => ?_, fun b k hb hk => ?_⟩
  · have q := A.1 b hb
    have e0 : srvS C n S 0 b = S 0 b := by unfold srvS; grind
    have e1 : srvS C n S 1 b = S 1 b := by unfold srvS; grind
    have e2 : srvS C n S 2 b = S 2 b := by unfold srvS; grind
    have e3 : srvS C n S 17 b = S 17 b := by unfold srvS; grind
    rw [e0, e1, e2, e3]; exact q
  · have q := A.2 b k hb hk
    have e0 : srvS C n S 0 b = S 0 b := by unfold srvS; grind
    have e2 : srvS C n S 2 b = S 2 b := by unfold srvS; grind
    rw [e0, e2]
    have h1 := hO.2.2.1
    have hk3 := hO.2.1
    by_cases hl : b = (C 0 1).toNat - 1 ∧ k < n
    · have d0 : 0 ≤ dvS C S k ∧ dvS C S k ≤ S 4 (3 * b + k) := by
        unfold dvS
        have := hc k hk
        rw [← hl.1]
        omega
      have e4 : srvS C n S 4 (3 * b + k) = S 4 (3 * b + k) - dvS C S k := by
        unfold srvS
        rw [if_neg (by omega), if_neg (by omega), if_neg (by omega), if_pos ⟨Or.inl rfl, by omega, by omega⟩, show 3 * b + k - 3 * ((C 0 1).toNat - 1) = k by omega]
      have e15 : srvS C n S 15 (3 * b + k) = S 15 (3 * b + k) - dvS C S k := by
        unfold srvS
        rw [if_neg (by omega), if_neg (by omega), if_neg (by omega), if_pos ⟨Or.inr rfl, by omega, by omega⟩, show 3 * b + k - 3 * ((C 0 1).toNat - 1) = k by omega]
      rw [e4, e15]
      grind
    · have e4 : srvS C n S 4 (3 * b + k) = S 4 (3 * b + k) := by
        unfold srvS
        rw [if_neg (by omega), if_neg (by omega), if_neg (by omega), if_neg (by omega), if_neg (by omega)]
      have e15 : srvS C n S 15 (3 * b + k) = S 15 (3 * b + k) := by
        unfold srvS
        rw [if_neg (by omega), if_neg (by omega), if_neg (by omega), if_neg (by omega), if_neg (by omega)]
      rw [e4, e15]
      exact q
theorem sta_f {C S : SS} {w : Nat → Int} {b i j : Nat} (h : i ≠ 0 ∧ i ≠ 1 ∧ i ≠ 2 ∧ i ≠ 4 ∧ i ≠ 15 ∧ i ≠ 17) : staS C w b S i j = S i j := by
  unfold staS
  split
  · cases hbe : beS C w S b (C 0 0).toNat with
    | none => rfl
    | some k =>
      show begS C w b k S i j = S i j
      unfold begS takS
      by_cases eb : b = 0
      · rw [if_pos eb]; simp only [uS]; grind
      · rw [if_neg eb]; simp only [uS]; grind
  · rfl
theorem sta_b {C S : SS} {w : Nat → Int} {b i j : Nat} (h : i ≠ 4 ∧ i ≠ 15) (hj : j ≠ b) : staS C w b S i j = S i j := by
  unfold staS
  split
  · cases hbe : beS C w S b (C 0 0).toNat with
    | none => rfl
    | some k =>
      show begS C w b k S i j = S i j
      unfold begS takS
      by_cases eb : b = 0
      · rw [if_pos eb]; simp only [uS]; grind
      · rw [if_neg eb]; simp only [uS]; grind
  · rfl
theorem AvS_sta {C S : SS} {w : Nat → Int} {b : Nat} (A : AvS C S) (hO : CfgOk C) (hW : WyOk C w) (hb : (b : Int) < C 0 1) (hT : 0 ≤ S 14 0) (hT2 : S 14 0 ≤ 10000) : AvS C (staS C w b S) := by
  unfold staS
  split
  · rename_i h0
    split
    · exact A
    · rename_i k hk
      have hkl := beS_lt hO _ (Nat.le_refl _) k hk
      have hk0 : (k : Int) < C 0 0 := by omega
      have hk3 := hO.2.1
      have av := beS_av _ k hk
      have hw := hW.1 b k hb hk0
      have hB := hO.2.2.2.2.2.2.1 b
      have av1 := av.1
      unfold frS at av1
      have q0 := A.2 b k hb hk0
      unfold begS takS
      by_cases eb : b = 0
      · rw [if_pos eb]
        refine ⟨fun b' hb' => ?_, fun b' k' hb' hk' => ?_⟩
        · have q := A.1 b' hb'
          simp only [uS]
          grind
        · have q := A.2 b' k' hb' hk'
          simp only [uS]
          grind
      · rw [if_neg eb]
        have av2 : 0 < S 4 (3 * (b - 1) + k) := av.2.elim (fun e => absurd e eb) id
        have q1 := A.2 (b - 1) k (by omega) hk0
        refine ⟨fun b' hb' => ?_, fun b' k' hb' hk' => ?_⟩
        · have q := A.1 b' hb'
          simp only [uS]
          grind
        · have q := A.2 b' k' hb' hk'
          simp only [uS]
          grind
  · exact A
theorem tal_f {C S : SS} {w : Nat → Int} {b i j : Nat} (h : i ≠ 7 ∧ i ≠ 8 ∧ i ≠ 9 ∧ i ≠ 10 ∧ i ≠ 14) : talS C w b S i j = S i j := by
  unfold talS
  split
  · simp only [uS]; grind
  split
  · simp only [uS]; grind
  split
  · split
    · simp only [uS]; grind
    · simp only [uS]; grind
  · simp only [uS]; grind
theorem AvS_tal {C S : SS} {w : Nat → Int} {b : Nat} (A : AvS C S) : AvS C (talS C w b S) := by
  refine AvS_congr A (fun b' _ => ?_) (fun b' k' _ _ => ?_)
  · refine ⟨tal_f (by decide), tal_f (by decide), tal_f (by decide), tal_f (by decide)⟩
  · exact ⟨tal_f (by decide), tal_f (by decide)⟩
theorem AvS_pea {C S : SS} {b : Nat} (A : AvS C S) : AvS C (peaS C b S) := by
  refine AvS_congr A (fun b' _ => ?_) (fun b' k' _ _ => ?_)
  · unfold peaS; simp only [uS]; grind
  · unfold peaS; simp only [uS]; grind

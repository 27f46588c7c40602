/-! level 2: pure. iI z: the int of a mathematical number -/
def iI (z : Int) : Int32 := Int32.ofInt z
theorem bmod32 {z : Int} (h1 : -2147483648 ≤ z) (h2 : z < 2147483648) : z.bmod Int32.size = z := by
  have : Int32.size = 4294967296 := rfl
  rw [this, Int.bmod_def]
  split <;> omega
theorem iI_toInt {z : Int} (h1 : -2147483648 ≤ z) (h2 : z < 2147483648) : (iI z).toInt = z := by
  unfold iI
  rw [Int32.toInt_ofInt]
  exact bmod32 h1 h2
theorem iI_add (a b : Int) : iI a + iI b = iI (a + b) := (Int32.ofInt_add a b).symm
theorem iI_sub (a b : Int) : iI a - iI b = iI (a - b) := (Int32.ofInt_sub a b).symm
theorem iI_mul (a b : Int) : iI a * iI b = iI (a * b) := (Int32.ofInt_mul a b).symm
theorem iI_neg (a : Int) : -iI a = iI (-a) := (Int32.ofInt_neg a).symm
theorem iI_lt {a b : Int} (ha : -2147483648 ≤ a) (ha2 : a < 2147483648) (hb : -2147483648 ≤ b) (hb2 : b < 2147483648) : (iI a < iI b) ↔ a < b := by
  rw [Int32.lt_iff_toInt_lt, iI_toInt ha ha2, iI_toInt hb hb2]
theorem iI_le {a b : Int} (ha : -2147483648 ≤ a) (ha2 : a < 2147483648) (hb : -2147483648 ≤ b) (hb2 : b < 2147483648) : (iI a ≤ iI b) ↔ a ≤ b := by
  rw [Int32.le_iff_toInt_le, iI_toInt ha ha2, iI_toInt hb hb2]
theorem iI_eq {a b : Int} (ha : -2147483648 ≤ a) (ha2 : a < 2147483648) (hb : -2147483648 ≤ b) (hb2 : b < 2147483648) : (iI a = iI b) ↔ a = b := by
  rw [← Int32.toInt_inj, iI_toInt ha ha2, iI_toInt hb hb2]
theorem li (n : Nat) : (OfNat.ofNat n : Int32) = iI (n : Int) := by
  unfold iI
  rw [Int32.ofInt_eq_ofNat]
  rfl
theorem nI_iI (n : Nat) : nI n = iI (n : Int) := by
  unfold iI nI
  rw [Int32.ofInt_eq_ofNat]
theorem iI_of (x : Int32) : x = iI x.toInt := by
  unfold iI
  rw [Int32.ofInt_toInt]
theorem iI_clamp {z : Int} (h1 : 0 ≤ z) (h2 : z < 2147483648) : (iI z).toNatClampNeg = z.toNat := by
  show (iI z).toInt.toNat = z.toNat
  rw [iI_toInt (by omega) h2]
theorem rd_iI {f : Nat → Int32} {n : Nat} {z : Int} (h1 : 0 ≤ z) (h2 : z < n) (hn : (n : Int) < 2147483648) : rd f n (iI z) = some (f z.toNat) := by
  unfold rd
  have hz : (0 : Int32) ≤ iI z := (iI_le (a := 0) (by omega) (by omega) (by omega) (by omega)).mpr h1
  rw [iI_clamp h1 (by omega), if_pos ⟨hz, by omega⟩]
theorem wr_iI {M : Mm} {k n : Nat} {z : Int} {x : Int32} (h1 : 0 ≤ z) (h2 : z < n) (hn : (n : Int) < 2147483648) : wr M k n (iI z) x = some (u1 M k z.toNat x) := by
  unfold wr
  have hz : (0 : Int32) ≤ iI z := (iI_le (a := 0) (by omega) (by omega) (by omega) (by omega)).mpr h1
  rw [iI_clamp h1 (by omega), if_pos ⟨hz, by omega⟩]
theorem u1_eq (M : Mm) (k i : Nat) (x : Int32) : (u1 M k i x).1 k = upd (M.1 k) i x := by unfold u1; rw [s1_same]
theorem u1_ne {M : Mm} {k i q : Nat} {x : Int32} (h : q ≠ k) : (u1 M k i x).1 q = M.1 q := by
  unfold u1 s1; show (if q = k then _ else _) = _; rw [if_neg h]
theorem s1_ne {M : Mm} {k q : Nat} {f : Nat → Int32} (h : q ≠ k) : (s1 M k f).1 q = M.1 q := by
  unfold s1; show (if q = k then _ else _) = _; rw [if_neg h]
theorem upd_eq (f : Nat → Int32) (i : Nat) (x : Int32) : upd f i x i = x := by unfold upd; rw [if_pos rfl]
theorem upd_ne {f : Nat → Int32} {i j : Nat} {x : Int32} (h : j ≠ i) : upd f i x j = f j := by unfold upd; rw [if_neg h]
theorem u1_at (M : Mm) (k i : Nat) (x : Int32) (q j : Nat) : (u1 M k i x).1 q j = if q = k ∧ j = i then x else M.1 q j := by
  by_cases hq : q = k
  · subst hq
    rw [u1_eq]
    by_cases hj : j = i
    · subst hj; rw [upd_eq, if_pos ⟨rfl, rfl⟩]
    · rw [upd_ne hj, if_neg (fun h => hj h.2)]
  · rw [u1_ne hq, if_neg (fun h => hq h.1)]
theorem u1_2 (M : Mm) (k i : Nat) (x : Int32) : (u1 M k i x).2 = M.2 := rfl
/-- a loop with fuel: a measure falls, or it is through -/
theorem loop_ex {σ γ : Type} (lp : Nat → σ → γ) (Inv : σ → Prop) (μ : σ → Nat) (Post : γ → Prop) (h : ∀ n s, Inv s → Post (lp (n + 1) s) ∨ ∃ s', lp (n + 1) s = lp n s' ∧ Inv s' ∧ μ s' < μ s) : ∀ fuel s, Inv s → μ s < fuel → Post (lp fuel s) := by
  intro fuel
  induction fuel with
  | zero => intro s _ h; omega
  | succ n ih =>
    intro s hs hm
    rcases h n s hs with h | ⟨s', e, hs', hm'⟩
    · exact h
    · rw [e]; exact ih s' hs' (by omega)
/-- a loop that counts up to N -/
theorem loop_up {σ γ : Type} (lp : Nat → σ → γ) (N : Nat) (Inv : Nat → σ → Prop) (out : σ → γ) (hstep : ∀ n i s, i < N → Inv i s → ∃ s', lp (n + 1) s = lp n s' ∧ Inv (i + 1) s') (hex : ∀ n s, Inv N s → lp (n + 1) s = out s) : ∀ fuel, N < fuel → ∀ s, Inv 0 s → ∃ s', Inv N s' ∧ lp fuel s = out s' := by
  have key : ∀ k i fuel s, i + k = N → k < fuel → Inv i s → ∃ s', Inv N s' ∧ lp fuel s = out s' := by
    intro k
    induction k with
    | zero =>
      intro i fuel s hi hf hs
      obtain ⟨n, rfl⟩ : ∃ n, fuel = n + 1 := ⟨fuel - 1, by omega⟩
      have : i = N := by omega
      subst this
      exact ⟨s, hs, hex n s hs⟩
    | succ k ih =>
      intro i fuel s hi hf hs
      obtain ⟨n, rfl⟩ : ∃ n, fuel = n + 1 := ⟨fuel - 1, by omega⟩
      obtain ⟨s', e, hs'⟩ := hstep n i s (by omega) hs
      rw [e]
      exact ih (i + 1) n s' (by omega) (by omega) hs'
  exact fun fuel hf s hs => key N 0 fuel s (by omega) hf hs
theorem FW_gt {n : Nat} (h : n < 200000) : n < FW := by rw [FW_eq]; exact h

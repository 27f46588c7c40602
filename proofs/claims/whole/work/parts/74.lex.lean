/-! tokens: from p on, as long as P -/
def rnS (P : Int → Bool) (T : Nat → Int) (n : Nat) : Nat → Nat → Nat
  | 0, p => p
  | k + 1, p => if p < n ∧ P (T p) = true then rnS P T n k (p + 1) else p
def rnE (P : Int → Bool) (T : Nat → Int) (n p : Nat) : Nat := rnS P T n (n - p) p
theorem rn_go {P : Int → Bool} {T : Nat → Int} {n p : Nat} (h : p < n) (hp : P (T p) = true) : rnE P T n p = rnE P T n (p + 1) := by
  unfold rnE
  obtain ⟨k, hk⟩ : ∃ k, n - p = k + 1 := ⟨n - p - 1, by omega⟩
  rw [hk, show n - (p + 1) = k by omega]
  exact if_pos ⟨h, hp⟩
theorem rn_no {P : Int → Bool} {T : Nat → Int} {n p : Nat} (h : ¬ (p < n ∧ P (T p) = true)) : rnE P T n p = p := by
  unfold rnE
  cases n - p with
  | zero => rfl
  | succ k => exact if_neg h
theorem rn_sp {P : Int → Bool} {T : Nat → Int} {n : Nat} : ∀ k p, n - p = k → p ≤ rnE P T n p ∧ (p ≤ n → rnE P T n p ≤ n) ∧ (∀ q, p ≤ q → q < rnE P T n p → P (T q) = true) ∧ ¬ (rnE P T n p < n ∧ P (T (rnE P T n p)) = true) := by
  intro k
  induction k with
  | zero =>
    intro p hp
    have h : ¬ (p < n ∧ P (T p) = true) := fun q => by omega
    rw [rn_no h]
    exact ⟨Nat.le_refl p, fun q => q, fun q a b => absurd b (by omega), h⟩
  | succ k ih =>
    intro p hp
    by_cases h : p < n ∧ P (T p) = true
    · obtain ⟨a, b, c, d⟩ := ih (p + 1) (by omega)
      rw [rn_go h.1 h.2]
      refine ⟨by omega, fun _ => b (by omega), fun q x y => ?_, d⟩
      by_cases e : q = p
      · rw [e]; exact h.2
      · exact c q (by omega) y
    · rw [rn_no h]
      exact ⟨Nat.le_refl p, fun q => q, fun q a b => absurd b (by omega), h⟩
theorem rn_ge {P : Int → Bool} {T : Nat → Int} {n p : Nat} : p ≤ rnE P T n p := (rn_sp _ p rfl).1
theorem rn_le {P : Int → Bool} {T : Nat → Int} {n p : Nat} (h : p ≤ n) : rnE P T n p ≤ n := (rn_sp _ p rfl).2.1 h
theorem rn_in {P : Int → Bool} {T : Nat → Int} {n p q : Nat} (h : p ≤ q) (h2 : q < rnE P T n p) : P (T q) = true := (rn_sp _ p rfl).2.2.1 q h h2
def isSp (z : Int) : Bool := decide (z = 32)
def isLt (z : Int) : Bool := decide (97 ≤ z ∧ z ≤ 122)
def isDg (z : Int) : Bool := decide (48 ≤ z ∧ z ≤ 57)
/-- the end of the token that begins at s -/
def enS (T : Nat → Int) (n s : Nat) : Nat := if s < n then (if isLt (T s) = true then rnE isLt T n s else if isDg (T s) = true then rnE isDg T n s else s + 1) else s
theorem en_gt {T : Nat → Int} {n s : Nat} (h : s < n) : s < enS T n s := by
  unfold enS
  rw [if_pos h]
  split
  · rename_i q; rw [rn_go h q]; have := rn_ge (P := isLt) (T := T) (n := n) (p := s + 1); omega
  · split
    · rename_i q; rw [rn_go h q]; have := rn_ge (P := isDg) (T := T) (n := n) (p := s + 1); omega
    · omega
theorem en_le {T : Nat → Int} {n s : Nat} (h : s ≤ n) : enS T n s ≤ n := by
  unfold enS
  split
  · split
    · exact rn_le h
    · split
      · exact rn_le h
      · omega
  · exact h
/-- where the i-th token begins -/
def sqS (T : Nat → Int) (n : Nat) : Nat → Nat
  | 0 => rnE isSp T n 0
  | i + 1 => rnE isSp T n (enS T n (sqS T n i))
theorem sq_le {T : Nat → Int} {n : Nat} : ∀ i, sqS T n i ≤ n
  | 0 => rn_le (Nat.zero_le n)
  | i + 1 => rn_le (en_le (sq_le i))
theorem sq_n {T : Nat → Int} {n i : Nat} (h : sqS T n i = n) : sqS T n (i + 1) = n := by
  show rnE isSp T n (enS T n (sqS T n i)) = n
  rw [h]
  have : enS T n n = n := by unfold enS; rw [if_neg (Nat.lt_irrefl n)]
  rw [this, rn_no (fun q => by omega)]
theorem sq_ge {T : Nat → Int} {n : Nat} : ∀ i, sqS T n i < n → i ≤ sqS T n i
  | 0, _ => Nat.zero_le _
  | i + 1, h => by
    have hi : sqS T n i < n := by
      rcases Nat.lt_or_eq_of_le (sq_le (T := T) (n := n) i) with q | q
      · exact q
      · rw [sq_n q] at h; omega
    have a := sq_ge i hi
    have b := en_gt (T := T) hi
    have c : enS T n (sqS T n i) ≤ sqS T n (i + 1) := rn_ge
    omega
/-- what a token is, in the class's numbers: end, word, whole, ';', ',', none -/
def srS (T : Nat → Int) (n s : Nat) : Int := if s < n then (if isLt (T s) = true then (if enS T n s - s ≤ 6 then 1 else 5) else if isDg (T s) = true then (if enS T n s - s ≤ 4 then 2 else 5) else if T s = 59 then 3 else if T s = 44 then 4 else 5) else 0
def nuN (T : Nat → Int) (s : Nat) : Nat → Int
  | 0 => 0
  | j + 1 => 10 * nuN T s j + T (s + j) - 48
def ltS (T : Nat → Int) (s : Nat) (j : Nat) : Int := T (s + j) - 97
/-! the twelve words -/
def kwL : List (List Nat) := [[22, 0, 17, 4], [1, 4, 13, 2, 7], [18, 4, 19, 20, 15], [17, 4, 18, 19], [4, 21, 4, 17, 24], [2, 0, 17, 3, 18], [14, 17, 3, 4, 17], [5, 17, 14, 12], [17, 20, 11, 4], [5, 8, 17, 18, 19], [12, 14, 18, 19], [19, 20, 17, 13]]
def kl (w : Nat) : Nat := (kwL.getD w []).length
def kc (w j : Nat) : Int := (((kwL.getD w []).getD j 0 : Nat) : Int)
theorem kl_b : ∀ w, w < 12 → 1 ≤ kl w ∧ kl w ≤ 5 := by decide +kernel
theorem kc_b : ∀ w, w < 12 → ∀ j, j < 6 → 0 ≤ kc w j ∧ kc w j ≤ 25 := by decide +kernel
theorem kw_ne : ∀ w, w < 12 → ∀ v, v < 12 → kl w = kl v → (∀ j, j < kl w → kc w j = kc v j) → w = v := by decide +kernel
theorem kw_X : ∀ w, w < 12 → ∀ j, j < 6 → (sbyt.getD 0 []).getD (6 * w + j) 0 = iI (if j < kl w then kc w j + 97 else 32) := by decide +kernel
theorem kw_M : ∀ w, w < 12 → ∀ j, j < kl w → (sbyt.getD (w + 1) []).getD j 0 = iI (kc w j + 97) := by decide +kernel
theorem kw_l : ∀ w, w < 12 → slen.getD (w + 1) 0 = kl w := by decide +kernel
/-- the token of z letters at s is word w -/
def spl (T : Nat → Int) (s z w : Nat) : Prop := z = kl w ∧ ∀ j, j < z → ltS T s j = kc w j
noncomputable def kwN (T : Nat → Int) (s z : Nat) : Nat → Nat
  | 0 => 12
  | w + 1 => @ite Nat (spl T s z w) (Classical.propDecidable _) w (kwN T s z w)
theorem wd_inj {l m : Nat → Int} : ∀ z y : Nat, (∀ j, j < z → 0 ≤ l j ∧ l j ≤ 25) → (∀ j, j < y → 0 ≤ m j ∧ m j ≤ 25) → (wdS l z = wdS m y ↔ z = y ∧ ∀ j, j < z → l j = m j)
  | 0, 0, _, _ => ⟨fun _ => ⟨rfl, fun j h => absurd h (by omega)⟩, fun _ => rfl⟩
  | 0, y + 1, _, hm => by
    have := (wd_bd (l := m) (z := y + 1) hm (y + 1) (Nat.le_refl _)).2.2 (by omega)
    refine ⟨fun h => ?_, fun h => absurd h.1 (by omega)⟩
    rw [← h] at this
    exact absurd this (by show ¬ (0 : Int) < 0; omega)
  | z + 1, 0, hl, _ => by
    have := (wd_bd (l := l) (z := z + 1) hl (z + 1) (Nat.le_refl _)).2.2 (by omega)
    refine ⟨fun h => ?_, fun h => absurd h.1 (by omega)⟩
    rw [h] at this
    exact absurd this (by show ¬ (0 : Int) < 0; omega)
  | z + 1, y + 1, hl, hm => by
    have ih := wd_inj z y (fun j hj => hl j (by omega)) (fun j hj => hm j (by omega))
    have a := hl z (by omega)
    have b := hm y (by omega)
    show wdS l z * 32 + l z + 1 = wdS m y * 32 + m y + 1 ↔ _
    constructor
    · intro h
      have e1 : wdS l z = wdS m y := by omega
      have e2 : l z = m y := by omega
      obtain ⟨q1, q2⟩ := ih.mp e1
      subst q1
      refine ⟨rfl, fun j hj => ?_⟩
      by_cases e : j = z
      · rw [e]; exact e2
      · exact q2 j (by omega)
    · rintro ⟨q1, q2⟩
      have e : z = y := by omega
      subst e
      rw [ih.mpr ⟨rfl, fun j hj => q2 j (by omega)⟩, q2 z (by omega)]
theorem kwN_12 {T : Nat → Int} {s z : Nat} : ∀ n, n ≤ 12 → (kwN T s z n = 12 ∧ ∀ w, w < n → ¬ spl T s z w) ∨ ∃ w, w < n ∧ kwN T s z n = w ∧ spl T s z w
  | 0, _ => Or.inl ⟨rfl, fun w h => absurd h (by omega)⟩
  | n + 1, hn => by
    by_cases e : spl T s z n
    · exact Or.inr ⟨n, by omega, if_pos e, e⟩
    · have q : kwN T s z (n + 1) = kwN T s z n := if_neg e
      rw [q]
      rcases kwN_12 (T := T) (s := s) (z := z) n (by omega) with ⟨a, b⟩ | ⟨w, a, b, c⟩
      · refine Or.inl ⟨a, fun w hw h => ?_⟩
        by_cases q : w = n
        · subst q; exact e h
        · exact b w (by omega) h
      · exact Or.inr ⟨w, by omega, b, c⟩
noncomputable def kwS (T : Nat → Int) (s z : Nat) : Nat := kwN T s z 12
theorem kw_iff {T : Nat → Int} {s z w : Nat} (hw : w < 12) : kwS T s z = w ↔ spl T s z w := by
  rcases kwN_12 (T := T) (s := s) (z := z) 12 (Nat.le_refl _) with ⟨a, b⟩ | ⟨v, a, b, c⟩
  · refine ⟨fun h => ?_, fun h => absurd h (b w hw)⟩
    unfold kwS at h
    omega
  · unfold kwS
    rw [b]
    refine ⟨fun h => by rw [← h]; exact c, fun h => ?_⟩
    exact kw_ne v a w hw (by rw [← c.1, ← h.1]) (fun j hj => by rw [← c.2 j (by rw [c.1]; exact hj), ← h.2 j (by rw [c.1]; exact hj)])
theorem kw_le {T : Nat → Int} {s z : Nat} : kwS T s z ≤ 12 := by
  rcases kwN_12 (T := T) (s := s) (z := z) 12 (Nat.le_refl _) with ⟨a, b⟩ | ⟨v, a, b, c⟩
  · unfold kwS; omega
  · unfold kwS; omega

/-! the class's line at place p: where the fields lie -/
def plX (p i : Nat) : Nat := match i with
  | 0 => p + 3
  | 1 => p + 5
  | 2 => p + 4
  | 3 => p + 6
  | 4 => p + 1
  | 5 => p + 9
  | 7 => p + 7
  | 8 => p + 7
  | 9 => p + 7
  | 10 => p + 7
  | 11 => p + 8
  | 12 => p + 12
  | 13 => p + 11
  | 14 => p
  | 15 => p + 2
  | 16 => p + 10
  | _ => p
def ixX (i j : Nat) : Nat := match i with
  | 7 => 4 * j
  | 8 => 4 * j + 1
  | 9 => 4 * j + 2
  | 10 => 4 * j + 3
  | 14 => if j = 0 then 14 else 15 + j
  | _ => j
def szX (i : Nat) : Nat := match i with
  | 4 => 18
  | 15 => 18
  | 5 => 3
  | 12 => 3
  | 13 => 3
  | 14 => 3
  | 16 => 3
  | _ => 6
def lnX (i : Nat) : Nat := match i with
  | 4 => 18
  | 15 => 18
  | 5 => 3
  | 12 => 3
  | 13 => 3
  | 16 => 3
  | 7 => 24
  | 8 => 24
  | 9 => 24
  | 10 => 24
  | _ => 6
def fdX (i : Nat) : Prop := i ≤ 16 ∧ i ≠ 6
theorem fdX_c {i : Nat} (h : fdX i) : i = 0 ∨ i = 1 ∨ i = 2 ∨ i = 3 ∨ i = 4 ∨ i = 5 ∨ i = 7 ∨ i = 8 ∨ i = 9 ∨ i = 10 ∨ i = 11 ∨ i = 12 ∨ i = 13 ∨ i = 14 ∨ i = 15 ∨ i = 16 := by unfold fdX at h; omega
theorem fx (i : Nat) (h : decide (i ≤ 16 ∧ i ≠ 6) = true) : fdX i := by unfold fdX; exact of_decide_eq_true h
theorem lyX_inj {p i j i2 j2 : Nat} (hi : fdX i) (hj : j < szX i) (hi2 : fdX i2) (hj2 : j2 < szX i2) (h : plX p i = plX p i2) (h2 : ixX i j = ixX i2 j2) : i = i2 ∧ j = j2 := by
  rcases fdX_c hi with rfl | rfl | rfl | rfl | rfl | rfl | rfl | rfl | rfl | rfl | rfl | rfl | rfl | rfl | rfl | rfl <;>
  rcases fdX_c hi2 with rfl | rfl | rfl | rfl | rfl | rfl | rfl | rfl | rfl | rfl | rfl | rfl | rfl | rfl | rfl | rfl <;>
  simp only [plX, ixX, szX] at h h2 hj hj2 <;> (try split at h2) <;> (try split at h2) <;> omega
theorem lyX_15 {p i j : Nat} (hi : fdX i) (hj : j < szX i) : ¬ (plX p i = p ∧ ixX i j = 15) := by
  rcases fdX_c hi with rfl | rfl | rfl | rfl | rfl | rfl | rfl | rfl | rfl | rfl | rfl | rfl | rfl | rfl | rfl | rfl <;>
  simp only [plX, ixX, szX] at hj ⊢ <;> (try split) <;> omega
theorem plX_in {p i : Nat} (hi : fdX i) : p ≤ plX p i ∧ plX p i ≤ p + 12 := by
  rcases fdX_c hi with rfl | rfl | rfl | rfl | rfl | rfl | rfl | rfl | rfl | rfl | rfl | rfl | rfl | rfl | rfl | rfl <;>
  simp only [plX] <;> omega
theorem ixX_lt {i j : Nat} (hi : fdX i) (h14 : i ≠ 14) (hj : j < szX i) : ixX i j < lnX i ∧ lnX i ≤ 24 := by
  rcases fdX_c hi with rfl | rfl | rfl | rfl | rfl | rfl | rfl | rfl | rfl | rfl | rfl | rfl | rfl | rfl | rfl | rfl <;>
  simp only [ixX, szX, lnX] at hj ⊢ <;> omega
/-- the line at p holds S, and has delivered tt -/
def RelX (p : Nat) (S : SS) (tt : Int) (X : Mm) : Prop := (∀ i j, fdX i → j < szX i → X.1 (plX p i) (ixX i j) = iI (S i j)) ∧ X.1 p 15 = iI tt
/-- only the line at p has changed -/
def OnlyX (p : Nat) (M M2 : Mm) : Prop := (∀ q, q < p ∨ p + 12 < q → M2.1 q = M.1 q) ∧ M2.2 = M.2
theorem OnlyX.rf {p : Nat} {M : Mm} : OnlyX p M M := ⟨fun _ _ => rfl, rfl⟩
theorem OnlyX.u1 {p q i : Nat} {M M0 : Mm} {x : Int32} (h : OnlyX p M0 M) (h1 : p ≤ q) (h2 : q ≤ p + 12) : OnlyX p M0 (u1 M q i x) := ⟨fun r hr => by rw [u1_ne (by omega)]; exact h.1 r hr, h.2⟩
theorem OnlyX.tr {p : Nat} {M M2 M3 : Mm} (h : OnlyX p M M2) (h2 : OnlyX p M2 M3) : OnlyX p M M3 := ⟨fun q hq => (h2.1 q hq).trans (h.1 q hq), h2.2.trans h.2⟩
theorem RelX.put {p : Nat} {S : SS} {tt : Int} {X : Mm} (h : RelX p S tt X) {i j : Nat} (hi : fdX i) (hj : j < szX i) (z : Int) : RelX p (uS S i j z) tt (u1 X (plX p i) (ixX i j) (iI z)) := by
  refine ⟨fun i2 j2 hi2 hj2 => ?_, ?_⟩
  · rw [u1_at]
    by_cases e : plX p i2 = plX p i ∧ ixX i2 j2 = ixX i j
    · obtain ⟨rfl, rfl⟩ := lyX_inj hi2 hj2 hi hj e.1 e.2
      rw [if_pos e, uS_eq]
    · rw [if_neg e, h.1 i2 j2 hi2 hj2]
      unfold uS
      rw [if_neg (fun q => e (by rw [q.1, q.2]; exact ⟨rfl, rfl⟩))]
  · rw [u1_at, if_neg (fun q => lyX_15 (p := p) hi hj ⟨q.1.symm, q.2.symm⟩)]; exact h.2
theorem RelX.putT {p : Nat} {S : SS} {tt : Int} {X : Mm} (h : RelX p S tt X) (z : Int) : RelX p S z (u1 X p 15 (iI z)) := by
  refine ⟨fun i2 j2 hi2 hj2 => ?_, ?_⟩
  · rw [u1_at, if_neg (lyX_15 hi2 hj2)]; exact h.1 i2 j2 hi2 hj2
  · rw [u1_at, if_pos ⟨rfl, rfl⟩]
theorem RelX.congr {p : Nat} {S S2 : SS} {tt : Int} {X : Mm} (h : RelX p S tt X) (e : ∀ i j, fdX i → j < szX i → S2 i j = S i j) : RelX p S2 tt X := ⟨fun i j hi hj => by rw [h.1 i j hi hj, e i j hi hj], h.2⟩
theorem RelX.skip {p : Nat} {S : SS} {tt : Int} {X : Mm} (h : RelX p S tt X) {i j : Nat} (hi : ¬ fdX i) (z : Int) : RelX p (uS S i j z) tt X := h.congr (fun a b ha _ => uS_nf (fun e => hi (e ▸ ha)))
theorem RelX.other {p : Nat} {S : SS} {tt : Int} {X X2 : Mm} (h : RelX p S tt X) (o : ∀ q, p ≤ q → q ≤ p + 12 → X2.1 q = X.1 q) : RelX p S tt X2 := by
  refine ⟨fun i j hi hj => ?_, ?_⟩
  · have := plX_in (p := p) hi
    rw [o _ this.1 this.2]; exact h.1 i j hi hj
  · rw [o p (Nat.le_refl p) (by omega)]; exact h.2
theorem RelX.rd {p : Nat} {S : SS} {tt : Int} {X : Mm} (h : RelX p S tt X) (i j : Nat) {z : Int} (hi : fdX i) (h14 : i ≠ 14) (hj : j < szX i) (hz : z = (ixX i j : Int)) : rd (X.1 (plX p i)) (lnX i) (iI z) = some (iI (S i j)) := by
  subst hz
  have := ixX_lt hi h14 hj
  rw [rd_iI (by omega) (by omega) (by omega), Int.toNat_natCast, h.1 i j hi hj]
theorem RelX.wr {p : Nat} {S : SS} {tt : Int} {X : Mm} (h : RelX p S tt X) (i j : Nat) {z x : Int} (hi : fdX i) (h14 : i ≠ 14) (hj : j < szX i) (hz : z = (ixX i j : Int)) : ∃ M2, wr X (plX p i) (lnX i) (iI z) (iI x) = some M2 ∧ RelX p (uS S i j x) tt M2 ∧ OnlyX p X M2 := by
  subst hz
  have := ixX_lt hi h14 hj
  have q := plX_in (p := p) hi
  exact ⟨_, by rw [wr_iI (by omega) (by omega) (by omega), Int.toNat_natCast], h.put hi hj x, OnlyX.rf.u1 q.1 q.2⟩
def CfgX (C : SS) (X : Mm) : Prop := X.1 2 0 = iI (C 0 0) ∧ X.1 2 1 = iI (C 0 1) ∧ X.1 2 2 = iI (C 0 2) ∧ (∀ b : Nat, b < 6 → (b : Int) < C 0 1 → X.1 3 b = iI (C 3 b) ∧ X.1 4 b = iI (C 4 b) ∧ X.1 5 b = iI (C 5 b)) ∧ ∀ i : Nat, i < 4 → (i : Int) < C 0 2 → X.1 6 i = iI (C 6 i) ∧ X.1 7 i = iI (C 7 i) ∧ X.1 8 i = iI (C 8 i)
def WyX (q : Nat) (w : Nat → Int) (X : Mm) : Prop := (∀ c, c < 18 → X.1 (q + 1) c = iI (w c)) ∧ (∀ c, c < 18 → X.1 (q + 2) c = iI (w (18 + c))) ∧ X.1 q 2 = iI (w 36)
theorem OnlyX.cfg {p : Nat} {M M2 : Mm} {C : SS} (h : OnlyX p M M2) (hk : 8 < p) (hc : CfgX C M) : CfgX C M2 := by
  unfold CfgX
  rw [h.1 2 (by omega), h.1 3 (by omega), h.1 4 (by omega), h.1 5 (by omega), h.1 6 (by omega), h.1 7 (by omega), h.1 8 (by omega)]
  exact hc
theorem OnlyX.wy {p q : Nat} {M M2 : Mm} {w : Nat → Int} (h : OnlyX p M M2) (hk : q + 2 < p ∨ p + 12 < q) (hc : WyX q w M) : WyX q w M2 := by
  unfold WyX
  rw [h.1 q (by omega), h.1 (q + 1) (by omega), h.1 (q + 2) (by omega)]
  exact hc
theorem P_rem {a b : Int} (ha : 0 ≤ a) (ha2 : a < 2147483648) (hb : 0 < b) (hb2 : b < 2147483648) : f_P_remainder (iI a) (iI b) = some (iI (a % b)) := by
  unfold f_P_remainder
  have c0 : ¬ (iI b ≤ 0) := by rw [l0, iI_le (by omega) (by omega) (by omega) (by omega)]; omega
  rw [if_neg c0, rmI_iI ha ha2 hb hb2]
  rfl
/-- orders of the streams below n come -/
def comN (C : SS) (n : Nat) (S : SS) : SS := fun a b => if (a = 5 ∨ a = 16) ∧ b < 3 then S a b + arr C b (S 14 0) n else S a b
/-- all orders came, wares of kinds below n are served -/
def sdS (C : SS) (n : Nat) (S : SS) : SS := fun a b =>
  if a = 5 ∧ b < 3 then S 5 b + arS C b (S 14 0)
  else if a = 6 ∧ b < n then S 6 b + dvS C S b
  else if a = 16 ∧ b < 3 then S 16 b + arS C b (S 14 0) - (if b < n then dvS C S b else 0)
  else if (a = 4 ∨ a = 15) ∧ 3 * ((C 0 1).toNat - 1) ≤ b ∧ b < 3 * ((C 0 1).toNat - 1) + n then S a b - dvS C S (b - 3 * ((C 0 1).toNat - 1))
  else if a = 12 ∧ b < n ∧ S 12 b = -2 ∧ 0 < dvS C S b then S 14 0
  else S a b
theorem arr_no {C : SS} (hO : CfgOk C) {k : Nat} (hk : C 0 0 ≤ k) (t : Int) : ∀ n : Nat, (n : Int) ≤ C 0 2 → arr C k t n = 0 := by
  intro n
  induction n with
  | zero => intro _; rfl
  | succ n ih =>
    intro hn
    have := hO.2.2.2.2.2.2.2.2 n (by omega)
    unfold arr
    rw [ih (by omega), if_neg (by omega)]
    rfl
theorem sdS_all {C S : SS} (hO : CfgOk C) : ∀ a b, (a = 5 ∨ a = 6 ∨ a = 16 → b < 3) → sdS C (C 0 0).toNat S a b = srvS C (C 0 0).toNat S a b := by
  intro a b hb
  have h3 := hO.2.1
  have h1 := hO.1
  by_cases e : (C 0 0).toNat ≤ b
  · have h0 : arS C b (S 14 0) = 0 := arr_no hO (by omega) _ _ (by have := hO.2.2.2.2.1; omega)
    unfold sdS srvS
    grind
  · unfold sdS srvS
    grind
theorem sdS_0 {C S : SS} : sdS C 0 S = comN C (C 0 2).toNat S := by
  funext a b
  unfold sdS comN arS
  grind
theorem comN_0 {C S : SS} : comN C 0 S = S := by
  funext a b
  unfold comN arr
  grind
theorem comN_s {C S : SS} {n k : Nat} (hk : C 6 n = k) (hk3 : k < 3) : comN C (n + 1) S = if C 8 n ≤ S 14 0 ∧ (S 14 0 - C 8 n) % C 7 n = 0 then uS (uS (comN C n S) 5 k (comN C n S 5 k + 1)) 16 k (comN C n S 16 k + 1) else comN C n S := by
  split
  · rename_i h
    funext a b
    by_cases e : (a = 5 ∨ a = 16) ∧ b < 3
    · have h1 : comN C (n + 1) S a b = S a b + (arr C b (S 14 0) n + if C 6 n = b ∧ C 8 n ≤ S 14 0 ∧ (S 14 0 - C 8 n) % C 7 n = 0 then 1 else 0) := by
        unfold comN
        rw [if_pos e]
        rfl
      have h2 : comN C n S a b = S a b + arr C b (S 14 0) n := by unfold comN; rw [if_pos e]
      rw [h1]
      unfold uS
      have h5 : comN C n S 5 k = S 5 k + arr C k (S 14 0) n := by unfold comN; rw [if_pos ⟨Or.inl rfl, hk3⟩]
      have h16 : comN C n S 16 k = S 16 k + arr C k (S 14 0) n := by unfold comN; rw [if_pos ⟨Or.inr rfl, hk3⟩]
      rw [h5, h16, h2]
      grind
    · have h1 : comN C (n + 1) S a b = S a b := by unfold comN; rw [if_neg e]
      have h2 : comN C n S a b = S a b := by unfold comN; rw [if_neg e]
      rw [h1]
      unfold uS
      rw [h2]
      grind
  · rename_i h
    funext a b
    unfold comN
    by_cases e : (a = 5 ∨ a = 16) ∧ b < 3
    · rw [if_pos e, if_pos e]
      show S a b + (arr C b (S 14 0) n + if C 6 n = b ∧ C 8 n ≤ S 14 0 ∧ (S 14 0 - C 8 n) % C 7 n = 0 then 1 else 0) = _
      rw [if_neg (fun q => h q.2), Int.add_zero]
    · rw [if_neg e, if_neg e]

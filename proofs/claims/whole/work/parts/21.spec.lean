/-! the run as mathematics. S i j: field i at place j.
 0 DO, 1 EN, 2 LA (-2 none), 3 FI, 4 ST (cell), 5 CM, 6 DL, 7 WK, 8 RS, 9 SV, 10 BL, 11 PK, 12 FD (-2 none), 13 WD, 14: 0 minute, 1 first starved (-2 none), 2 its bench, 3 delivered; 15 HE (cell), 16 WT, 17 WITH (-2 none).
 C: 0: 0 kinds, 1 benches, 2 streams; 3 setup, 4 rest, 5 every, 6 kind, 7 every, 8 from of a stream. w: cards 0.., times 18.., rule 36 -/
abbrev SS : Type := Nat → Nat → Int
def uS (S : SS) (i j : Nat) (z : Int) : SS := fun a b => if a = i ∧ b = j then z else S a b
theorem uS_at (S : SS) (i j : Nat) (z : Int) (a b : Nat) : uS S i j z a b = if a = i ∧ b = j then z else S a b := rfl
theorem uS_eq (S : SS) (i j : Nat) (z : Int) : uS S i j z i j = z := if_pos ⟨rfl, rfl⟩
theorem uS_nf {S : SS} {i j a b : Nat} {z : Int} (h : a ≠ i) : uS S i j z a b = S a b := if_neg (fun q => h q.1)
theorem uS_ni {S : SS} {i j a b : Nat} {z : Int} (h : b ≠ j) : uS S i j z a b = S a b := if_neg (fun q => h q.2)
theorem uS_comm (S : SS) {i j i2 j2 : Nat} (z z2 : Int) (h : i ≠ i2) : uS (uS S i j z) i2 j2 z2 = uS (uS S i2 j2 z2) i j z := by
  funext a b
  simp only [uS]
  by_cases h1 : a = i ∧ b = j
  · rw [if_pos h1, if_neg (fun q => h (h1.1.symm.trans q.1)), if_pos h1]
  · rw [if_neg h1, if_neg h1]
theorem uS_twice (S : SS) (i j : Nat) (z z2 : Int) : uS (uS S i j z) i j z2 = uS S i j z2 := by
  funext a b
  simp only [uS]
  split <;> rfl
/-- orders of kind k that come in minute t -/
def arr (C : SS) (k : Nat) (t : Int) : Nat → Int
  | 0 => 0
  | i + 1 => arr C k t i + if C 6 i = k ∧ C 8 i ≤ t ∧ (t - C 8 i) % C 7 i = 0 then 1 else 0
def arS (C : SS) (k : Nat) (t : Int) : Int := arr C k t (C 0 2).toNat
def endS (C : SS) (b : Nat) (S : SS) : SS :=
  if S 0 b = 0 ∨ S 1 b ≠ S 14 0 then S
  else if S 0 b = 2 then uS S 0 b 0
  else if C 5 b = 0 ∨ (S 3 b + 1) % C 5 b ≠ 0 then uS (uS (uS (uS S 4 (3 * b + (S 2 b).toNat) (S 4 (3 * b + (S 2 b).toNat) + 1)) 3 b (S 3 b + 1)) 0 b 0) 17 b (-2)
  else uS (uS (uS (uS (uS S 4 (3 * b + (S 2 b).toNat) (S 4 (3 * b + (S 2 b).toNat) + 1)) 3 b (S 3 b + 1)) 17 b (-2)) 0 b 2) 1 b (S 14 0 + C 4 b)
def upF (f : Nat → SS → SS) : Nat → SS → SS
  | 0, S => S
  | n + 1, S => f n (upF f n S)
def dnF (f : Nat → SS → SS) : Nat → SS → SS
  | 0, S => S
  | n + 1, S => dnF f n (f n S)
/-- wares that are served of kind k in this minute, orders of it being there -/
def dvS (C : SS) (S : SS) (k : Nat) : Int := min (S 5 k + arS C k (S 14 0) - S 6 k) (S 4 (3 * ((C 0 1).toNat - 1) + k))
/-- kinds below n are served -/
def srvS (C : SS) (n : Nat) (S : SS) : SS := fun a b =>
  if a = 5 ∧ b < n then S 5 b + arS C b (S 14 0)
  else if a = 6 ∧ b < n then S 6 b + dvS C S b
  else if a = 16 ∧ b < n then S 16 b + arS C b (S 14 0) - dvS C S b
  else if (a = 4 ∨ a = 15) ∧ 3 * ((C 0 1).toNat - 1) ≤ b ∧ b < 3 * ((C 0 1).toNat - 1) + n then S a b - dvS C S (b - 3 * ((C 0 1).toNat - 1))
  else if a = 12 ∧ b < n ∧ S 12 b = -2 ∧ 0 < dvS C S b then S 14 0
  else S a b
def frS (w : Nat → Int) (S : SS) (b k : Nat) : Int := w (3 * b + k) - S 15 (3 * b + k)
abbrev avS (w : Nat → Int) (S : SS) (b k : Nat) : Prop := 0 < frS w S b k ∧ (b = 0 ∨ 0 < S 4 (3 * (b - 1) + k))
def kiS (C : SS) (w : Nat → Int) (S : SS) (b i : Nat) : Nat := if w 36 = 2 ∧ S 2 b ≠ -2 then ((S 2 b).toNat + 1 + i) % (C 0 0).toNat else i
def beS (C : SS) (w : Nat → Int) (S : SS) (b : Nat) : Nat → Option Nat
  | 0 => none
  | i + 1 =>
    if avS w S b (kiS C w S b i) then
      match beS C w S b i with
      | none => some (kiS C w S b i)
      | some q => if w 36 = 1 ∧ frS w S b q < frS w S b (kiS C w S b i) then some (kiS C w S b i) else some q
    else beS C w S b i
def takS (b k : Nat) (S : SS) : SS := if b = 0 then S else uS (uS S 4 (3 * (b - 1) + k) (S 4 (3 * (b - 1) + k) - 1)) 15 (3 * (b - 1) + k) (S 15 (3 * (b - 1) + k) - 1)
def begS (C : SS) (w : Nat → Int) (b k : Nat) (S : SS) : SS :=
  uS (uS (uS (uS (uS (takS b k S) 15 (3 * b + k) (S 15 (3 * b + k) + 1)) 1 b (S 14 0 + w (18 + (3 * b + k)) + (if S 2 b ≠ -2 ∧ S 2 b ≠ k then C 3 b else 0))) 0 b 1) 17 b k) 2 b k
def staS (C : SS) (w : Nat → Int) (b : Nat) (S : SS) : SS :=
  if S 0 b = 0 then
    match beS C w S b (C 0 0).toNat with
    | none => S
    | some k => begS C w b k S
  else S
/-- has a bench a free card of a kind below n? -/
def ffS (w : Nat → Int) (S : SS) (b : Nat) : Nat → Bool
  | 0 => false
  | n + 1 => ffS w S b n || decide (0 < frS w S b n)
def talS (C : SS) (w : Nat → Int) (b : Nat) (S : SS) : SS :=
  if S 0 b = 1 then uS S 7 b (S 7 b + 1)
  else if S 0 b = 2 then uS S 8 b (S 8 b + 1)
  else if ffS w S b (C 0 0).toNat = true then
    if S 2 b ≠ -2 ∧ (S 14 1 = -2 ∨ S 14 1 = S 14 0) then uS (uS (uS S 9 b (S 9 b + 1)) 14 1 (S 14 0)) 14 2 b
    else uS S 9 b (S 9 b + 1)
  else uS S 10 b (S 10 b + 1)
def waS (S : SS) (b : Nat) : Nat → Int
  | 0 => 0
  | n + 1 => waS S b n + S 4 (3 * b + n)
def peaS (C : SS) (b : Nat) (S : SS) : SS := uS S 11 b (max (S 11 b) (waS S b (C 0 0).toNat))
/-- orders grow older -/
def ageS (C : SS) (S : SS) : SS := fun a b => if a = 13 ∧ b < (C 0 0).toNat then S 13 b + S 16 b else S a b
/-- wares delivered in all, kinds below n -/
def totS (S : SS) : Nat → Int
  | 0 => 0
  | n + 1 => totS S n + S 6 n
/-- what happens in a minute, but the counting -/
def chgS (C : SS) (w : Nat → Int) (S : SS) : SS := dnF (staS C w) (C 0 1).toNat (srvS C (C 0 0).toNat (upF (endS C) (C 0 1).toNat S))
def cntS (C : SS) (w : Nat → Int) (S : SS) : SS := upF (peaS C) (C 0 1).toNat (upF (talS C w) (C 0 1).toNat S)
def minS (C : SS) (w : Nat → Int) (S : SS) : SS := uS (cntS C w (chgS C w (ageS C S))) 14 0 (S 14 0 + 1)
/-! where the fields lie -/
def lyM (i j : Nat) : Nat := match i with
  | 0 => 3 + 9 * j
  | 1 => 3 + 9 * j + 2
  | 2 => 3 + 9 * j + 3
  | 3 => 3 + 9 * j + 4
  | 4 => 57 + j
  | 5 => 75 + 5 * j
  | 6 => 75 + 5 * j + 1
  | 7 => 3 + 9 * j + 5
  | 8 => 3 + 9 * j + 6
  | 9 => 3 + 9 * j + 7
  | 10 => 3 + 9 * j + 8
  | 11 => 90 + j
  | 12 => 96 + j
  | 17 => 3 + 9 * j + 1
  | _ => 0
def szS (i : Nat) : Nat := match i with
  | 4 => 18
  | 5 => 3
  | 6 => 3
  | 12 => 3
  | 13 => 3
  | 14 => 1
  | 15 => 18
  | 16 => 3
  | _ => 6
def fdM (i : Nat) : Prop := i ≤ 12 ∨ i = 14 ∨ i = 17
theorem lyM_inj {i j i2 j2 : Nat} (hi : fdM i) (hj : j < szS i) (hi2 : fdM i2) (hj2 : j2 < szS i2) (h : lyM i j = lyM i2 j2) : i = i2 ∧ j = j2 := by
  have c : ∀ i, fdM i → i = 0 ∨ i = 1 ∨ i = 2 ∨ i = 3 ∨ i = 4 ∨ i = 5 ∨ i = 6 ∨ i = 7 ∨ i = 8 ∨ i = 9 ∨ i = 10 ∨ i = 11 ∨ i = 12 ∨ i = 14 ∨ i = 17 := by
    intro i h; unfold fdM at h; omega
  rcases c i hi with rfl | rfl | rfl | rfl | rfl | rfl | rfl | rfl | rfl | rfl | rfl | rfl | rfl | rfl | rfl <;>
  rcases c i2 hi2 with rfl | rfl | rfl | rfl | rfl | rfl | rfl | rfl | rfl | rfl | rfl | rfl | rfl | rfl | rfl <;>
  simp only [lyM, szS] at h hj hj2 <;> omega
theorem lyM_lt {i j : Nat} (hi : fdM i) (hj : j < szS i) : lyM i j < 99 := by
  have c : i = 0 ∨ i = 1 ∨ i = 2 ∨ i = 3 ∨ i = 4 ∨ i = 5 ∨ i = 6 ∨ i = 7 ∨ i = 8 ∨ i = 9 ∨ i = 10 ∨ i = 11 ∨ i = 12 ∨ i = 14 ∨ i = 17 := by
    unfold fdM at hi; omega
  rcases c with rfl | rfl | rfl | rfl | rfl | rfl | rfl | rfl | rfl | rfl | rfl | rfl | rfl | rfl | rfl <;>
  simp only [lyM, szS] at hj ⊢ <;> omega
/-- the reference's row K holds S -/
def RelM (K : Nat) (S Q : SS) (M : Mm) : Prop := (∀ i j, fdM i → j < szS i → M.1 K (lyM i j) = iI (S i j)) ∧ M.1 K 1 = iI (if S 14 1 = -2 then -1 else S 14 1) ∧ (S 14 1 ≠ -2 → M.1 K 2 = iI (S 14 2)) ∧ ∀ k c, k < 3 → c < 3 → M.1 K (75 + 5 * k + 2 + c) = iI (Q c k)

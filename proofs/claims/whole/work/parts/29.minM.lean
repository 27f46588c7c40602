/-- what holds between two minutes -/
def Bd (C S : SS) : Prop := AvS C S ∧ 0 ≤ S 14 0 ∧
  (∀ b : Nat, (b : Int) < C 0 1 → (S 0 b ≠ 0 → S 14 0 ≤ S 1 b) ∧ S 1 b ≤ S 14 0 + 120 ∧ 0 ≤ S 3 b ∧ S 3 b ≤ S 14 0 ∧ 0 ≤ S 7 b ∧ S 7 b ≤ S 14 0 ∧ 0 ≤ S 11 b ∧ S 11 b ≤ 27) ∧
  (∀ k : Nat, (k : Int) < C 0 0 → 0 ≤ S 6 k ∧ S 6 k ≤ S 5 k ∧ S 5 k = cuA C k (S 14 0).toNat ∧ S 16 k = S 5 k - S 6 k ∧ (S 12 k = -2 ∨ (0 ≤ S 12 k ∧ S 12 k ≤ S 14 0))) ∧
  (S 14 1 = -2 ∨ (0 ≤ S 14 1 ∧ S 14 1 ≤ S 14 0 ∧ 0 ≤ S 14 2 ∧ S 14 2 < C 0 1)) ∧
  (∀ b k : Nat, b < 6 → k < 3 → ¬ ((b : Int) < C 0 1 ∧ (k : Int) < C 0 0) → S 4 (3 * b + k) = 0 ∧ S 15 (3 * b + k) = 0)
/-- in the midst of a minute: benches below n have ended -/
def Md (C S0 S : SS) (n : Nat) : Prop := AvS C S ∧ (∀ i j, i ≠ 0 → i ≠ 1 → i ≠ 2 → i ≠ 3 → i ≠ 4 → i ≠ 15 → i ≠ 17 → S i j = S0 i j) ∧
  (∀ b : Nat, (b : Int) < C 0 1 → (b < n → (S 0 b ≠ 0 → S0 14 0 < S 1 b) ∧ S 3 b ≤ S0 14 0 + 1) ∧ (n ≤ b → (∀ i, i ≠ 4 → i ≠ 15 → S i b = S0 i b)) ∧ S 1 b ≤ S0 14 0 + 120 ∧ 0 ≤ S 3 b) ∧
  (∀ b k : Nat, b < 6 → k < 3 → ¬ ((b : Int) < C 0 1 ∧ (k : Int) < C 0 0) → S 4 (3 * b + k) = 0 ∧ S 15 (3 * b + k) = 0)
theorem end_ph {C S : SS} (hO : CfgOk C) (hB : Bd C S) (hT : S 14 0 ≤ 9999) : ∀ n : Nat, (n : Int) ≤ C 0 1 → Md C S (upF (endS C) n S) n ∧ (∀ i j, i = 2 ∨ i = 15 → upF (endS C) n S i j = S i j) := by
  intro n
  induction n with
  | zero =>
    intro _
    obtain ⟨b1, b2, b3, b4, b5, b6⟩ := hB
    exact ⟨⟨b1, fun _ _ _ _ _ _ _ _ _ => rfl, fun b hb => ⟨fun q => absurd q (Nat.not_lt_zero b), fun _ _ _ _ => rfl, (b3 b hb).2.1, (b3 b hb).2.2.1⟩, b6⟩, fun _ _ _ => rfl⟩
  | succ n ih =>
    intro hn
    have ih := ih (by omega)
    show Md C S (endS C n (upF (endS C) n S)) (n + 1) ∧ (∀ i j, i = 2 ∨ i = 15 → endS C n (upF (endS C) n S) i j = S i j)
    generalize upF (endS C) n S = E at ih ⊢
    obtain ⟨⟨m1, m2, m3, m4⟩, m5⟩ := ih
    have hnb : (n : Int) < C 0 1 := by omega
    have e14 : E 14 0 = S 14 0 := m2 14 0 (by decide) (by decide) (by decide) (by decide) (by decide) (by decide) (by decide)
    have b2 := hB.2.1
    have bn := hB.2.2.1 n hnb
    have mn := m3 n hnb
    have q0 := mn.2.1 (Nat.le_refl n) 0 (by decide) (by decide)
    have q1 := mn.2.1 (Nat.le_refl n) 1 (by decide) (by decide)
    have q2 := mn.2.1 (Nat.le_refl n) 2 (by decide) (by decide)
    have q3 := mn.2.1 (Nat.le_refl n) 3 (by decide) (by decide)
    have hA := hB.1.1 n hnb
    have hC5 := hO.2.2.2.2.2.2.1 n
    have hC6 := hO.2.2.2.2.2.2.2.1 n
    have hk3 := hO.2.1
    refine ⟨⟨AvS_end m1 hO hnb (by omega) (by omega), fun i j h0 h1 h2 h3 h4 h5 h6 => ?_, fun b hb => ?_, fun b k hb hk ht => ?_⟩, fun i j h => ?_⟩
    · show endS C n E i j = _
      rw [end_f ⟨h0, h1, h3, h4, h6⟩]; exact m2 i j h0 h1 h2 h3 h4 h5 h6
    · show (b < n + 1 → (endS C n (E) 0 b ≠ 0 → S 14 0 < endS C n (E) 1 b) ∧ endS C n (E) 3 b ≤ S 14 0 + 1) ∧ (n + 1 ≤ b → ∀ i, i ≠ 4 → i ≠ 15 → endS C n (E) i b = S i b) ∧ endS C n (E) 1 b ≤ S 14 0 + 120 ∧ 0 ≤ endS C n (E) 3 b
      have mb := m3 b hb
      by_cases e : b = n
      · subst e
        refine ⟨fun _ => ?_, fun q => absurd q (by omega), ?_⟩
        · unfold endS
          rw [e14, q0, q1, q3]
          split
          · rw [q0, q1, q3]; omega
          split
          · simp only [uS]; rw [q1, q3]; grind
          split
          · simp only [uS]; grind
          · simp only [uS]; grind
        · unfold endS
          rw [e14, q0, q1, q3]
          split
          · rw [q1, q3]; omega
          split
          · simp only [uS]; rw [q1, q3]; grind
          split
          · simp only [uS]; rw [q1]; grind
          · simp only [uS]; grind
      · rw [end_b (by decide) e, end_b (by decide) e, end_b (by decide) e]
        refine ⟨fun q => mb.1 (by omega), fun q i h1 h2 => ?_, mb.2.2⟩
        rw [end_b h1 e]
        exact mb.2.1 (by omega) i h1 h2
    · have mk := m4 b k hb hk ht
      have e15 : endS C n (E) 15 (3 * b + k) = E 15 (3 * b + k) := end_f (by decide)
      have e4 : endS C n (E) 4 (3 * b + k) = E 4 (3 * b + k) := by
        unfold endS
        split
        · rfl
        rename_i h9
        split
        · simp only [uS]; grind
        rename_i h8
        rw [e14, q0, q1] at h9
        rw [q0] at h8
        have hl : 0 ≤ S 2 n ∧ S 2 n < C 0 0 := by
          have := hA.2.2.1 (by omega)
          have := hA.2.1
          omega
        have hne : 3 * b + k ≠ 3 * n + (E 2 n).toNat := by
          rw [q2]
          intro e
          exact ht ⟨by omega, by omega⟩
        split
        · simp only [uS]; grind
        · simp only [uS]; grind
      show endS C n (E) 4 (3 * b + k) = 0 ∧ endS C n (E) 15 (3 * b + k) = 0
      rw [e4, e15]; exact mk
    · show endS C n E i j = _
      rw [end_f (by omega)]; exact m5 i j h
/-- behind the ends: benches that do something do it beyond this minute -/
def Me (C S0 S : SS) : Prop := AvS C S ∧ (∀ j, S 14 j = S0 14 j) ∧
  (∀ b : Nat, (b : Int) < C 0 1 → (S 0 b ≠ 0 → S0 14 0 < S 1 b) ∧ S 1 b ≤ S0 14 0 + 120 ∧ 0 ≤ S 3 b ∧ S 3 b ≤ S0 14 0 + 1) ∧
  (∀ b k : Nat, b < 6 → k < 3 → ¬ ((b : Int) < C 0 1 ∧ (k : Int) < C 0 0) → S 4 (3 * b + k) = 0 ∧ S 15 (3 * b + k) = 0)
theorem Me_end {C S : SS} (hO : CfgOk C) (hB : Bd C S) (hT : S 14 0 ≤ 9999) : Me C S (upF (endS C) (C 0 1).toNat S) := by
  have h1 := hO.2.2.1
  obtain ⟨⟨m1, m2, m3, m4⟩, m5⟩ := end_ph hO hB hT (C 0 1).toNat (by omega)
  refine ⟨m1, fun j => m2 14 j (by decide) (by decide) (by decide) (by decide) (by decide) (by decide) (by decide), fun b hb => ?_, m4⟩
  have q := m3 b hb
  have q1 := q.1 (by omega)
  exact ⟨q1.1, q.2.2.1, q.2.2.2, q1.2⟩
theorem srv_f {C S : SS} {n i j : Nat} (h : i ≠ 4 ∧ i ≠ 5 ∧ i ≠ 6 ∧ i ≠ 12 ∧ i ≠ 15 ∧ i ≠ 16) : srvS C n S i j = S i j := by
  unfold srvS
  grind
theorem Me_srv {C S0 S : SS} {n : Nat} (hO : CfgOk C) (hM : Me C S0 S) (hn : (n : Int) ≤ C 0 0) (hc : ∀ k : Nat, (k : Int) < C 0 0 → 0 ≤ S 5 k + arS C k (S 14 0) - S 6 k) : Me C S0 (srvS C n S) := by
  obtain ⟨m1, m2, m3, m4⟩ := hM
  refine ⟨AvS_srv m1 hO hn hc, fun j => by rw [srv_f (by decide)]; exact m2 j, fun b hb => ?_, fun b k hb hk ht => ?_⟩
  · rw [srv_f (by decide), srv_f (by decide), srv_f (by decide)]; exact m3 b hb
  · have q := m4 b k hb hk ht
    have h1 := hO.2.2.1
    have hk3 := hO.2.1
    have e : ∀ a, a = 4 ∨ a = 15 → srvS C n S a (3 * b + k) = S a (3 * b + k) := by
      intro a ha
      unfold srvS
      rw [if_neg (by omega), if_neg (by omega), if_neg (by omega), if_neg (fun z => ht ⟨by omega, by omega⟩), if_neg (by omega)]
    rw [e 4 (Or.inl rfl), e 15 (Or.inr rfl)]; exact q
theorem Me_sta {C S0 S : SS} {w : Nat → Int} {b : Nat} (hO : CfgOk C) (hW : WyOk C w) (hM : Me C S0 S) (hb : (b : Int) < C 0 1) (hT : 0 ≤ S0 14 0) (hT2 : S0 14 0 ≤ 9999) : Me C S0 (staS C w b S) := by
  obtain ⟨m1, m2, m3, m4⟩ := hM
  have e14 := m2 0
  refine ⟨AvS_sta m1 hO hW hb (by omega) (by omega), fun j => by rw [sta_f (by decide)]; exact m2 j, fun b' hb' => ?_, fun b' k' hb' hk' ht => ?_⟩
  · by_cases e : b' = b
    · subst e
      rw [sta_f (i := 3) (by decide)]
      have q := m3 b' hb
      unfold staS
      split
      · cases hbe : beS C w S b' (C 0 0).toNat with
        | none => exact q
        | some k =>
          have hkl := beS_lt hO _ (Nat.le_refl _) k hbe
          have hw := hW.1 b' k hb (by omega)
          have hB := hO.2.2.2.2.2.2.1 b'
          have e1 : begS C w b' k S 1 b' = S 14 0 + w (18 + (3 * b' + k)) + (if S 2 b' ≠ -2 ∧ S 2 b' ≠ k then C 3 b' else 0) := by
            unfold begS
            rw [uS_nf (by decide), uS_nf (by decide), uS_nf (by decide), uS_eq]
          show (begS C w b' k S 0 b' ≠ 0 → S0 14 0 < begS C w b' k S 1 b') ∧ begS C w b' k S 1 b' ≤ S0 14 0 + 120 ∧ 0 ≤ S 3 b' ∧ S 3 b' ≤ S0 14 0 + 1
          rw [e1]
          split <;> omega
      · exact q
    · rw [sta_b (by decide) e, sta_b (by decide) e, sta_b (by decide) e]; exact m3 b' hb'
  · have q := m4 b' k' hb' hk' ht
    have hk3 := hO.2.1
    unfold staS
    split
    · cases hbe : beS C w S b (C 0 0).toNat with
      | none => exact q
      | some k =>
        have hkl := beS_lt hO _ (Nat.le_refl _) k hbe
        have ne1 : 3 * b' + k' ≠ 3 * b + k := fun z => ht ⟨by omega, by omega⟩
        have ne2 : 0 < b → 3 * b' + k' ≠ 3 * (b - 1) + k := fun _ z => ht ⟨by omega, by omega⟩
        show begS C w b k S 4 (3 * b' + k') = 0 ∧ begS C w b k S 15 (3 * b' + k') = 0
        unfold begS takS
        by_cases eb : b = 0
        · rw [if_pos eb]; simp only [uS]; grind
        · rw [if_neg eb]
          have ne2 := ne2 (by omega)
          simp only [uS]; grind
    · exact q
theorem dn_ph {C S0 : SS} {w : Nat → Int} (hO : CfgOk C) (hW : WyOk C w) (hT : 0 ≤ S0 14 0) (hT2 : S0 14 0 ≤ 9999) : ∀ (n : Nat) (S : SS), (n : Int) ≤ C 0 1 → Me C S0 S → Me C S0 (dnF (staS C w) n S) ∧ ∀ i j, i ≠ 0 → i ≠ 1 → i ≠ 2 → i ≠ 4 → i ≠ 15 → i ≠ 17 → dnF (staS C w) n S i j = S i j := by
  intro n
  induction n with
  | zero => intro S _ h; exact ⟨h, fun _ _ _ _ _ _ _ _ => rfl⟩
  | succ n ih =>
    intro S hn h
    obtain ⟨q1, q2⟩ := ih (staS C w n S) (by omega) (Me_sta hO hW h (by omega) hT hT2)
    exact ⟨q1, fun i j h0 h1 h2 h4 h15 h17 => (q2 i j h0 h1 h2 h4 h15 h17).trans (sta_f ⟨h0, h1, h2, h4, h15, h17⟩)⟩
/-- the counting leaves all but counts alone -/
theorem tal_ph {C : SS} {w : Nat → Int} (S : SS) : ∀ (n : Nat) (i j : Nat), i ≠ 7 → i ≠ 8 → i ≠ 9 → i ≠ 10 → i ≠ 14 → upF (talS C w) n S i j = S i j := by
  intro n
  induction n with
  | zero => intro _ _ _ _ _ _ _; rfl
  | succ n ih => intro i j h1 h2 h3 h4 h5; exact (tal_f ⟨h1, h2, h3, h4, h5⟩).trans (ih i j h1 h2 h3 h4 h5)
theorem pea_ph {C : SS} (S : SS) : ∀ (n : Nat) (i j : Nat), i ≠ 11 → upF (peaS C) n S i j = S i j := by
  intro n
  induction n with
  | zero => intro _ _ _; rfl
  | succ n ih =>
    intro i j h
    show peaS C n (upF (peaS C) n S) i j = S i j
    unfold peaS
    rw [uS_nf h]
    exact ih i j h
theorem tal_14 {C : SS} {w : Nat → Int} (S : SS) : ∀ n : Nat, upF (talS C w) n S 14 0 = S 14 0 ∧ (∀ b, n ≤ b → upF (talS C w) n S 7 b = S 7 b) ∧ (∀ b, b < n → upF (talS C w) n S 7 b = S 7 b ∨ upF (talS C w) n S 7 b = S 7 b + 1) ∧ ((upF (talS C w) n S 14 1 = S 14 1 ∧ upF (talS C w) n S 14 2 = S 14 2) ∨ (upF (talS C w) n S 14 1 = S 14 0 ∧ ∃ b : Nat, b < n ∧ upF (talS C w) n S 14 2 = b)) := by
  intro n
  induction n with
  | zero => exact ⟨rfl, fun _ _ => rfl, fun b h => absurd h (Nat.not_lt_zero b), Or.inl ⟨rfl, rfl⟩⟩
  | succ n ih =>
    show talS C w n (upF (talS C w) n S) 14 0 = S 14 0 ∧ (∀ b, n + 1 ≤ b → talS C w n (upF (talS C w) n S) 7 b = S 7 b) ∧ (∀ b, b < n + 1 → talS C w n (upF (talS C w) n S) 7 b = S 7 b ∨ talS C w n (upF (talS C w) n S) 7 b = S 7 b + 1) ∧ ((talS C w n (upF (talS C w) n S) 14 1 = S 14 1 ∧ talS C w n (upF (talS C w) n S) 14 2 = S 14 2) ∨ (talS C w n (upF (talS C w) n S) 14 1 = S 14 0 ∧ ∃ b : Nat, b < n + 1 ∧ talS C w n (upF (talS C w) n S) 14 2 = b))
    generalize upF (talS C w) n S = E at ih ⊢
    obtain ⟨i1, i2, i3, i4⟩ := ih
    have t7 : ∀ b, b ≠ n → talS C w n E 7 b = E 7 b := by
      intro b hb
      unfold talS
      split
      · exact uS_ni hb
      split
      · exact uS_nf (by decide)
      split
      · split
        · rw [uS_nf (by decide), uS_nf (by decide), uS_nf (by decide)]
        · exact uS_nf (by decide)
      · exact uS_nf (by decide)
    have t7n : talS C w n E 7 n = E 7 n ∨ talS C w n E 7 n = E 7 n + 1 := by
      unfold talS
      split
      · right; exact uS_eq _ _ _ _
      split
      · left; exact uS_nf (by decide)
      split
      · split
        · left; rw [uS_nf (by decide), uS_nf (by decide), uS_nf (by decide)]
        · left; exact uS_nf (by decide)
      · left; exact uS_nf (by decide)
    have tf : (talS C w n E 14 0 = E 14 0) ∧ ((talS C w n E 14 1 = E 14 1 ∧ talS C w n E 14 2 = E 14 2) ∨ (talS C w n E 14 1 = E 14 0 ∧ talS C w n E 14 2 = n)) := by
      unfold talS
      split
      · simp only [uS]; grind
      split
      · simp only [uS]; grind
      split
      · split
        · simp only [uS]; grind
        · simp only [uS]; grind
      · simp only [uS]; grind
    refine ⟨tf.1.trans i1, fun b hb => (t7 b (by omega)).trans (i2 b (by omega)), fun b hb => ?_, ?_⟩
    · by_cases e : b = n
      · subst e; rw [i2 b (Nat.le_refl b)] at t7n; exact t7n
      · rw [t7 b e]; exact i3 b (by omega)
    · rcases tf.2 with ⟨x, y⟩ | ⟨x, y⟩
      · rw [x, y]
        rcases i4 with z | ⟨z, b, zb, zz⟩
        · exact Or.inl z
        · exact Or.inr ⟨z, b, by omega, zz⟩
      · right; rw [x, y, i1]; exact ⟨rfl, n, by omega, rfl⟩
theorem waS_bd {C S : SS} {b : Nat} (A : AvS C S) (hb : (b : Int) < C 0 1) : ∀ n : Nat, (n : Int) ≤ C 0 0 → 0 ≤ waS S b n ∧ waS S b n ≤ 9 * n := by
  intro n
  induction n with
  | zero => intro _; exact ⟨Int.le_refl _, Int.le_refl _⟩
  | succ n ih =>
    intro hn
    have i1 := ih (by omega)
    obtain ⟨s1, s2, s3⟩ := A.2 b n hb (by omega)
    have : S 4 (3 * b + n) ≤ S 15 (3 * b + n) := by rw [s2]; split <;> omega
    unfold waS
    omega
theorem pea_11 {C S : SS} (hO : CfgOk C) (A : AvS C S) (hp : ∀ b : Nat, (b : Int) < C 0 1 → 0 ≤ S 11 b ∧ S 11 b ≤ 27) : ∀ n : Nat, (n : Int) ≤ C 0 1 → ∀ b : Nat, (b : Int) < C 0 1 → 0 ≤ upF (peaS C) n S 11 b ∧ upF (peaS C) n S 11 b ≤ 27 := by
  intro n
  induction n with
  | zero => intro _; exact hp
  | succ n ih =>
    intro hn b hb
    have i1 := ih (by omega) b hb
    have hk3 := hO.2.1
    have hk1 := hO.1
    have w1 := waS_bd A (b := n) (by omega) (C 0 0).toNat (by omega)
    have e : ∀ m, waS (upF (peaS C) n S) n m = waS S n m := by
      intro m
      induction m with
      | zero => rfl
      | succ m im => unfold waS; rw [im, pea_ph S n 4 _ (by decide)]
    show 0 ≤ peaS C n (upF (peaS C) n S) 11 b ∧ peaS C n (upF (peaS C) n S) 11 b ≤ 27
    have i2 := ih (by omega) n (by omega)
    generalize upF (peaS C) n S = E9 at e i1 i2 ⊢
    unfold peaS
    rw [e]
    by_cases eb : b = n
    · subst eb; rw [uS_eq]; omega
    · rw [uS_ni eb]; exact i1

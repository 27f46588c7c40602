theorem s1_at (M : Mm) (k : Nat) (f : Nat → Int32) (q j : Nat) : (s1 M k f).1 q j = if q = k then f j else M.1 q j := by
  unfold s1
  show (if q = k then f else M.1 q) j = _
  split <;> rfl
/-- a run's start; a: wares that lie -/
def stS (a : Nat → Int) : SS := fun i j => if i = 2 ∨ i = 12 ∨ i = 17 then -2 else if i = 14 ∧ (j = 1 ∨ j = 2) then -2 else if i = 4 ∨ i = 15 then a j else 0
def bgS (C : SS) (a : Nat → Int) : SS := upF (peaS C) (C 0 1).toNat (stS a)
def aOk (C : SS) (a : Nat → Int) : Prop := (∀ b k : Nat, (b : Int) < C 0 1 → (k : Int) < C 0 0 → 0 ≤ a (3 * b + k) ∧ a (3 * b + k) ≤ 9) ∧ ∀ b k : Nat, b < 6 → k < 3 → ¬ ((b : Int) < C 0 1 ∧ (k : Int) < C 0 0) → a (3 * b + k) = 0
theorem aOk_0 (C : SS) : aOk C (fun _ => 0) := ⟨fun _ _ _ _ => ⟨Int.le_refl 0, (by decide : (0 : Int) ≤ 9)⟩, fun _ _ _ _ _ => rfl⟩
theorem aOk_w {C : SS} {w : Nat → Int} (hW : WyOk C w) (h0 : w0 C w) : aOk C w := ⟨fun b k hb hk => ⟨(hW.1 b k hb hk).1, (hW.1 b k hb hk).2.1⟩, fun b k hb hk h => (h0 b k hb hk h).1⟩
theorem AvS_st {C : SS} {a : Nat → Int} (h : aOk C a) : AvS C (stS a) := by
  refine ⟨fun b _ => ⟨Or.inl rfl, Or.inl rfl, fun q => absurd q (by decide : ¬ ((0 : Int) = 1)), rfl, Int.le_refl 0, (by decide : (0 : Int) ≤ 20000)⟩, fun b k hb hk => ?_⟩
  have := h.1 b k hb hk
  exact ⟨this.1, by show a _ = a _ + 0; omega, this.2⟩
theorem pea_val {C : SS} (S : SS) : ∀ n b : Nat, upF (peaS C) n S 11 b = if b < n then max (S 11 b) (waS S b (C 0 0).toNat) else S 11 b := by
  have wa : ∀ (S S2 : SS) (b n : Nat), (∀ c, S2 4 c = S 4 c) → waS S2 b n = waS S b n := by
    intro S S2 b n h
    induction n with
    | zero => rfl
    | succ n ih => show waS S2 b n + S2 4 _ = waS S b n + S 4 _; rw [ih, h]
  intro n
  induction n with
  | zero => intro b; rw [if_neg (by omega)]; rfl
  | succ n ih =>
    intro b
    show uS (upF (peaS C) n S) 11 n (max (upF (peaS C) n S 11 n) (waS (upF (peaS C) n S) n (C 0 0).toNat)) 11 b = _
    rw [wa S _ n _ (fun c => pea_ph S n 4 c (by decide)), ih n, if_neg (by omega)]
    unfold uS
    by_cases e : b = n
    · subst e; rw [if_pos ⟨rfl, rfl⟩, if_pos (by omega)]
    · rw [if_neg (fun q => e q.2), ih b]
      by_cases e2 : b < n
      · rw [if_pos e2, if_pos (by omega)]
      · rw [if_neg e2, if_neg (by omega)]
theorem Bd_bg {C : SS} {a : Nat → Int} (hO : CfgOk C) (h : aOk C a) : Bd C (bgS C a) ∧ QBd C (bgS C a) (fun _ _ => 0) ∧ bgS C a 14 0 = 0 ∧ totS (bgS C a) (C 0 0).toNat = 0 := by
  have A := AvS_st h
  have f : ∀ i j, i ≠ 11 → bgS C a i j = stS a i j := fun i j hi => pea_ph _ _ i j hi
  have hb1 := hO.2.2.1
  have p11 := pea_11 hO A (fun b _ => ⟨Int.le_refl 0, (by decide : (0 : Int) ≤ 27)⟩) (C 0 1).toNat (by omega)
  have e14 : bgS C a 14 0 = 0 := f 14 0 (by decide)
  refine ⟨⟨AvS_congr A (fun b _ => ⟨f 0 b (by decide), f 1 b (by decide), f 2 b (by decide), f 17 b (by decide)⟩) (fun b k _ _ => ⟨f 4 _ (by decide), f 15 _ (by decide)⟩), by rw [e14]; decide, fun b hb => ?_, fun k hk => ?_, ?_, fun b k hb hk h3 => ?_⟩, fun k hk => ?_, e14, ?_⟩
  · rw [e14, f 0 b (by decide), f 1 b (by decide), f 3 b (by decide), f 7 b (by decide)]
    have := p11 b hb
    exact ⟨fun q => absurd rfl q, (by decide : (0 : Int) ≤ 0 + 120), Int.le_refl 0, Int.le_refl 0, Int.le_refl 0, Int.le_refl 0, this.1, this.2⟩
  · rw [e14, f 5 k (by decide), f 6 k (by decide), f 12 k (by decide), f 16 k (by decide)]
    exact ⟨Int.le_refl 0, Int.le_refl 0, rfl, rfl, Or.inl rfl⟩
  · rw [f 14 1 (by decide)]; exact Or.inl rfl
  · rw [f 4 _ (by decide), f 15 _ (by decide)]; exact ⟨h.2 b k hb hk h3, h.2 b k hb hk h3⟩
  · rw [e14, f 5 k (by decide), f 6 k (by decide), f 13 k (by decide)]
    exact ⟨⟨rfl, 0, rfl, Nat.le_refl _, Int.le_refl _, (arS_bd hO k _).1, rfl⟩, rfl⟩
  · have : ∀ n, totS (bgS C a) n = 0 := by
      intro n
      induction n with
      | zero => rfl
      | succ n ih => show totS _ n + bgS C a 6 n = 0; rw [ih, f 6 n (by decide)]; rfl
    exact this _
theorem X_st_35 {C : SS} {a : Nat → Int} {X : Mm} (hO : CfgOk C) (hC : CfgX C X) (ha : aOk C a) (h1 : ∀ c, c < 18 → X.1 36 c = iI (a c)) (h2 : ∀ c, c < 18 → X.1 37 c = iI (a c)) : ∃ Y, j_L_start_35_56 X = some Y ∧ RelX 35 (bgS C a) 0 Y ∧ OnlyX 35 X Y := by
  obtain ⟨X1, e1⟩ : ∃ X1, X1 = u1 (u1 (u1 (u1 (s1 (s1 (s1 (s1 (s1 (s1 (s1 (s1 (s1 (s1 X 38 (fil (X.1 38) 6 0)) 39 (fil (X.1 39) 6 (-2))) 40 (fil (X.1 40) 6 0)) 41 (fil (X.1 41) 6 0)) 42 (fil (X.1 42) 24 0)) 43 (fil (X.1 43) 6 0)) 44 (fil (X.1 44) 3 0)) 45 (fil (X.1 45) 3 0)) 46 (fil (X.1 46) 3 0)) 47 (fil (X.1 47) 3 (-2))) 35 14 0) 35 15 0) 35 16 (-2)) 35 17 (-2) := ⟨_, rfl⟩
  have ev : j_L_start_35_56 X = (f_L_raisePeaks_35 X1).bind fun M15 => some M15 := by
    unfold j_L_start_35_56
    rw [e1]
    rfl
  have o : OnlyX 35 X X1 := by
    rw [e1]
    refine ⟨fun q hq => ?_, rfl⟩
    rw [u1_ne (by omega), u1_ne (by omega), u1_ne (by omega), u1_ne (by omega), s1_ne (by omega), s1_ne (by omega), s1_ne (by omega), s1_ne (by omega), s1_ne (by omega), s1_ne (by omega), s1_ne (by omega), s1_ne (by omega), s1_ne (by omega), s1_ne (by omega)]
  have r : RelX 35 (stS a) 0 X1 := by
    rw [e1]
    refine ⟨fun i j hi hj => ?_, ?_⟩
    · rcases fdX_c hi with rfl | rfl | rfl | rfl | rfl | rfl | rfl | rfl | rfl | rfl | rfl | rfl | rfl | rfl | rfl | rfl <;> simp only [szX] at hj <;> simp only [plX, ixX, u1_at, s1_at, fil, stS]
      · simp [hj]; exact l0
      · simp [hj]; exact l0
      · simp [hj]; exact lm2
      · simp [hj]; exact l0
      · simp; exact h1 j hj
      · simp [hj]; exact l0
      · have q : 4 * j < 24 := by omega
        simp [q]; exact l0
      · have q : 4 * j + 1 < 24 := by omega
        simp [q]; exact l0
      · have q : 4 * j + 2 < 24 := by omega
        simp [q]; exact l0
      · have q : 4 * j + 3 < 24 := by omega
        simp [q]; exact l0
      · simp [hj]; exact l0
      · simp [hj]; exact lm2
      · simp [hj]; exact l0
      · have q : j = 0 ∨ j = 1 ∨ j = 2 := by omega
        rcases q with rfl | rfl | rfl <;> simp <;> first | exact l0 | exact lm2
      · simp; exact h2 j hj
      · simp [hj]; exact l0
    · simp only [u1_at]; rfl
  obtain ⟨Y, y1, y2, y3⟩ := X_peaks_35 (o.cfg (by decide) hC) hO r (AvS_st ha) (fun b _ => ⟨Int.le_refl 0, (by decide : (0 : Int) ≤ 27)⟩)
  exact ⟨Y, by rw [ev, y1]; rfl, y2, o.tr y3⟩
theorem X_st_52 {C : SS} {a : Nat → Int} {X : Mm} (hO : CfgOk C) (hC : CfgX C X) (ha : aOk C a) (h1 : ∀ c, c < 18 → X.1 53 c = iI (a c)) (h2 : ∀ c, c < 18 → X.1 54 c = iI (a c)) : ∃ Y, j_L_start_52_56 X = some Y ∧ RelX 52 (bgS C a) 0 Y ∧ OnlyX 52 X Y := by
  obtain ⟨X1, e1⟩ : ∃ X1, X1 = u1 (u1 (u1 (u1 (s1 (s1 (s1 (s1 (s1 (s1 (s1 (s1 (s1 (s1 X 55 (fil (X.1 55) 6 0)) 56 (fil (X.1 56) 6 (-2))) 57 (fil (X.1 57) 6 0)) 58 (fil (X.1 58) 6 0)) 59 (fil (X.1 59) 24 0)) 60 (fil (X.1 60) 6 0)) 61 (fil (X.1 61) 3 0)) 62 (fil (X.1 62) 3 0)) 63 (fil (X.1 63) 3 0)) 64 (fil (X.1 64) 3 (-2))) 52 14 0) 52 15 0) 52 16 (-2)) 52 17 (-2) := ⟨_, rfl⟩
  have ev : j_L_start_52_56 X = (f_L_raisePeaks_52 X1).bind fun M15 => some M15 := by
    unfold j_L_start_52_56
    rw [e1]
    rfl
  have o : OnlyX 52 X X1 := by
    rw [e1]
    refine ⟨fun q hq => ?_, rfl⟩
    rw [u1_ne (by omega), u1_ne (by omega), u1_ne (by omega), u1_ne (by omega), s1_ne (by omega), s1_ne (by omega), s1_ne (by omega), s1_ne (by omega), s1_ne (by omega), s1_ne (by omega), s1_ne (by omega), s1_ne (by omega), s1_ne (by omega), s1_ne (by omega)]
  have r : RelX 52 (stS a) 0 X1 := by
    rw [e1]
    refine ⟨fun i j hi hj => ?_, ?_⟩
    · rcases fdX_c hi with rfl | rfl | rfl | rfl | rfl | rfl | rfl | rfl | rfl | rfl | rfl | rfl | rfl | rfl | rfl | rfl <;> simp only [szX] at hj <;> simp only [plX, ixX, u1_at, s1_at, fil, stS]
      · simp [hj]; exact l0
      · simp [hj]; exact l0
      · simp [hj]; exact lm2
      · simp [hj]; exact l0
      · simp; exact h1 j hj
      · simp [hj]; exact l0
      · have q : 4 * j < 24 := by omega
        simp [q]; exact l0
      · have q : 4 * j + 1 < 24 := by omega
        simp [q]; exact l0
      · have q : 4 * j + 2 < 24 := by omega
        simp [q]; exact l0
      · have q : 4 * j + 3 < 24 := by omega
        simp [q]; exact l0
      · simp [hj]; exact l0
      · simp [hj]; exact lm2
      · simp [hj]; exact l0
      · have q : j = 0 ∨ j = 1 ∨ j = 2 := by omega
        rcases q with rfl | rfl | rfl <;> simp <;> first | exact l0 | exact lm2
      · simp; exact h2 j hj
      · simp [hj]; exact l0
    · simp only [u1_at]; rfl
  obtain ⟨Y, y1, y2, y3⟩ := X_peaks_52 (o.cfg (by decide) hC) hO r (AvS_st ha) (fun b _ => ⟨Int.le_refl 0, (by decide : (0 : Int) ≤ 27)⟩)
  exact ⟨Y, by rw [ev, y1]; rfl, y2, o.tr y3⟩

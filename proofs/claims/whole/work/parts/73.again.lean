theorem sn_bd {C S : SS} {m j : Nat} (hO : CfgOk C) (hS : SgOk C S) (hB : Bd C S) (z : ∀ i k, i = 5 ∨ i = 6 → (C 0 0).toNat ≤ k → S i k = 0) (hm : m < 2000) (hj : j < 49) : -100000 ≤ snS C S m j ∧ snS C S m j ≤ 100000 := by
  have hk3 := hO.2.1
  unfold snS
  by_cases j1 : j < 24
  · rw [if_pos j1]
    by_cases hb : ((j / 4 : Nat) : Int) < C 0 1
    · rw [if_pos hb]
      obtain ⟨a1, a2, a3, a4, a5, a6, a7, a8⟩ := hS.1 (j / 4) hb
      have h14 := hS.2.2.2.2
      have c5 := hO.2.2.2.2.2.2.1 (j / 4)
      split
      · omega
      · split
        · split <;> omega
        · split
          · omega
          · split
            · omega
            · have m1 := Int.emod_nonneg (S 3 (j / 4)) (show C 5 (j / 4) ≠ 0 by omega)
              have m2 := Int.emod_lt_of_pos (S 3 (j / 4)) (show 0 < C 5 (j / 4) by omega)
              omega
    · rw [if_neg hb]; omega
  · rw [if_neg j1]
    by_cases j2 : j < 42
    · rw [if_pos j2]
      have := hS.2.1 (j - 24) (by omega)
      omega
    · rw [if_neg j2]
      by_cases j3 : j < 45
      · rw [if_pos j3]
        by_cases hk : ((j - 42 : Nat) : Int) < C 0 0
        · obtain ⟨x1, x2, x3, x4, x5⟩ := hB.2.2.2.1 (j - 42) hk
          have h14 := hS.2.2.2.2
          have := cuA_bd hO (j - 42) (S 14 0).toNat
          omega
        · rw [z 5 _ (Or.inl rfl) (by omega), z 6 _ (Or.inr rfl) (by omega)]; omega
      · rw [if_neg j3]
        split
        · rename_i q
          have c7 := hO.2.2.2.2.2.2.2.2 (j - 45) q.1
          have m1 := Int.emod_nonneg ((m : Int) - C 8 (j - 45)) (show C 7 (j - 45) ≠ 0 by omega)
          have m2 := Int.emod_lt_of_pos ((m : Int) - C 8 (j - 45)) (show 0 < C 7 (j - 45) by omega)
          omega
        · omega
theorem M_alike {M : Mm} {m o : Nat} {g g2 : Nat → Int} (hm : m < 2000) (ho : o < 2000) (b1 : ∀ j, j < 49 → -100000 ≤ g j ∧ g j ≤ 100000) (b2 : ∀ j, j < 49 → -100000 ≤ g2 j ∧ g2 j ≤ 100000) (h1 : ∀ j, j < 49 → M.1 19 (49 * m + j) = iI (g j)) (h2 : ∀ j, j < 49 → M.1 19 (49 * o + j) = iI (g2 j)) : ((∀ j, j < 49 → g j = g2 j) ∧ f_M_areAlike_0 (iI (m : Int)) (iI (o : Int)) M = some 1) ∨ (¬ (∀ j, j < 49 → g j = g2 j) ∧ f_M_areAlike_0 (iI (m : Int)) (iI (o : Int)) M = some 0) := by
  have r1 : ∀ j : Nat, j < 49 → rd (M.1 19) 98000 (iI (49 * (m : Int) + j)) = some (iI (g j)) := fun j hj => by
    rw [rd_iI (by omega) (by omega) (by omega), show (49 * (m : Int) + j).toNat = 49 * m + j by omega, h1 j hj]
  have r2 : ∀ j : Nat, j < 49 → rd (M.1 19) 98000 (iI (49 * (o : Int) + j)) = some (iI (g2 j)) := fun j hj => by
    rw [rd_iI (by omega) (by omega) (by omega), show (49 * (o : Int) + j).toNat = 49 * o + j by omega, h2 j hj]
  have key : ∀ k j f : Nat, j + k = 49 → k + 1 < f → (∀ i, i < j → g i = g2 i) → ((∀ j, j < 49 → g j = g2 j) ∧ lp_M_areAlike_0_5 f (iI (m : Int)) (iI (o : Int)) 1 (iI (j : Int)) M = some 1) ∨ (¬ (∀ j, j < 49 → g j = g2 j) ∧ lp_M_areAlike_0_5 f (iI (m : Int)) (iI (o : Int)) 1 (iI (j : Int)) M = some 0) := by
    intro k
    induction k with
    | zero =>
      intro j f hj hf ha
      obtain ⟨f, rfl⟩ : ∃ g, f = g + 1 := ⟨f - 1, by omega⟩
      have : j = 49 := by omega
      subst this
      exact Or.inl ⟨ha, rfl⟩
    | succ k ih =>
      intro j f hj hf ha
      obtain ⟨f, rfl⟩ : ∃ g, f = (g + 1) + 1 := ⟨f - 2, by omega⟩
      have c0 : ¬ (49 ≤ iI (j : Int)) := by rw [show (49 : Int32) = iI 49 from rfl, iI_le (by omega) (by omega) (by omega) (by omega)]; omega
      have x1 := b1 j (by omega)
      have x2 := b2 j (by omega)
      have ce : (iI (g j) = iI (g2 j)) ↔ g j = g2 j := iI_eq (by omega) (by omega) (by omega) (by omega)
      have ev : lp_M_areAlike_0_5 (f + 1 + 1) (iI (m : Int)) (iI (o : Int)) 1 (iI (j : Int)) M = if iI (g j) = iI (g2 j) then lp_M_areAlike_0_5 (f + 1) (iI (m : Int)) (iI (o : Int)) 1 (iI ((j + 1 : Nat) : Int)) M else lp_M_areAlike_0_5 (f + 1) (iI (m : Int)) (iI (o : Int)) 0 (iI ((j + 1 : Nat) : Int)) M := by
        show blp_M_areAlike_0_5 (lp_M_areAlike_0_5 (f + 1)) _ _ _ _ M = _
        unfold blp_M_areAlike_0_5 j_M_areAlike_0_48
        rw [if_neg n10, if_neg c0, show (49 : Int32) = iI 49 from rfl, iI_mul, iI_add, r1 j (by omega), Option.bind_some, iI_mul, iI_add, r2 j (by omega), Option.bind_some, show iI (j : Int) + 1 = iI ((j + 1 : Nat) : Int) by rw [l1, iI_add]; rfl]
      rw [ev]
      by_cases e : g j = g2 j
      · rw [if_pos (ce.mpr e)]
        exact ih (j + 1) (f + 1) (by omega) (by omega) (fun i hi => by
          by_cases q : i = j
          · rw [q]; exact e
          · exact ha i (by omega))
      · rw [if_neg (fun q => e (ce.mp q))]
        exact Or.inr ⟨fun q => e (q j (by omega)), rfl⟩
  unfold f_M_areAlike_0
  rw [l0]
  exact key 49 0 FW (by omega) (FW_gt (by omega)) (fun i hi => absurd hi (by omega))
/-- the stands of the minutes before i -/
def StR (C : SS) (w : Nat → Int) (i : Nat) (M : Mm) : Prop := ∀ o, o < i → ∀ j, j < 49 → M.1 19 (49 * o + j) = iI (snS C (paS C w o) o j)
theorem M_back {C : SS} {w : Nat → Int} {M : Mm} {m : Nat} {x1 x2 : Int32} (rc : Int32 → Int32 → Int32 → Int32 → Mm → Option (Int32 × Mm)) (hO : CfgOk C) (hW : WyOk C w) (hm : m < 2000) (hS : StR C w (m + 1) M) : ∀ (n f : Nat), n ≤ m → n < f → lp_M_comesAgain_0_128 rc f x1 x2 (iI (bgC C : Int)) (iI (m : Int)) (iI ((n : Int) - 1)) M = if laS (fun o => alS C (paS C w m) (paS C w o)) (bgC C) n = -1 then rc x1 x2 (iI (bgC C : Int)) (iI ((m + 1 : Nat) : Int)) M else j_M_comesAgain_0_145 x2 (iI (m : Int)) (iI (laS (fun o => alS C (paS C w m) (paS C w o)) (bgC C) n)) M := by
  have hbg := bgC_b hO
  intro n
  induction n with
  | zero =>
    intro f hn hf
    obtain ⟨f, rfl⟩ : ∃ g, f = g + 1 := ⟨f - 1, by omega⟩
    rw [if_pos (show laS (fun o => alS C (paS C w m) (paS C w o)) (bgC C) 0 = -1 from rfl)]
    show blp_M_comesAgain_0_128 rc (lp_M_comesAgain_0_128 rc f) _ _ _ _ _ M = _
    unfold blp_M_comesAgain_0_128 j_M_comesAgain_0_170
    have c0 : iI (((0 : Nat) : Int) - 1) < iI (bgC C : Int) := (iI_lt (by omega) (by omega) (by omega) (by omega)).mpr (by omega)
    rw [if_pos c0, l1, iI_add]
    rfl
  | succ n ih =>
    intro f hn hf
    obtain ⟨f, rfl⟩ : ∃ g, f = g + 1 := ⟨f - 1, by omega⟩
    have c0 : (iI (((n + 1 : Nat) : Int) - 1) < iI (bgC C : Int)) ↔ n < bgC C := by rw [iI_lt (by omega) (by omega) (by omega) (by omega)]; omega
    have e1 : ((n + 1 : Nat) : Int) - 1 = (n : Int) := by omega
    have ev : lp_M_comesAgain_0_128 rc (f + 1) x1 x2 (iI (bgC C : Int)) (iI (m : Int)) (iI (((n + 1 : Nat) : Int) - 1)) M = if n < bgC C then rc x1 x2 (iI (bgC C : Int)) (iI ((m + 1 : Nat) : Int)) M else (f_M_areAlike_0 (iI (m : Int)) (iI (n : Int)) M).bind fun v2 => if v2 = 0 then lp_M_comesAgain_0_128 rc f x1 x2 (iI (bgC C : Int)) (iI (m : Int)) (iI ((n : Int) - 1)) M else j_M_comesAgain_0_145 x2 (iI (m : Int)) (iI (n : Int)) M := by
      show blp_M_comesAgain_0_128 rc (lp_M_comesAgain_0_128 rc f) _ _ _ _ _ M = _
      unfold blp_M_comesAgain_0_128 j_M_comesAgain_0_170
      by_cases q : n < bgC C
      · rw [if_pos (c0.mpr q), if_pos q, l1, iI_add]; rfl
      · rw [if_neg (fun z => q (c0.mp z)), if_neg q, e1, lm1, iI_add]
        rfl
    rw [ev]
    by_cases q : n < bgC C
    · rw [if_pos q, if_pos (la_no _ (fun o a b => absurd a (by omega)))]
    · rw [if_neg q]
      obtain ⟨bm, em⟩ := bd_pa hO hW (n := m + 1) (by omega)
      obtain ⟨bn, en⟩ := bd_pa hO hW (n := n + 1) (by omega)
      have eq := sn_al (m := m) (o := n) hO hW hm (by omega) (by omega) (by omega)
      rcases M_alike (m := m) (o := n) hm (by omega) (fun j hj => sn_bd hO (sg_pa hO hW hm (by omega)) bm (fun i k hi hk => pa_56 hi hk _) hm hj) (fun j hj => sn_bd hO (sg_pa hO hW (by omega) (by omega)) bn (fun i k hi hk => pa_56 hi hk _) (by omega) hj) (hS m (by omega)) (hS n (by omega)) with ⟨z1, z2⟩ | ⟨z1, z2⟩
      · rw [z2, Option.bind_some, if_neg n10, la_t ⟨by omega, eq.mp z1⟩, if_neg (by omega)]
      · rw [z2, Option.bind_some, if_pos rfl, la_f (fun z => z1 (eq.mpr z.2))]
        exact ih f (by omega) (by omega)
theorem M_fa {C : SS} {w : Nat → Int} {t : Nat} (x2 : Int32) (hO : CfgOk C) (hW : WyOk C w) (ht : t ≤ 2000) : ∀ (k i f : Nat) (M : Mm) (Q : SS), i + k = t → k < f → CfgM C M → WyM 12 w M → RelM 16 (itS C w i (bgS C (fun _ => 0))) Q M → QBd C (itS C w i (bgS C (fun _ => 0))) Q → StR C w i M → ∃ N, lp_M_comesAgain_0_98 f (iI t) x2 (iI (bgC C : Int)) (iI i) M = ((f_M_good_0 (if x2 = 0 ∨ (agS (laM C w) k i).1 = -2 then iI (agS (laM C w) k i).1 else iI (agS (laM C w) k i).1 - iI (agS (laM C w) k i).2) N).bind fun q => some (q.1, q.2)) ∧ (∀ q, q ≠ 12 → q ≠ 16 → q ≠ 19 → N.1 q = M.1 q) ∧ N.2 = M.2 := by
  intro k
  induction k with
  | zero =>
    intro i f M Q hi hf hC hw h q hS
    obtain ⟨f, rfl⟩ : ∃ g, f = g + 1 := ⟨f - 1, by omega⟩
    refine ⟨M, ?_, fun _ _ _ _ => rfl, rfl⟩
    show blp_M_comesAgain_0_98 (lp_M_comesAgain_0_98 f) _ _ _ _ M = _
    unfold blp_M_comesAgain_0_98
    have c0 : iI (t : Int) ≤ iI (i : Int) := (iI_le (by omega) (by omega) (by omega) (by omega)).mpr (by omega)
    rw [if_pos c0, if_pos (show x2 = 0 ∨ (agS (laM C w) 0 i).1 = -2 from Or.inr rfl), lm2]
    rfl
  | succ k ih =>
    intro i f M Q hi hf hC hw h q hS
    obtain ⟨f, rfl⟩ : ∃ g, f = g + 1 := ⟨f - 1, by omega⟩
    obtain ⟨bi, ei⟩ := bd_pa hO hW (n := i) (by omega)
    obtain ⟨bn, en⟩ := bd_pa hO hW (n := i + 1) (by omega)
    obtain ⟨Z, Q2, z1, z2, z3, z4⟩ := M_minute_16 hC hO h hw hW bi q (by rw [ei]; omega)
    obtain ⟨Y, y1, y2⟩ := M_stand (m := i) hO (z3.cfg (by decide) hC) z2 bn (by omega) (by rw [show minS C w (itS C w i (bgS C (fun _ => 0))) 14 0 = ((i + 1 : Nat) : Int) from en]; omega)
    have sY : StR C w (i + 1) Y := fun o ho j hj => by
      by_cases e : o = i
      · subst e; exact y2.1 j hj
      · rw [y2.2.2.2 _ (by omega), z3.1 19 (by decide)]; exact hS o (by omega) j hj
    have cY := y2.cfg (z3.cfg (by decide) hC)
    have wY : WyM 12 w Y := fun j hj => by rw [y2.2.1 12 (by decide), z3.1 12 (by decide)]; exact hw j hj
    have rY : RelM 16 (itS C w (i + 1) (bgS C (fun _ => 0))) Q2 Y := y2.rel z2
    have fY : ∀ q, q ≠ 12 → q ≠ 16 → q ≠ 19 → Y.1 q = M.1 q := fun q _ b c => by rw [y2.2.1 q c, z3.1 q b]
    have f2 : Y.2 = M.2 := y2.2.2.1.trans z3.2
    have c0 : ¬ (iI (t : Int) ≤ iI (i : Int)) := by rw [iI_le (by omega) (by omega) (by omega) (by omega)]; omega
    have ev : lp_M_comesAgain_0_98 (f + 1) (iI t) x2 (iI (bgC C : Int)) (iI i) M = lp_M_comesAgain_0_128 (lp_M_comesAgain_0_98 f) FW (iI t) x2 (iI (bgC C : Int)) (iI i) (iI ((i : Int) - 1)) Y := by
      show blp_M_comesAgain_0_98 (lp_M_comesAgain_0_98 f) _ _ _ _ M = _
      unfold blp_M_comesAgain_0_98
      rw [if_neg c0, z1, Option.bind_some, y1, Option.bind_some, l1, iI_sub]
    rw [ev, M_back (lp_M_comesAgain_0_98 f) hO hW (by omega) sY i FW (Nat.le_refl i) (FW_gt (by omega))]
    show ∃ N, (if laM C w i = -1 then _ else j_M_comesAgain_0_145 x2 (iI (i : Int)) (iI (laM C w i)) Y) = _ ∧ _
    by_cases e : laM C w i = -1
    · have ag : agS (laM C w) (k + 1) i = agS (laM C w) k (i + 1) := if_pos e
      rw [if_pos e, ag]
      obtain ⟨N, n1, n2, n3⟩ := ih (i + 1) f Y Q2 (by omega) (by omega) cY wY rY z4 sY
      exact ⟨N, n1, fun q a b c => (n2 q a b c).trans (fY q a b c), n3.trans f2⟩
    · have ag : agS (laM C w) (k + 1) i = ((i : Int), laM C w i) := if_neg e
      rw [if_neg e, ag]
      refine ⟨Y, ?_, fY, f2⟩
      unfold j_M_comesAgain_0_145
      by_cases x : x2 = 0
      · rw [if_pos x, if_pos (Or.inl x)]
      · rw [if_neg x, if_neg (fun z => by rcases z with z | z; exact x z; dsimp only at z; omega)]
theorem M_bg {C : SS} {M : Mm} {x1 x2 : Int32} (hO : CfgOk C) (hC : CfgM C M) : lp_M_comesAgain_0_45 FW x1 x2 0 0 M = j_M_comesAgain_0_83 x1 x2 (iI (bgC C : Int)) M := by
  have hs0 := hO.2.2.2.2.1
  have hs4 := hO.2.2.2.2.2.1
  have bd : ∀ n : Nat, (n : Int) ≤ C 0 2 → 0 ≤ bgN C n ∧ bgN C n ≤ 999 := fun n hn => by
    obtain ⟨a, b, c⟩ := bgN_sp (C := C) n
    rcases c with c | ⟨i, c, d⟩
    · omega
    · have := hO.2.2.2.2.2.2.2.2 i (by omega)
      omega
  have loop := loop_up (σ := Int32 × Int32) (γ := Option (Int32 × Mm)) (fun f s => lp_M_comesAgain_0_45 f x1 x2 s.1 s.2 M) (C 0 2).toNat (fun i s => s.1 = iI (bgN C i) ∧ s.2 = iI (i : Int)) (fun s => j_M_comesAgain_0_83 x1 x2 s.1 M) ?_ ?_ FW (FW_gt (by omega)) (iI 0, iI 0) ⟨rfl, rfl⟩
  · obtain ⟨⟨x, y⟩, ⟨e1, -⟩, ev⟩ := loop
    dsimp only at e1
    rw [l0]
    refine ev.trans ?_
    rw [e1]
    have := bd (C 0 2).toNat (by omega)
    rw [show (bgC C : Int) = bgN C (C 0 2).toNat by unfold bgC; omega]
  · rintro f i ⟨x, y⟩ hi ⟨ex, ey⟩
    dsimp only at ex ey
    subst ex; subst ey
    obtain ⟨o1, o2, o3, o4, o5, o6⟩ := hO.2.2.2.2.2.2.2.2 i (by omega)
    have b := bd i (by omega)
    have c0 : ¬ (iI (C 0 2) ≤ iI (i : Int)) := by rw [iI_le (by omega) (by omega) (by omega) (by omega)]; omega
    have r : rd (M.1 9) 8 (iI (i : Int)) = some (iI (C 8 i)) := by
      rw [rd_iI (by omega) (by omega) (by omega), Int.toNat_natCast, (hC.2.2.2.2 i (by omega) (by omega)).2.2]
    have c1 : (iI (C 8 i) ≤ iI (bgN C i)) ↔ C 8 i ≤ bgN C i := iI_le (by omega) (by omega) (by omega) (by omega)
    refine ⟨(iI (bgN C (i + 1)), iI ((i + 1 : Nat) : Int)), ?_, rfl, rfl⟩
    show blp_M_comesAgain_0_45 (lp_M_comesAgain_0_45 f) _ _ _ _ M = lp_M_comesAgain_0_45 f x1 x2 (iI (bgN C (i + 1))) (iI ((i + 1 : Nat) : Int)) M
    unfold blp_M_comesAgain_0_45 j_M_comesAgain_0_76
    have ei : iI (i : Int) + 1 = iI ((i + 1 : Nat) : Int) := by rw [l1, iI_add]; rfl
    rw [hC.2.2.1, if_neg c0, r, Option.bind_some, ei]
    by_cases e : C 8 i ≤ bgN C i
    · rw [if_pos (c1.mpr e), show bgN C (i + 1) = bgN C i from if_pos e]
    · rw [if_neg (fun q => e (c1.mp q)), Option.bind_some, show bgN C (i + 1) = C 8 i from if_neg e]
  · rintro f ⟨x, y⟩ ⟨ex, ey⟩
    dsimp only at ex ey
    subst ex; subst ey
    show blp_M_comesAgain_0_45 (lp_M_comesAgain_0_45 f) _ _ _ _ M = _
    unfold blp_M_comesAgain_0_45
    have c0 : iI (C 0 2) ≤ iI ((C 0 2).toNat : Int) := (iI_le (by omega) (by omega) (by omega) (by omega)).mpr (by omega)
    rw [hC.2.2.1, if_pos c0]
theorem ag_nn {L : Nat → Int} : ∀ k i, (agS L k i).1 = -2 ∨ 0 ≤ (agS L k i).1
  | 0, _ => Or.inl rfl
  | k + 1, i => by
    unfold agS
    split
    · exact ag_nn k (i + 1)
    · exact Or.inr (by dsimp only; omega)
theorem ag_le {L : Nat → Int} : ∀ k i, (agS L k i).1 ≤ (i : Int) + k
  | 0, i => by show (-2 : Int) ≤ _; omega
  | k + 1, i => by
    unfold agS
    split
    · have := ag_le (L := L) k (i + 1); omega
    · dsimp only; omega
theorem R_comesAgain {X M : Mm} (h0 : Rel X M) (p p2 : Int32) : An (f_P_comesAgain_0 p p2 X) (f_M_comesAgain_0 p p2 M) := by
  unfold f_P_comesAgain_0 f_M_comesAgain_0
  rw [Option.bind_some]
  have h := h0.th 0
  generalize u1 M 0 0 0 = N at h
  rcases h.told with ⟨t1, t2⟩ | ⟨t1, t2, C, w, S, Q, T⟩
  · rw [if_pos t1, if_pos t2]; exact An_ref h 1
  · rw [if_neg t1, if_neg t2, in_wi]
    rcases wi (p := p2) (n := 1) (by omega) (by omega) with ⟨c, rfl, hc, e⟩ | ⟨e, -⟩
    · rw [← l1] at e
      rw [e, Option.bind_some, Option.bind_some, if_neg n10, if_neg n10]
      rcases papT p with ⟨t, rfl, ht1, ht2, e1, e2⟩ | ⟨e1, e2⟩
      · rw [e1, e2 X t1, Option.bind_some, Option.bind_some, if_pos rfl, if_neg n10]
        obtain ⟨b1, b2, b3, b4⟩ := Bd_bg T.1 (aOk_0 C)
        obtain ⟨X1, x1, x2, x3, x4⟩ := X_Vcopy_49_32 T.wx
        obtain ⟨X2, y1, y2, y3⟩ := X_start_52 T.1 (T.2.1.fr (fun q _ _ => x3 q (by omega))) x2 T.wo T.w0 0
        rw [if_pos rfl] at y2
        have f : ∀ i j, i ≠ 11 → bgS C (fun _ => 0) i j = stS (fun _ => 0) i j := fun i j _ => bg_0 i j
        have cl : f_T_clear_103 X2 = some (s1 X2 105 (fil (X2.1 105) 1024 (-1))) := rfl
        have fr : ∀ q, q ≠ 105 → (s1 X2 105 (fil (X2.1 105) 1024 (-1))).1 q = X2.1 q := fun q hq => s1_ne hq
        have trc : TrR C (paS C w) (bgC C) 0 (s1 X2 105 (fil (X2.1 105) 1024 (-1))) := by
          refine ⟨fun v hv => ?_, fun o a b => absurd b (by omega), fun o a b => absurd b (by omega)⟩
          rw [s1_same]
          unfold fil
          rw [if_pos hv, lm1]
          rfl
        have cX : CfgX C (s1 X2 105 (fil (X2.1 105) 1024 (-1))) := T.2.1.fr (fun q _ _ => by rw [fr q (by omega), y3.1 q (by omega), x3 q (by omega)])
        have wX : WyX 49 w (s1 X2 105 (fil (X2.1 105) 1024 (-1))) := by
          have := y3.wy (q := 49) (by decide) x2
          exact ⟨fun c hc => by rw [fr 50 (by decide)]; exact this.1 c hc, fun c hc => by rw [fr 51 (by decide)]; exact this.2.1 c hc, by rw [fr 49 (by decide)]; exact this.2.2⟩
        obtain ⟨Y, v1, v2, v3⟩ := X_fa (t := t) T.1 T.wo ht2 t 0 FW _ (bgS C (fun _ => 0)) 0 (by omega) (FW_gt (by omega)) cX wX (y2.other (fun q a b => fr q (by omega))) Cq.rf (f 14 1 (by decide)) (fun b hb => ⟨f 7 b (by decide), (b1.2.2.1 b hb).2.2.2.2.2.2.1, (b1.2.2.1 b hb).2.2.2.2.2.2.2⟩) trc
        obtain ⟨M1, m1, m2, m3⟩ := M_papers T.wm
        obtain ⟨M2, n1, n2, n3⟩ := M_begins_16 (C := C) M1
        have m4 : RelM 16 (bgS C (fun _ => 0)) (fun _ _ => 0) M2 := n2.congr (fun i j _ _ => bg_0 i j) (bg_0 14 1) (bg_0 14 2)
        obtain ⟨O, o1, o2, o3⟩ := M_fa (t := t) (iI (c : Int)) T.1 T.wo ht2 t 0 FW M2 (fun _ _ => 0) (by omega) (FW_gt (by omega)) (n3.cfg (by decide) (m3.cfg (by decide) T.2.2.1)) (n3.wy (by decide) m2) m4 b2 (fun o ho => absurd ho (by omega))
        have eX : f_Q_firstAgain_48 (iI (t : Int)) X = some (iI (agS (laM C w) t 0).1, Y) := by
          unfold f_Q_firstAgain_48 j_Q_firstAgain_48_18
          rw [x1, Option.bind_some, y1, Option.bind_some, cl, Option.bind_some, l0]
          exact v1
        have eM : lp_M_comesAgain_0_45 FW (iI (t : Int)) (iI (c : Int)) 0 0 N = lp_M_comesAgain_0_98 FW (iI t) (iI (c : Int)) (iI (bgC C : Int)) (iI ((0 : Nat) : Int)) M2 := by
          rw [M_bg T.1 T.2.2.1]
          unfold j_M_comesAgain_0_83
          rw [m1, Option.bind_some, n1, Option.bind_some, l0]
          rfl
        have rl : Rel Y O := h.pap (fun q hq => by rw [v3 q hq, fr q (by omega), y3.1 q (by omega), x3 q (by omega)]) (fun q z1 z2 z3 => by rw [o2 q z1 z2 z3, n3.1 q z2, m3.1 q z1]) (o3.trans (n3.2.trans m3.2))
        rw [eX, Option.bind_some, eM, o1]
        have nn := ag_nn (L := laM C w) t 0
        have le := ag_le (L := laM C w) t 0
        dsimp only
        by_cases z : iI (c : Int) = 0
        · rw [if_pos z, if_pos (Or.inl z)]; exact An_good rl _
        · rw [if_neg z]
          have c2 : (iI (agS (laM C w) t 0).1 = -2) ↔ (agS (laM C w) t 0).1 = -2 := by rw [lm2]; exact iI_eq (by omega) (by omega) (by omega) (by omega)
          by_cases z2 : (agS (laM C w) t 0).1 = -2
          · rw [if_pos (c2.mpr z2), if_pos (Or.inr z2)]; exact An_good rl _
          · rw [if_neg (fun q => z2 (c2.mp q)), if_neg (fun q => q.elim z z2), v2 z2]; exact An_good rl _
      · rw [e1, e2 X t1, Option.bind_some, if_pos rfl]
        exact ⟨_, _, _, rfl, rfl, h.set 2 (-1)⟩
    · rw [← l1] at e
      rw [e, Option.bind_some, Option.bind_some, if_pos rfl, if_pos rfl]; exact An_ref h 1

/-! names in the reader's plan: slot s of the class, the number v of the reference -/
def NmQ (z : Nat) (l : Nat → Int) (s : Nat) (X : Mm) (v : Int64) : Prop := 1 ≤ z ∧ z ≤ 6 ∧ X.1 23 s = iI (z : Int) ∧ (∀ j, j < z → 0 ≤ l j ∧ l j ≤ 25 ∧ X.1 22 (6 * s + j) = iI (l j)) ∧ v = jI (wdS l z)
theorem X_letterAt {T : Nat → Int} {n c i : Nat} {X M : Mm} (h : Tk T n c i X M) (e : srS T n (sqS T n i) = 1) {j : Nat} (hj : j < enS T n (sqS T n i) - sqS T n i) : f_K_letterAt_27 (X.1 14 2) (iI (j : Int)) X = some (iI (ltS T (sqS T n i) j)) := by
  have c6 := h.2.1.1
  have h3 := h.2.2.1
  have lo := sr_1 e
  have hn := h.1
  unfold f_K_letterAt_27
  have cA : ¬ (iI ((sqS T n i : Int) + (j : Int)) < 0) := by rw [l0, iI_lt (by omega) (by omega) (by omega) (by omega)]; omega
  have cB : ¬ (600 ≤ iI ((sqS T n i : Int) + (j : Int))) := by rw [show (600 : Int32) = iI 600 from rfl, iI_le (by omega) (by omega) (by omega) (by omega)]; omega
  rw [h.2.2.2.1, rdK (by omega), Option.bind_some, h.at.2.1, iI_add, if_neg cA, if_neg cB, h.2.2.2.2.2.1.rd (q := sqS T n i + j) (by omega) (by omega), Option.bind_some, show (97 : Int32) = iI 97 from rfl, iI_sub]
  rfl
theorem X_isName {T : Nat → Int} {n c i : Nat} {X M : Mm} (h : Tk T n c i X M) (e : srS T n (sqS T n i) = 1) {z s : Nat} {l : Nat → Int} {v : Int64} (hs : s < 9) (hq : NmQ z l s X v) : ((v = M.2 0 13) ∧ f_R_isNameIn_14 (iI (s : Int)) X = some 1) ∨ (v ≠ M.2 0 13 ∧ f_R_isNameIn_14 (iI (s : Int)) X = some 0) := by
  have c6 := h.2.1.1
  have lo := sr_1 e
  obtain ⟨-, -, q3⟩ := h.at
  obtain ⟨q4, q5, q6⟩ := q3 (by omega)
  obtain ⟨z1, z2, z3, z4, z5⟩ := hq
  have b1 := wd_b6 lo.2.1 lo.2.2.2.2 _ (Nat.le_refl _)
  have b2 := wd_b6 (l := l) (z := z) z2 (fun j hj => ⟨(z4 j hj).1, (z4 j hj).2.1⟩) _ (Nat.le_refl _)
  have mw := h.2.2.2.2.2.2.2.1.2.2.2.2.1 e
  have iff : v = M.2 0 13 ↔ (z = enS T n (sqS T n i) - sqS T n i ∧ ∀ j, j < z → l j = ltS T (sqS T n i) j) := by
    rw [z5, mw, jI_eq (by omega) (by omega) (by omega) (by omega), wd_inj _ _ (fun j hj => ⟨(z4 j hj).1, (z4 j hj).2.1⟩) lo.2.2.2.2]
  have hy : enS T n (sqS T n i) - sqS T n i ≤ 6 := lo.2.1
  have la : ∀ j : Nat, j < enS T n (sqS T n i) - sqS T n i → f_K_letterAt_27 (X.1 14 2) (iI (j : Int)) X = some (iI (ltS T (sqS T n i) j)) := fun j hj => X_letterAt h e hj
  have lb := lo.2.2.2.2
  unfold f_R_isNameIn_14
  rw [h.2.2.2.1, rdK (by omega), Option.bind_some, q6.2.2.1]
  have r23 : rd (X.1 23) 9 (iI (s : Int)) = some (iI (z : Int)) := by rw [rd_iI (by omega) (by omega) (by omega), Int.toNat_natCast, z3]
  rw [r23, Option.bind_some]
  generalize enS T n (sqS T n i) - sqS T n i = y at iff hy la lb
  have cz : (iI (z : Int) = iI (y : Int)) ↔ z = y := by rw [iI_eq (by omega) (by omega) (by omega) (by omega)]; omega
  by_cases ez : z = y
  · subst ez
    rw [if_pos rfl]
    have key : ∀ k j f : Nat, j + k = z → k < f → (∀ q, q < j → l q = ltS T (sqS T n i) q) → ((∀ q, q < z → l q = ltS T (sqS T n i) q) ∧ lp_R_isNameIn_14_30 f (iI (s : Int)) (iI (z : Int)) (iI (j : Int)) X = some 1) ∨ (¬ (∀ q, q < z → l q = ltS T (sqS T n i) q) ∧ lp_R_isNameIn_14_30 f (iI (s : Int)) (iI (z : Int)) (iI (j : Int)) X = some 0) := by
      intro k
      induction k with
      | zero =>
        intro j f hj hf ha
        obtain ⟨f, rfl⟩ : ∃ g, f = g + 1 := ⟨f - 1, by omega⟩
        have : j = z := by omega
        subst this
        refine Or.inl ⟨ha, ?_⟩
        show blp_R_isNameIn_14_30 (lp_R_isNameIn_14_30 f) _ _ _ X = _
        unfold blp_R_isNameIn_14_30
        rw [if_pos (Int32.le_refl _)]
      | succ k ih =>
        intro j f hj hf ha
        obtain ⟨f, rfl⟩ : ∃ g, f = g + 1 := ⟨f - 1, by omega⟩
        have c0 : ¬ (iI (z : Int) ≤ iI (j : Int)) := by rw [iI_le (by omega) (by omega) (by omega) (by omega)]; omega
        have r22 : rd (X.1 22) 54 (iI (6 * (s : Int) + j)) = some (iI (l j)) := by rw [rd_iI (by omega) (by omega) (by omega), show (6 * (s : Int) + j).toNat = 6 * s + j by omega, (z4 j (by omega)).2.2]
        have b3 := z4 j (by omega)
        have b4 := lb j (by omega)
        have cl : (iI (l j) = iI (ltS T (sqS T n i) j)) ↔ l j = ltS T (sqS T n i) j := iI_eq (by omega) (by omega) (by omega) (by omega)
        have ev : lp_R_isNameIn_14_30 (f + 1) (iI (s : Int)) (iI (z : Int)) (iI (j : Int)) X = if iI (l j) = iI (ltS T (sqS T n i) j) then lp_R_isNameIn_14_30 f (iI (s : Int)) (iI (z : Int)) (iI ((j + 1 : Nat) : Int)) X else some 0 := by
          show blp_R_isNameIn_14_30 (lp_R_isNameIn_14_30 f) _ _ _ X = _
          unfold blp_R_isNameIn_14_30
          rw [if_neg c0, l6, iI_mul, iI_add, r22, Option.bind_some, la j (by omega), Option.bind_some, show iI (j : Int) + 1 = iI ((j + 1 : Nat) : Int) by rw [l1, iI_add]; rfl]
        rw [ev]
        by_cases q : l j = ltS T (sqS T n i) j
        · rw [if_pos (cl.mpr q)]
          exact ih (j + 1) f (by omega) (by omega) (fun p hp => by
            by_cases r : p = j
            · rw [r]; exact q
            · exact ha p (by omega))
        · rw [if_neg (fun r => q (cl.mp r))]
          exact Or.inr ⟨fun r => q (r j (by omega)), rfl⟩
    rw [l0]
    rcases key z 0 FW (by omega) (FW_gt (by omega)) (fun q hq => absurd hq (by omega)) with ⟨a, b⟩ | ⟨a, b⟩
    · exact Or.inl ⟨iff.mpr ⟨rfl, a⟩, b⟩
    · exact Or.inr ⟨fun q => a (iff.mp q).2, b⟩
  · rw [if_neg (fun q => ez (cz.mp q))]
    exact Or.inr ⟨fun q => ez (iff.mp q).1, rfl⟩
/-- what is named so far: K kinds, B benches -/
def NamQ (K B : Int) (X M : Mm) : Prop := (∀ k : Nat, (k : Int) < K → ∃ z l, NmQ z l k X (M.2 2 (3 + k))) ∧ ∀ b : Nat, (b : Int) < B → ∃ z l, NmQ z l (3 + b) X (M.2 3 (6 + b))
theorem Q_kind {T : Nat → Int} {n c i : Nat} {X M : Mm} (h : Tk T n c i X M) (e : srS T n (sqS T n i) = 1) {K B : Int} (hK0 : 0 ≤ K) (hK : K ≤ 3) (hm : M.1 0 25 = iI K) (hq : NamQ K B X M) : ∃ r : Int, -1 ≤ r ∧ r < K ∧ f_R_placeOfName_14 0 (iI K) X = some (iI r) ∧ f_M_kindOf_0 M = some (iI r) := by
  have key : ∀ (k j f g : Nat), (j : Int) + k = K → k < f → k < g → ∃ r : Int, -1 ≤ r ∧ r < K ∧ lp_R_placeOfName_14_2 f 0 (iI K) (iI (j : Int)) X = some (iI r) ∧ lp_M_kindOf_0_2 g (iI (j : Int)) M = some (iI r) := by
    intro k
    induction k with
    | zero =>
      intro j f g hj hf hg
      obtain ⟨f, rfl⟩ : ∃ q, f = q + 1 := ⟨f - 1, by omega⟩
      obtain ⟨g, rfl⟩ : ∃ q, g = q + 1 := ⟨g - 1, by omega⟩
      have c0 : iI K ≤ iI (j : Int) := (iI_le (by omega) (by omega) (by omega) (by omega)).mpr (by omega)
      refine ⟨-1, by omega, by omega, ?_, ?_⟩
      · show blp_R_placeOfName_14_2 (lp_R_placeOfName_14_2 f) _ _ _ X = _
        unfold blp_R_placeOfName_14_2
        rw [if_pos c0, lm1]
      · show blp_M_kindOf_0_2 (lp_M_kindOf_0_2 g) _ M = _
        unfold blp_M_kindOf_0_2
        rw [hm, if_pos c0, lm1]
    | succ k ih =>
      intro j f g hj hf hg
      obtain ⟨f, rfl⟩ : ∃ q, f = q + 1 := ⟨f - 1, by omega⟩
      obtain ⟨g, rfl⟩ : ∃ q, g = q + 1 := ⟨g - 1, by omega⟩
      have c0 : ¬ (iI K ≤ iI (j : Int)) := by rw [iI_le (by omega) (by omega) (by omega) (by omega)]; omega
      obtain ⟨z, l, nm⟩ := hq.1 j (by omega)
      have rL : rdL (M.2 2) 6 (iI (3 + (j : Int))) = some (M.2 2 (3 + j)) := by rw [rdL_iI (by omega) (by omega) (by omega), show (3 + (j : Int)).toNat = 3 + j by omega]
      have ej : iI (j : Int) + 1 = iI ((j + 1 : Nat) : Int) := by rw [l1, iI_add]; rfl
      have eX : ∀ v, f_R_isNameIn_14 (iI (j : Int)) X = some v → lp_R_placeOfName_14_2 (f + 1) 0 (iI K) (iI (j : Int)) X = if v = 0 then lp_R_placeOfName_14_2 f 0 (iI K) (iI ((j + 1 : Nat) : Int)) X else some (iI (j : Int)) := fun v hv => by
        show blp_R_placeOfName_14_2 (lp_R_placeOfName_14_2 f) _ _ _ X = _
        unfold blp_R_placeOfName_14_2
        rw [if_neg c0, show (0 : Int32) + iI (j : Int) = iI (j : Int) by rw [l0, iI_add, Int.zero_add], hv, Option.bind_some, ej]
      have eM : lp_M_kindOf_0_2 (g + 1) (iI (j : Int)) M = if lg_cmp (M.2 2 (3 + j)) (M.2 0 13) = 0 then some (iI (j : Int)) else lp_M_kindOf_0_2 g (iI ((j + 1 : Nat) : Int)) M := by
        show blp_M_kindOf_0_2 (lp_M_kindOf_0_2 g) _ M = _
        unfold blp_M_kindOf_0_2
        rw [hm, if_neg c0, l3, iI_add, rL, Option.bind_some, ej]
      rw [eM]
      rcases X_isName h e (s := j) (by omega) nm with ⟨a, b⟩ | ⟨a, b⟩
      · rw [eX _ b, if_neg n10, if_pos (lg_eq.mpr a)]
        exact ⟨j, by omega, by omega, rfl, rfl⟩
      · rw [eX _ b, if_pos rfl, if_neg (fun q => a (lg_eq.mp q))]
        exact ih (j + 1) f g (by omega) (by omega) (by omega)
  unfold f_R_placeOfName_14 f_M_kindOf_0
  have := key K.toNat 0 FW FW (by omega) (FW_gt (by omega)) (FW_gt (by omega))
  rw [l0]
  rw [← l0]
  exact this
theorem Q_bench {T : Nat → Int} {n c i : Nat} {X M : Mm} (h : Tk T n c i X M) (e : srS T n (sqS T n i) = 1) {K B : Int} (hB0 : 0 ≤ B) (hB : B ≤ 6) (hm : M.1 0 26 = iI B) (hq : NamQ K B X M) : ∃ r : Int, -1 ≤ r ∧ r < B ∧ f_R_placeOfName_14 3 (iI B) X = some (iI r) ∧ f_M_benchOf_0 M = some (iI r) := by
  have key : ∀ (k j f g : Nat), (j : Int) + k = B → k < f → k < g → ∃ r : Int, -1 ≤ r ∧ r < B ∧ lp_R_placeOfName_14_2 f 3 (iI B) (iI (j : Int)) X = some (iI r) ∧ lp_M_benchOf_0_2 g (iI (j : Int)) M = some (iI r) := by
    intro k
    induction k with
    | zero =>
      intro j f g hj hf hg
      obtain ⟨f, rfl⟩ : ∃ q, f = q + 1 := ⟨f - 1, by omega⟩
      obtain ⟨g, rfl⟩ : ∃ q, g = q + 1 := ⟨g - 1, by omega⟩
      have c0 : iI B ≤ iI (j : Int) := (iI_le (by omega) (by omega) (by omega) (by omega)).mpr (by omega)
      refine ⟨-1, by omega, by omega, ?_, ?_⟩
      · show blp_R_placeOfName_14_2 (lp_R_placeOfName_14_2 f) _ _ _ X = _
        unfold blp_R_placeOfName_14_2
        rw [if_pos c0, lm1]
      · show blp_M_benchOf_0_2 (lp_M_benchOf_0_2 g) _ M = _
        unfold blp_M_benchOf_0_2
        rw [hm, if_pos c0, lm1]
    | succ k ih =>
      intro j f g hj hf hg
      obtain ⟨f, rfl⟩ : ∃ q, f = q + 1 := ⟨f - 1, by omega⟩
      obtain ⟨g, rfl⟩ : ∃ q, g = q + 1 := ⟨g - 1, by omega⟩
      have c0 : ¬ (iI B ≤ iI (j : Int)) := by rw [iI_le (by omega) (by omega) (by omega) (by omega)]; omega
      obtain ⟨z, l, nm⟩ := hq.2 j (by omega)
      have rL : rdL (M.2 3) 12 (iI (6 + (j : Int))) = some (M.2 3 (6 + j)) := by rw [rdL_iI (by omega) (by omega) (by omega), show (6 + (j : Int)).toNat = 6 + j by omega]
      have ej : iI (j : Int) + 1 = iI ((j + 1 : Nat) : Int) := by rw [l1, iI_add]; rfl
      have eX : ∀ v, f_R_isNameIn_14 (iI ((3 + j : Nat) : Int)) X = some v → lp_R_placeOfName_14_2 (f + 1) 3 (iI B) (iI (j : Int)) X = if v = 0 then lp_R_placeOfName_14_2 f 3 (iI B) (iI ((j + 1 : Nat) : Int)) X else some (iI (j : Int)) := fun v hv => by
        show blp_R_placeOfName_14_2 (lp_R_placeOfName_14_2 f) _ _ _ X = _
        unfold blp_R_placeOfName_14_2
        rw [if_neg c0, show (3 : Int32) + iI (j : Int) = iI ((3 + j : Nat) : Int) by rw [l3, iI_add]; rfl, hv, Option.bind_some, ej]
      have eM : lp_M_benchOf_0_2 (g + 1) (iI (j : Int)) M = if lg_cmp (M.2 3 (6 + j)) (M.2 0 13) = 0 then some (iI (j : Int)) else lp_M_benchOf_0_2 g (iI ((j + 1 : Nat) : Int)) M := by
        show blp_M_benchOf_0_2 (lp_M_benchOf_0_2 g) _ M = _
        unfold blp_M_benchOf_0_2
        rw [hm, if_neg c0, l6, iI_add, rL, Option.bind_some, ej]
      rw [eM]
      rcases X_isName h e (s := 3 + j) (by omega) nm with ⟨a, b⟩ | ⟨a, b⟩
      · rw [eX _ b, if_neg n10, if_pos (lg_eq.mpr a)]
        exact ⟨j, by omega, by omega, rfl, rfl⟩
      · rw [eX _ b, if_pos rfl, if_neg (fun q => a (lg_eq.mp q))]
        exact ih (j + 1) f g (by omega) (by omega) (by omega)
  unfold f_R_placeOfName_14 f_M_benchOf_0
  rw [l0]
  exact key B.toNat 0 FW FW (by omega) (FW_gt (by omega)) (FW_gt (by omega))
/-- the reference's look-ups end, whatever stands there -/
theorem M_kind_ex {M : Mm} {K : Int} (hK0 : 0 ≤ K) (hK : K ≤ 3) (hm : M.1 0 25 = iI K) : ∃ r, f_M_kindOf_0 M = some r := by
  have key : ∀ (k j g : Nat), (j : Int) + k = K → k < g → ∃ r, lp_M_kindOf_0_2 g (iI (j : Int)) M = some r := by
    intro k
    induction k with
    | zero =>
      intro j g hj hg
      obtain ⟨g, rfl⟩ : ∃ q, g = q + 1 := ⟨g - 1, by omega⟩
      refine ⟨-1, ?_⟩
      show blp_M_kindOf_0_2 (lp_M_kindOf_0_2 g) _ M = _
      unfold blp_M_kindOf_0_2
      rw [hm, if_pos ((iI_le (by omega) (by omega) (by omega) (by omega)).mpr (by omega))]
    | succ k ih =>
      intro j g hj hg
      obtain ⟨g, rfl⟩ : ∃ q, g = q + 1 := ⟨g - 1, by omega⟩
      have c0 : ¬ (iI K ≤ iI (j : Int)) := by rw [iI_le (by omega) (by omega) (by omega) (by omega)]; omega
      have rL : rdL (M.2 2) 6 (iI (3 + (j : Int))) = some (M.2 2 (3 + j)) := by rw [rdL_iI (by omega) (by omega) (by omega), show (3 + (j : Int)).toNat = 3 + j by omega]
      show ∃ r, blp_M_kindOf_0_2 (lp_M_kindOf_0_2 g) _ M = some r
      unfold blp_M_kindOf_0_2
      rw [hm, if_neg c0, l3, iI_add, rL, Option.bind_some, show iI (j : Int) + 1 = iI ((j + 1 : Nat) : Int) by rw [l1, iI_add]; rfl]
      split
      · exact ⟨_, rfl⟩
      · exact ih (j + 1) g (by omega) (by omega)
  unfold f_M_kindOf_0
  rw [l0]
  exact key K.toNat 0 FW (by omega) (FW_gt (by omega))
theorem M_bench_ex {M : Mm} {B : Int} (hB0 : 0 ≤ B) (hB : B ≤ 6) (hm : M.1 0 26 = iI B) : ∃ r, f_M_benchOf_0 M = some r := by
  have key : ∀ (k j g : Nat), (j : Int) + k = B → k < g → ∃ r, lp_M_benchOf_0_2 g (iI (j : Int)) M = some r := by
    intro k
    induction k with
    | zero =>
      intro j g hj hg
      obtain ⟨g, rfl⟩ : ∃ q, g = q + 1 := ⟨g - 1, by omega⟩
      refine ⟨-1, ?_⟩
      show blp_M_benchOf_0_2 (lp_M_benchOf_0_2 g) _ M = _
      unfold blp_M_benchOf_0_2
      rw [hm, if_pos ((iI_le (by omega) (by omega) (by omega) (by omega)).mpr (by omega))]
    | succ k ih =>
      intro j g hj hg
      obtain ⟨g, rfl⟩ : ∃ q, g = q + 1 := ⟨g - 1, by omega⟩
      have c0 : ¬ (iI B ≤ iI (j : Int)) := by rw [iI_le (by omega) (by omega) (by omega) (by omega)]; omega
      have rL : rdL (M.2 3) 12 (iI (6 + (j : Int))) = some (M.2 3 (6 + j)) := by rw [rdL_iI (by omega) (by omega) (by omega), show (6 + (j : Int)).toNat = 6 + j by omega]
      show ∃ r, blp_M_benchOf_0_2 (lp_M_benchOf_0_2 g) _ M = some r
      unfold blp_M_benchOf_0_2
      rw [hm, if_neg c0, l6, iI_add, rL, Option.bind_some, show iI (j : Int) + 1 = iI ((j + 1 : Nat) : Int) by rw [l1, iI_add]; rfl]
      split
      · exact ⟨_, rfl⟩
      · exact ih (j + 1) g (by omega) (by omega)
  unfold f_M_benchOf_0
  rw [l0]
  exact key B.toNat 0 FW (by omega) (FW_gt (by omega))
/-- the counts of the reference -/
def CnM (K B : Int) (M : Mm) : Prop := 0 ≤ K ∧ K ≤ 3 ∧ 0 ≤ B ∧ B ≤ 6 ∧ M.1 0 25 = iI K ∧ M.1 0 26 = iI B
theorem CnM.h {K B : Int} {M N : Mm} (h : CnM K B M) (o : OnH M N) : CnM K B N := by
  obtain ⟨a, b, c, d, e, f⟩ := h
  exact ⟨a, b, c, d, by rw [o.2.1 25 (by omega)]; exact e, by rw [o.2.1 26 (by omega)]; exact f⟩
theorem told_tail {K B : Int} {M : Mm} (h : FM M) (hc : CnM K B M) (x : Int32) : ∃ r, j_M_readTold_0_27 x M = some (r, M) := by
  unfold j_M_readTold_0_27 j_M_readTold_0_42
  obtain ⟨r1, e1⟩ := M_kind_ex hc.1 hc.2.1 hc.2.2.2.2.1
  obtain ⟨r2, e2⟩ := M_bench_ex hc.2.2.1 hc.2.2.2.1 hc.2.2.2.2.2
  split
  · rw [e2, Option.bind_some]
    split
    · rw [h.flaw, Option.bind_some, h.goOn, Option.bind_some]; exact ⟨_, rfl⟩
    · rw [h.goOn, Option.bind_some]; exact ⟨_, rfl⟩
  · rw [e1, Option.bind_some]
    split
    · rw [h.flaw, Option.bind_some, h.goOn, Option.bind_some]; exact ⟨_, rfl⟩
    · rw [h.goOn, Option.bind_some]; exact ⟨_, rfl⟩
theorem FM.told {K B : Int} {M : Mm} (h : FM M) (hc : CnM K B M) (x : Int32) : ∃ r, f_M_readTold_0 x M = some (r, M) := by
  unfold f_M_readTold_0
  rw [if_neg h.c.2]
  exact told_tail h hc x
theorem FM.new27 {M : Mm} (h : FM M) : j_M_readNew_0_27 M = some (M.2 0 13, M) := by
  unfold j_M_readNew_0_27
  rw [if_neg h.c.2, h.goOn, Option.bind_some]
theorem FM.new {M : Mm} (h : FM M) : f_M_readNew_0 M = some (M.2 0 13, M) := by
  unfold f_M_readNew_0
  rw [if_neg h.c.2]
  exact h.new27
/-- an old name: of a kind (x = 1, slots from 0), of a bench (x = 0, slots from 3) -/
theorem Tk.old {T : Nat → Int} {n c i : Nat} {X M : Mm} (h : Tk T n c i X M) {K B : Int} (hc : CnM K B M) (hq : NamQ K B X M) (x s0 N0 : Int32) (R : Int) (hx : (x = 1 ∧ s0 = 0 ∧ N0 = iI K ∧ R = K) ∨ (x = 0 ∧ s0 = 3 ∧ N0 = iI B ∧ R = B)) : (∃ (j : Nat) (v : Int) (Y N : Mm), 0 ≤ v ∧ v < R ∧ f_R_readOldName_14 s0 N0 X = some (iI v, Y) ∧ f_M_readTold_0 x M = some (iI v, N) ∧ Tk T n c j Y N ∧ SX X Y ∧ OnH M N ∧ i ≤ j) ∨ (∃ (r : Int32) (Y N : Mm), f_R_readOldName_14 s0 N0 X = some (-1, Y) ∧ f_M_readTold_0 x M = some (r, N) ∧ Fl T n c Y N ∧ SX X Y ∧ OnH M N) := by
  have sb := sr_b (T := T) (n := n) (s := sqS T n i)
  have h9 : M.1 0 7 = 0 := h.2.2.2.2.2.2.2.2
  have t9 : M.1 0 9 = iI (tkM (srS T n (sqS T n i))) := h.2.2.2.2.2.2.2.1.2.2.2.1
  have t2 := (tk_2 sb.1 sb.2.1).1
  have bad1 : f_R_isWord_14 12 X = some 0 → (∀ N, f_M_flaw_0 1 M = some N → f_M_readTold_0 x M = j_M_readTold_0_27 x N) → (∃ (r : Int32) (Y N : Mm), f_R_readOldName_14 s0 N0 X = some (-1, Y) ∧ f_M_readTold_0 x M = some (r, N) ∧ Fl T n c Y N ∧ SX X Y ∧ OnH M N) := by
    intro a b
    obtain ⟨Y, N, y1, y2, y3, y4, y5⟩ := h.blame 1 (by omega) (by omega)
    rw [← l1] at y1 y2
    obtain ⟨r, e⟩ := told_tail y3.m (hc.h y5) x
    refine ⟨r, Y, N, ?_, by rw [b N y2]; exact e, y3, y4, y5⟩
    unfold f_R_readOldName_14
    rw [a, Option.bind_some, if_pos rfl, y1, Option.bind_some]
  by_cases e : srS T n (sqS T n i) = 1
  · rcases h.own e with ⟨k, s1, s2⟩ | ⟨k, s1, s2⟩
    · have pl : ∃ r : Int, -1 ≤ r ∧ r < R ∧ R ≤ 6 ∧ f_R_placeOfName_14 s0 N0 X = some (iI r) ∧ f_M_readTold_0 x M = j_M_readTold_0_42 (iI r) M := by
        have hd : f_M_readTold_0 x M = j_M_readTold_0_27 x M := by
          unfold f_M_readTold_0
          rw [h9, if_pos rfl, t9, if_pos (t2.mpr e), s2, Option.bind_some, if_pos rfl]
        rcases hx with ⟨rfl, rfl, rfl, rfl⟩ | ⟨rfl, rfl, rfl, rfl⟩
        · obtain ⟨r, r1, r2, r3, r4⟩ := Q_kind h e hc.1 hc.2.1 hc.2.2.2.2.1 hq
          refine ⟨r, r1, r2, by have := hc.2.1; omega, r3, ?_⟩
          rw [hd]
          unfold j_M_readTold_0_27
          rw [if_neg n10, r4, Option.bind_some]
        · obtain ⟨r, r1, r2, r3, r4⟩ := Q_bench h e hc.2.2.1 hc.2.2.2.1 hc.2.2.2.2.2 hq
          refine ⟨r, r1, r2, hc.2.2.2.1, r3, ?_⟩
          rw [hd]
          unfold j_M_readTold_0_27
          rw [if_pos rfl, r4, Option.bind_some]
      obtain ⟨r, r1, r2, r0, r3, r4⟩ := pl
      have cr : (0 ≤ iI r) ↔ 0 ≤ r := by rw [l0]; exact iI_le (by omega) (by omega) (by omega) (by omega)
      have cm : (iI r = -1) ↔ r = -1 := by rw [lm1]; exact iI_eq (by omega) (by omega) (by omega) (by omega)
      rw [r4]
      unfold f_R_readOldName_14 j_M_readTold_0_42
      rw [s1, Option.bind_some, if_neg n10, r3, Option.bind_some]
      by_cases er : r = -1
      · right
        obtain ⟨Y, N, y1, y2, y3, y4, y5⟩ := h.blame 3 (by omega) (by omega)
        rw [← l3] at y1 y2
        rw [if_neg (fun q => by have := cr.mp q; omega), if_pos (cm.mpr er), y1, y2, Option.bind_some, Option.bind_some, y3.m.goOn, Option.bind_some]
        exact ⟨_, Y, N, rfl, rfl, y3, y4, y5⟩
      · left
        obtain ⟨j, Y, N, y1, y2, y3, y4, y5, y6, -⟩ := h.step
        rw [if_pos (cr.mpr (by omega)), if_neg (fun q => er (cm.mp q)), y1, y2, Option.bind_some, Option.bind_some]
        exact ⟨j, r, Y, N, by omega, r2, rfl, rfl, y3, y4, y5, y6⟩
    · right
      refine bad1 s1 (fun N hN => ?_)
      unfold f_M_readTold_0 j_M_readTold_0_22
      rw [h9, if_pos rfl, t9, if_pos (t2.mpr e), s2, Option.bind_some, if_neg n10, hN, Option.bind_some]
  · right
    refine bad1 ?_ (fun N hN => ?_)
    · unfold f_R_isWord_14
      have c1 : (iI (srS T n (sqS T n i)) = 1) ↔ srS T n (sqS T n i) = 1 := by rw [l1]; exact iI_eq (by omega) (by omega) (by omega) (by omega)
      rw [h.rd28, Option.bind_some, if_neg (fun q => e (c1.mp q))]
    · unfold f_M_readTold_0 j_M_readTold_0_22
      rw [h9, if_pos rfl, t9, if_neg (fun q => e (t2.mp q)), hN, Option.bind_some]

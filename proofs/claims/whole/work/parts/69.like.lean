/-! the last of the numbers from bg up to n with P; -1 without one -/
noncomputable def laS (P : Nat → Prop) (bg : Nat) : Nat → Int
  | 0 => -1
  | n + 1 => @ite Int (bg ≤ n ∧ P n) (Classical.propDecidable _) (n : Int) (laS P bg n)
theorem la_t {P : Nat → Prop} {bg n : Nat} (h : bg ≤ n ∧ P n) : laS P bg (n + 1) = n := if_pos h
theorem la_f {P : Nat → Prop} {bg n : Nat} (h : ¬ (bg ≤ n ∧ P n)) : laS P bg (n + 1) = laS P bg n := if_neg h
theorem la_sp {P : Nat → Prop} {bg : Nat} : ∀ n, (laS P bg n = -1 ∧ ∀ o, bg ≤ o → o < n → ¬ P o) ∨ ∃ o : Nat, laS P bg n = o ∧ bg ≤ o ∧ o < n ∧ P o ∧ ∀ q, o < q → q < n → ¬ P q
  | 0 => Or.inl ⟨rfl, fun o _ h => absurd h (by omega)⟩
  | n + 1 => by
    by_cases h : bg ≤ n ∧ P n
    · exact Or.inr ⟨n, la_t h, h.1, by omega, h.2, fun q a b => absurd b (by omega)⟩
    · rw [la_f h]
      rcases la_sp (P := P) (bg := bg) n with ⟨a, b⟩ | ⟨o, a, b, c, d, e⟩
      · refine Or.inl ⟨a, fun o h1 h2 h3 => ?_⟩
        by_cases q : o = n
        · subst q; exact h ⟨h1, h3⟩
        · exact b o h1 (by omega) h3
      · refine Or.inr ⟨o, a, b, by omega, d, fun q h1 h2 h3 => ?_⟩
        by_cases z : q = n
        · subst z; exact h ⟨by omega, h3⟩
        · exact e q h1 (by omega) h3
theorem la_no {P : Nat → Prop} {bg : Nat} : ∀ n, (∀ o, bg ≤ o → o < n → ¬ P o) → laS P bg n = -1
  | 0, _ => rfl
  | n + 1, h => by rw [la_f (fun q => h n q.1 (by omega) q.2)]; exact la_no n (fun o a b => h o a (by omega))
theorem la_sk {P : Nat → Prop} {bg a : Nat} : ∀ d, (∀ o, bg ≤ o → a ≤ o → o < a + d → ¬ P o) → laS P bg (a + d) = laS P bg a
  | 0, _ => rfl
  | d + 1, h => by
    rw [show a + (d + 1) = (a + d) + 1 by omega, la_f (fun q => h (a + d) q.1 (by omega) (by omega) q.2)]
    exact la_sk d (fun o x y z => h o x y (by omega))
theorem la_cg {P R : Nat → Prop} {bg : Nat} : ∀ n, (∀ o, bg ≤ o → o < n → (P o ↔ R o)) → laS P bg n = laS R bg n
  | 0, _ => rfl
  | n + 1, h => by
    have ih := la_cg n (fun o a b => h o a (by omega))
    by_cases q : bg ≤ n ∧ P n
    · rw [la_t q, la_t ⟨q.1, (h n q.1 (by omega)).mp q.2⟩]
    · rw [la_f q, la_f (fun z => q ⟨z.1, (h n z.1 (by omega)).mpr z.2⟩), ih]
/-! buckets -/
def mixG (g : Nat → Int64) : Nat → Int64
  | 0 => 0
  | j + 1 => ((mixG g j ^^^ g j) * (-7046029254386353131)) ^^^ (Int64.toUInt64 ((mixG g j ^^^ g j) * (-7046029254386353131)) >>> ((Int32.toInt64 32).toUInt64 &&& Int64.toUInt64 63)).toInt64
theorem mixG_cg {g g2 : Nat → Int64} : ∀ n, (∀ j, j < n → g2 j = g j) → mixG g2 n = mixG g n
  | 0, _ => rfl
  | n + 1, h => by
    have ih := mixG_cg n (fun j hj => h j (by omega))
    unfold mixG
    rw [ih, h n (by omega)]
def bkS (C S : SS) : Nat := (mixG (fun j => lN (rwS C S j)) 5 * (-7046029254386353131)).toBitVec.toNat / 2 ^ 54
theorem bk_lt {C S : SS} : bkS C S < 1024 := by
  unfold bkS
  have := (mixG (fun j => lN (rwS C S j)) 5 * (-7046029254386353131)).toBitVec.isLt
  omega
theorem bk_shr (x : Int64) : Int64.toInt32 (Int64.toUInt64 x >>> ((Int32.toInt64 54).toUInt64 &&& Int64.toUInt64 63)).toInt64 = iI ((x.toBitVec.toNat / 2 ^ 54 : Nat) : Int) := by
  obtain ⟨n, hn, rfl⟩ := wb_of x
  rw [show (54 : Int32) = nI 54 from rfl, wb_shr hn (by decide), wb_tn hn, lN_jI, jI_toI32]
theorem X_bucket {C S : SS} {X Y : Mm} {m : Nat} (hm : m < 2000) (h : Rw X m (rwS C S) Y) : f_T_bucketOf_103 (iI (m : Int)) Y = some (iI (bkS C S : Int)) := by
  have loop := loop_up (σ := Int64 × Int32) (γ := Option Int32) (fun f s => lp_T_bucketOf_103_5 f (iI (m : Int)) s.1 s.2 Y) 5 (fun i s => s.1 = mixG (fun j => lN (rwS C S j)) i ∧ s.2 = iI (i : Int)) (fun s => some (Int64.toInt32 (Int64.toUInt64 (s.1 * (-7046029254386353131)) >>> ((Int32.toInt64 54).toUInt64 &&& Int64.toUInt64 63)).toInt64)) ?_ ?_ FW (FW_gt (by omega)) (0, iI 0) ⟨rfl, rfl⟩
  · obtain ⟨⟨x, y⟩, ⟨e1, -⟩, ev⟩ := loop
    dsimp only at e1
    unfold f_T_bucketOf_103
    rw [l0]
    refine ev.trans ?_
    rw [e1, bk_shr]
    rfl
  · rintro f i ⟨x, y⟩ hi ⟨ex, ey⟩
    dsimp only at ex ey
    subst ex; subst ey
    have c0 : ¬ (5 ≤ iI (i : Int)) := by rw [l5, iI_le (by omega) (by omega) (by omega) (by omega)]; omega
    have rr := h.rd hm (j := i) hi (z := 5 * (m : Int) + i) rfl
    refine ⟨(mixG (fun j => lN (rwS C S j)) (i + 1), iI ((i + 1 : Nat) : Int)), ?_, rfl, rfl⟩
    show blp_T_bucketOf_103_5 (lp_T_bucketOf_103_5 f) (iI (m : Int)) _ (iI (i : Int)) Y = lp_T_bucketOf_103_5 f _ _ _ Y
    unfold blp_T_bucketOf_103_5
    rw [if_neg c0, l5, iI_mul, iI_add, rr, Option.bind_some, Option.bind_some, l1, iI_add]
    rfl
  · rintro f ⟨x, y⟩ ⟨ex, ey⟩
    dsimp only at ex ey
    subst ex; subst ey
    rfl
/-- the same sign -/
def alS (C S T : SS) : Prop := ∀ j, j < 5 → rwS C S j = rwS C T j
theorem al_bk {C S T : SS} (h : alS C S T) : bkS C S = bkS C T := by
  unfold bkS
  rw [mixG_cg (g := fun j => lN (rwS C T j)) 5 (fun j hj => by rw [h j hj])]
def RwB (C S : SS) : Prop := ∀ j, j < 5 → rwS C S j < 2 ^ 63
theorem X_alike {C S T : SS} {Y : Mm} {m o : Nat} (hm : m < 2000) (ho : o < 2000) (bS : RwB C S) (bT : RwB C T) (h1 : ∀ j, j < 5 → Y.2 104 (5 * m + j) = lN (rwS C S j)) (h2 : ∀ j, j < 5 → Y.2 104 (5 * o + j) = lN (rwS C T j)) : (alS C S T ∧ f_T_isAlike_103 (iI (m : Int)) (iI (o : Int)) Y = some 1) ∨ (¬ alS C S T ∧ f_T_isAlike_103 (iI (m : Int)) (iI (o : Int)) Y = some 0) := by
  have g1 : ∀ j : Nat, j < 5 → rdL (Y.2 104) 10000 (iI (5 * (m : Int) + j)) = some (lN (rwS C S j)) := fun j hj => by
    rw [rdL_iI (by omega) (by omega) (by omega), show (5 * (m : Int) + j).toNat = 5 * m + j by omega, h1 j hj]
  have g2 : ∀ j : Nat, j < 5 → rdL (Y.2 104) 10000 (iI (5 * (o : Int) + j)) = some (lN (rwS C T j)) := fun j hj => by
    rw [rdL_iI (by omega) (by omega) (by omega), show (5 * (o : Int) + j).toNat = 5 * o + j by omega, h2 j hj]
  have key : ∀ k j f : Nat, j + k = 5 → k < f → (∀ i, i < j → rwS C S i = rwS C T i) → (alS C S T ∧ lp_T_isAlike_103_2 f (iI (m : Int)) (iI (o : Int)) (iI (j : Int)) Y = some 1) ∨ (¬ alS C S T ∧ lp_T_isAlike_103_2 f (iI (m : Int)) (iI (o : Int)) (iI (j : Int)) Y = some 0) := by
    intro k
    induction k with
    | zero =>
      intro j f hj hf ha
      obtain ⟨f, rfl⟩ : ∃ g, f = g + 1 := ⟨f - 1, by omega⟩
      have : j = 5 := by omega
      subst this
      exact Or.inl ⟨ha, rfl⟩
    | succ k ih =>
      intro j f hj hf ha
      obtain ⟨f, rfl⟩ : ∃ g, f = g + 1 := ⟨f - 1, by omega⟩
      have c0 : ¬ (5 ≤ iI (j : Int)) := by rw [l5, iI_le (by omega) (by omega) (by omega) (by omega)]; omega
      have b1 := bS j (by omega)
      have b2 := bT j (by omega)
      have ev : lp_T_isAlike_103_2 (f + 1) (iI (m : Int)) (iI (o : Int)) (iI (j : Int)) Y = if lg_cmp (lN (rwS C S j)) (lN (rwS C T j)) = 0 then lp_T_isAlike_103_2 f (iI (m : Int)) (iI (o : Int)) (iI ((j + 1 : Nat) : Int)) Y else some 0 := by
        show blp_T_isAlike_103_2 (lp_T_isAlike_103_2 f) _ _ _ Y = _
        unfold blp_T_isAlike_103_2
        rw [if_neg c0, l5, iI_mul, iI_add, g1 j (by omega), Option.bind_some, iI_mul, iI_add, g2 j (by omega), Option.bind_some, l1, iI_add]
        rfl
      rw [ev]
      by_cases e : rwS C S j = rwS C T j
      · rw [if_pos (lg_eq.mpr (by rw [e]))]
        exact ih (j + 1) f (by omega) (by omega) (fun i hi => by
          by_cases q : i = j
          · rw [q]; exact e
          · exact ha i (by omega))
      · rw [if_neg (fun q => e ((lN_inj (by omega) (by omega)).mp (lg_eq.mp q)))]
        exact Or.inr ⟨fun q => e (q j (by omega)), rfl⟩
  unfold f_T_isAlike_103
  rw [l0]
  exact key 5 0 FW (by omega) (FW_gt (by omega)) (fun i hi => absurd hi (by omega))
/-- what the trace holds before minute i: A o the state of minute o -/
def TrR (C : SS) (A : Nat → SS) (bg i : Nat) (X : Mm) : Prop := (∀ v, v < 1024 → X.1 105 v = iI (laS (fun n => bkS C (A n) = v) bg i)) ∧ (∀ o, bg ≤ o → o < i → X.1 106 o = iI (laS (fun n => bkS C (A n) = bkS C (A o)) bg o)) ∧ ∀ o, bg ≤ o → o < i → ∀ j, j < 5 → X.2 104 (5 * o + j) = lN (rwS C (A o) j)
theorem la_b {P : Nat → Prop} {bg n : Nat} : -1 ≤ laS P bg n ∧ laS P bg n < n := by
  rcases la_sp (P := P) (bg := bg) n with ⟨a, -⟩ | ⟨o, a, b, c, -, -⟩
  · rw [a]; omega
  · rw [a]; omega
/-- the way through a bucket -/
theorem X_chain {C : SS} {A : Nat → SS} {bg i : Nat} {Y : Mm} (hi : i < 2000) (hbi : bg ≤ i) (hB : ∀ o, bg ≤ o → o ≤ i → RwB C (A o)) (hT : TrR C A bg i Y) (hR : ∀ j, j < 5 → Y.2 104 (5 * i + j) = lN (rwS C (A i) j)) : ∀ (n : Nat) (f x : Nat), n ≤ i → x + n ≤ i → n < f → (laS (fun o => alS C (A i) (A o)) bg n = -1 ∧ lp_T_earlierLike_103_52_41 f (iI (i : Int)) (iI (bkS C (A i) : Int)) (iI (laS (fun o => bkS C (A o) = bkS C (A i)) bg n)) (iI (x : Int)) Y = j_T_earlierLike_103_52_83 (iI (i : Int)) (iI (bkS C (A i) : Int)) Y) ∨ (∃ o : Nat, o < i ∧ bg ≤ o ∧ laS (fun o => alS C (A i) (A o)) bg n = o ∧ lp_T_earlierLike_103_52_41 f (iI (i : Int)) (iI (bkS C (A i) : Int)) (iI (laS (fun o => bkS C (A o) = bkS C (A i)) bg n)) (iI (x : Int)) Y = some (iI (o : Int), Y)) := by
  intro n
  induction n using Nat.strongRecOn with
  | _ n ih =>
    intro f x hn hx hf
    obtain ⟨f, rfl⟩ : ∃ g, f = g + 1 := ⟨f - 1, by omega⟩
    have c0 : ¬ (2000 ≤ iI (x : Int)) := by rw [show (2000 : Int32) = iI 2000 from rfl, iI_le (by omega) (by omega) (by omega) (by omega)]; omega
    rcases la_sp (P := fun o => bkS C (A o) = bkS C (A i)) (bg := bg) n with ⟨a, b⟩ | ⟨o, a, b, c, d, e⟩
    · left
      refine ⟨la_no n (fun o h1 h2 h3 => b o h1 h2 (al_bk h3).symm), ?_⟩
      show blp_T_earlierLike_103_52_41 (lp_T_earlierLike_103_52_41 f) _ _ _ _ Y = _
      unfold blp_T_earlierLike_103_52_41
      rw [if_neg c0, a, if_pos lm1.symm]
    · have cm : ¬ (iI (o : Int) = -1) := by rw [lm1, iI_eq (by omega) (by omega) (by omega) (by omega)]; omega
      have sk : laS (fun o => alS C (A i) (A o)) bg n = laS (fun o => alS C (A i) (A o)) bg (o + 1) := by
        have := la_sk (P := fun o => alS C (A i) (A o)) (bg := bg) (a := o + 1) (n - (o + 1)) (fun q h1 h2 h3 h4 => e q (by omega) (by omega) (al_bk h4).symm)
        rw [← this]
        congr 1
        omega
      have rc : rd (Y.1 106) 2000 (iI (o : Int)) = some (iI (laS (fun q => bkS C (A q) = bkS C (A i)) bg o)) := by
        rw [rd_iI (by omega) (by omega) (by omega), Int.toNat_natCast, hT.2.1 o b (by omega)]
        rw [d]
      have ev : lp_T_earlierLike_103_52_41 (f + 1) (iI (i : Int)) (iI (bkS C (A i) : Int)) (iI (laS (fun o => bkS C (A o) = bkS C (A i)) bg n)) (iI (x : Int)) Y = (f_T_isAlike_103 (iI (i : Int)) (iI (o : Int)) Y).bind fun v3 => if v3 = 0 then lp_T_earlierLike_103_52_41 f (iI (i : Int)) (iI (bkS C (A i) : Int)) (iI (laS (fun q => bkS C (A q) = bkS C (A i)) bg o)) (iI ((x + 1 : Nat) : Int)) Y else some (iI (o : Int), Y) := by
        show blp_T_earlierLike_103_52_41 (lp_T_earlierLike_103_52_41 f) _ _ _ _ Y = _
        unfold blp_T_earlierLike_103_52_41
        rw [if_neg c0, a, if_neg cm, rc, Option.bind_some, l1, iI_add]
        rfl
      rw [ev, sk]
      rcases X_alike (m := i) (o := o) hi (by omega) (hB i hbi (Nat.le_refl i)) (hB o b (by omega)) hR (hT.2.2 o b (by omega)) with ⟨q1, q2⟩ | ⟨q1, q2⟩
      · right
        exact ⟨o, by omega, b, la_t ⟨b, q1⟩, by rw [q2, Option.bind_some, if_neg n10]⟩
      · rw [la_f (fun z => q1 z.2), q2, Option.bind_some, if_pos rfl]
        exact ih o c f (x + 1) (by omega) (by omega) (by omega)

theorem Sg_of {C S : SS} (hO : CfgOk C) (hB : Bd C S) (hT : S 14 0 ≤ 10000) (hs : ∀ i : Nat, (i : Int) < C 0 2 → C 8 i < S 14 0) : SgOk C S := by
  obtain ⟨b1, b2, b3, b4, b5, b6⟩ := hB
  have hk3 := hO.2.1
  refine ⟨fun b hb => ?_, fun c hc => ?_, fun k hk => ?_, hs, b2, hT⟩
  · obtain ⟨a1, a2, a3, a4, a5, a6⟩ := b1.1 b hb
    obtain ⟨c1, c2, c3, c4, c5, c6, c7, c8⟩ := b3 b hb
    refine ⟨by omega, by omega, by omega, c1, c2, a5, c3, by omega⟩
  · by_cases q : ((c / 3 : Nat) : Int) < C 0 1 ∧ ((c % 3 : Nat) : Int) < C 0 0
    · have := b1.2 (c / 3) (c % 3) q.1 q.2
      rw [show 3 * (c / 3) + c % 3 = c by omega] at this
      obtain ⟨x, y, z⟩ := this
      split at y <;> omega
    · have := (b6 (c / 3) (c % 3) (by omega) (by omega) q).1
      rw [show 3 * (c / 3) + c % 3 = c by omega] at this
      omega
  · obtain ⟨x, y, z, u, v⟩ := b4 k hk
    have := cuA_bd hO k (S 14 0).toNat
    omega
theorem rw_b {C S : SS} (hO : CfgOk C) (h : SgOk C S) : RwB C S := by
  have hk1 := hO.1
  have hk3 := hO.2.1
  have hb1 := hO.2.2.1
  have hb6 := hO.2.2.2.1
  have hs0 := hO.2.2.2.2.1
  have hs4 := hO.2.2.2.2.2.1
  intro j hj
  unfold rwS
  split
  · unfold rwB
    have d1 : (if 2 * j < (C 0 1).toNat then dgB C S (2 * j) else 0) < 2 ^ 30 := by
      split
      · exact dg_b hO h (by omega)
      · decide
    have d2 : (if 2 * j + 1 < (C 0 1).toNat then dgB C S (2 * j + 1) else 0) < 2 ^ 30 := by
      split
      · exact dg_b hO h (by omega)
      · decide
    omega
  · split
    · have := wt_b (S := S) (C 0 0).toNat (fun k hk => by have := h.2.2.1 k (by omega); omega)
      have p : 1048576 ^ (C 0 0).toNat ≤ 1048576 ^ 3 := Nat.pow_le_pow_right (by decide) (by omega)
      have : 1048576 ^ 3 = 1152921504606846976 := by decide
      omega
    · have := nx_b (C := C) (t := S 14 0) (C 0 2).toNat (fun i hi => by
        obtain ⟨o1, o2, o3, o4, o5, o6⟩ := hO.2.2.2.2.2.2.2.2 i (by omega)
        have m0 := Int.emod_nonneg (S 14 0 - C 8 i) (show C 7 i ≠ 0 by omega)
        omega)
      have p : 1024 ^ (C 0 2).toNat ≤ 1024 ^ 4 := Nat.pow_le_pow_right (by decide) (by omega)
      have : 1024 ^ 4 = 1099511627776 := by decide
      omega
theorem dg_cq {C S T : SS} (h : Cq S T) (b : Nat) : dgB C T b = dgB C S b := by
  unfold dgB lasN lefN remN
  rw [h.2, h.1 0 b (cf 0 rfl), h.1 1 b (cf 1 rfl), h.1 2 b (cf 2 rfl), h.1 3 b (cf 3 rfl), h.1 4 _ (cf 4 rfl), h.1 4 _ (cf 4 rfl), h.1 4 _ (cf 4 rfl)]
theorem wt_cq {S T : SS} (h : Cq S T) : ∀ n, wtN T n = wtN S n
  | 0 => rfl
  | n + 1 => by unfold wtN; rw [wt_cq h n, h.1 16 n (cf 16 rfl)]
theorem rw_cq {C S T : SS} (h : Cq S T) (j : Nat) : rwS C T j = rwS C S j := by
  unfold rwS rwB
  rw [dg_cq h, dg_cq h, wt_cq h, h.2]
/-- the last beginning of a stream -/
def bgN (C : SS) : Nat → Int
  | 0 => 0
  | i + 1 => if C 8 i ≤ bgN C i then bgN C i else C 8 i
theorem bgN_sp {C : SS} : ∀ n : Nat, 0 ≤ bgN C n ∧ (∀ i, i < n → C 8 i ≤ bgN C n) ∧ (bgN C n = 0 ∨ ∃ i, i < n ∧ bgN C n = C 8 i)
  | 0 => ⟨Int.le_refl _, fun i h => absurd h (by omega), Or.inl rfl⟩
  | n + 1 => by
    obtain ⟨a, b, c⟩ := bgN_sp (C := C) n
    unfold bgN
    split
    · rename_i h
      refine ⟨a, fun i hi => ?_, ?_⟩
      · by_cases q : i = n
        · rw [q]; exact h
        · exact b i (by omega)
      · rcases c with c | ⟨i, c, d⟩
        · exact Or.inl c
        · exact Or.inr ⟨i, by omega, d⟩
    · rename_i h
      refine ⟨by omega, fun i hi => ?_, Or.inr ⟨n, by omega, rfl⟩⟩
      by_cases q : i = n
      · rw [q]; exact Int.le_refl _
      · have := b i (by omega); omega
def bgC (C : SS) : Nat := (bgN C (C 0 2).toNat).toNat
theorem bgC_le {C : SS} {m : Nat} : bgC C ≤ m ↔ ∀ i : Nat, (i : Int) < C 0 2 → C 8 i ≤ m := by
  obtain ⟨a, b, c⟩ := bgN_sp (C := C) (C 0 2).toNat
  unfold bgC
  refine ⟨fun h i hi => ?_, fun h => ?_⟩
  · have := b i (by omega); omega
  · rcases c with c | ⟨i, c, d⟩
    · omega
    · have := h i (by omega); omega
theorem bgC_b {C : SS} (hO : CfgOk C) : bgC C ≤ 999 := by
  rw [bgC_le]
  intro i hi
  have := hO.2.2.2.2.2.2.2.2 i hi
  omega
theorem X_begun {C S : SS} {tt : Int} {X : Mm} {i : Nat} (hO : CfgOk C) (hC : CfgX C X) (h : RelX 52 S tt X) (h14 : S 14 0 = (i : Int) + 1) (hi : i ≤ 9999) : f_L_allStreamsBegun_52 X = some (if bgC C ≤ i then 1 else 0) := by
  have hs0 := hO.2.2.2.2.1
  have hs4 := hO.2.2.2.2.2.1
  have v14 : X.1 52 14 = iI (S 14 0) := h.1 14 0 (fx 14 rfl) (by decide)
  have key : ∀ k j f : Nat, (j : Int) + k = C 0 2 → k < f → (∀ s : Nat, s < j → C 8 s ≤ i) → lp_L_allStreamsBegun_52_2 f (iI (j : Int)) X = some (if bgC C ≤ i then 1 else 0) := by
    intro k
    induction k with
    | zero =>
      intro j f hj hf ha
      obtain ⟨f, rfl⟩ : ∃ g, f = g + 1 := ⟨f - 1, by omega⟩
      show blp_L_allStreamsBegun_52_2 (lp_L_allStreamsBegun_52_2 f) (iI (j : Int)) X = _
      unfold blp_L_allStreamsBegun_52_2
      have c0 : iI (C 0 2) ≤ iI (j : Int) := (iI_le (by omega) (by omega) (by omega) (by omega)).mpr (by omega)
      rw [hC.2.2.1, if_pos c0, if_pos (bgC_le.mpr (fun s hs => ha s (by omega)))]
    | succ k ih =>
      intro j f hj hf ha
      obtain ⟨f, rfl⟩ : ∃ g, f = g + 1 := ⟨f - 1, by omega⟩
      obtain ⟨o1, o2, o3, o4, o5, o6⟩ := hO.2.2.2.2.2.2.2.2 j (by omega)
      have c0 : ¬ (iI (C 0 2) ≤ iI (j : Int)) := by rw [iI_le (by omega) (by omega) (by omega) (by omega)]; omega
      have g : rd (X.1 8) 4 (iI (j : Int)) = some (iI (C 8 j)) := by
        rw [rd_iI (by omega) (by omega) (by omega), Int.toNat_natCast, (hC.2.2.2.2 j (by omega) (by omega)).2.2]
      have c1 : (iI (C 8 j) < iI (S 14 0)) ↔ C 8 j < S 14 0 := iI_lt (by omega) (by omega) (by omega) (by omega)
      show blp_L_allStreamsBegun_52_2 (lp_L_allStreamsBegun_52_2 f) (iI (j : Int)) X = _
      unfold blp_L_allStreamsBegun_52_2
      rw [hC.2.2.1, if_neg c0, g, Option.bind_some, v14]
      by_cases e : C 8 j ≤ i
      · rw [if_pos (c1.mpr (by omega)), l1, iI_add]
        rw [← l1]
        exact ih (j + 1) f (by omega) (by omega) (fun s hs => by
          by_cases q : s = j
          · rw [q]; exact e
          · exact ha s (by omega))
      · rw [if_neg (fun q => by have := c1.mp q; omega), if_neg (fun q => e (bgC_le.mp q j (by omega)))]
  unfold f_L_allStreamsBegun_52
  rw [l0]
  exact key (C 0 2).toNat 0 FW (by omega) (FW_gt (by omega)) (fun s hs => absurd hs (by omega))
/-- the state behind minute m on paper -/
def paS (C : SS) (w : Nat → Int) (m : Nat) : SS := itS C w (m + 1) (bgS C (fun _ => 0))
noncomputable def laM (C : SS) (w : Nat → Int) (m : Nat) : Int := laS (fun o => alS C (paS C w m) (paS C w o)) (bgC C) m
/-- the first minute that comes again, and of which -/
noncomputable def agS (L : Nat → Int) : Nat → Nat → Int × Int
  | 0, _ => (-2, 0)
  | k + 1, m => if L m = -1 then agS L k (m + 1) else ((m : Int), L m)
theorem TrR.eq {C : SS} {A : Nat → SS} {bg i : Nat} {X Y : Mm} (h : TrR C A bg i X) (e5 : Y.1 105 = X.1 105) (e6 : Y.1 106 = X.1 106) (e4 : ∀ o j, o < i → j < 5 → Y.2 104 (5 * o + j) = X.2 104 (5 * o + j)) : TrR C A bg i Y := ⟨fun v hv => by rw [e5]; exact h.1 v hv, fun o a b => by rw [e6]; exact h.2.1 o a b, fun o a b j hj => by rw [e4 o j b hj]; exact h.2.2 o a b j hj⟩
theorem bd_pa {C : SS} {w : Nat → Int} (hO : CfgOk C) (hW : WyOk C w) {n : Nat} (hn : n ≤ 2000) : Bd C (itS C w n (bgS C (fun _ => 0))) ∧ itS C w n (bgS C (fun _ => 0)) 14 0 = n := by
  obtain ⟨b1, b2, b3, b4⟩ := Bd_bg hO (aOk_0 C)
  exact ⟨Bd_it hO hW b1 n (by rw [b3]; omega), by rw [it_14, b3]; omega⟩
theorem sg_pa {C : SS} {w : Nat → Int} (hO : CfgOk C) (hW : WyOk C w) {m : Nat} (hm : m < 2000) (h : bgC C ≤ m) : SgOk C (paS C w m) := by
  obtain ⟨a, b⟩ := bd_pa hO hW (n := m + 1) (by omega)
  refine Sg_of hO a ?_ (fun i hi => ?_)
  · show itS C w (m + 1) (bgS C (fun _ => 0)) 14 0 ≤ 10000
    omega
  · have := bgC_le.mp h i hi
    show C 8 i < itS C w (m + 1) (bgS C (fun _ => 0)) 14 0
    omega
theorem X_fa {C : SS} {w : Nat → Int} {t : Nat} (hO : CfgOk C) (hW : WyOk C w) (ht : t ≤ 2000) : ∀ (k i f : Nat) (X : Mm) (T : SS) (tt : Int), i + k = t → k < f → CfgX C X → WyX 49 w X → RelX 52 T tt X → Cq (itS C w i (bgS C (fun _ => 0))) T → T 14 1 = -2 → (∀ b : Nat, (b : Int) < C 0 1 → T 7 b = 0 ∧ 0 ≤ T 11 b ∧ T 11 b ≤ 27) → TrR C (paS C w) (bgC C) i X → ∃ Y, lp_Q_firstAgain_48_46 f (iI t) (iI i) X = some (iI (agS (laM C w) k i).1, Y) ∧ ((agS (laM C w) k i).1 ≠ -2 → Y.1 48 5 = iI (agS (laM C w) k i).2) ∧ ∀ q, q < 48 ∨ (64 < q ∧ q < 103) → Y.1 q = X.1 q := by
  intro k
  induction k with
  | zero =>
    intro i f X T tt hi hf hC hw h q t14 t7 hT
    obtain ⟨f, rfl⟩ : ∃ g, f = g + 1 := ⟨f - 1, by omega⟩
    refine ⟨X, ?_, fun z => absurd rfl z, fun _ _ => rfl⟩
    show blp_Q_firstAgain_48_46 (lp_Q_firstAgain_48_46 f) _ _ X = _
    unfold blp_Q_firstAgain_48_46
    have c0 : iI (t : Int) ≤ iI (i : Int) := (iI_le (by omega) (by omega) (by omega) (by omega)).mpr (by omega)
    rw [if_pos c0, lm2]
    rfl
  | succ k ih =>
    intro i f X T tt hi hf hC hw h q t14 t7 hT
    obtain ⟨f, rfl⟩ : ∃ g, f = g + 1 := ⟨f - 1, by omega⟩
    obtain ⟨bi, mi⟩ := bd_pa hO hW (n := i) (by omega)
    have tn : T 14 0 = i := by rw [q.2, mi]
    have hBT : Bd C T := Bd_cq bi q t7 t14
    obtain ⟨Y1, y1, y2, y3⟩ := X_change_52 hC hO h hw hW hBT (by rw [tn]; omega)
    obtain ⟨me, mf⟩ := chg_Me hO hW hBT (by rw [tn]; omega)
    have m14 : ∀ j, chgS C w T 14 j = T 14 j := fun j => mf 14 j (by decide) (by decide) (by decide) (by decide) (by decide) (by decide) (by decide) (by decide) (by decide) (by decide) (by decide)
    have v14 : Y1.1 52 14 = iI (i : Int) := by rw [show Y1.1 52 14 = iI (chgS C w T 14 0) from y2.1 14 0 (fx 14 rfl) (by decide), m14, tn]
    have c0 : ¬ (iI (t : Int) ≤ iI (i : Int)) := by rw [iI_le (by omega) (by omega) (by omega) (by omega)]; omega
    have r2 := y2.put (i := 14) (j := 0) (fx 14 rfl) (by decide) ((i : Int) + 1)
    have q2 : Cq (paS C w i) (uS (chgS C w T) 14 0 ((i : Int) + 1)) := by
      have a := (Cq_chg (C := C) (w := w) q).u (i := 14) (j := 0) (z := itS C w i (bgS C (fun _ => 0)) 14 0 + 1) (z2 := (i : Int) + 1) (by rw [mi]) (Or.inr ⟨rfl, rfl⟩)
      have b := Cq_min (C := C) (w := w) (S := itS C w i (bgS C (fun _ => 0)))
      exact b.sy.tr a
    generalize hT2 : uS (chgS C w T) 14 0 ((i : Int) + 1) = T2 at r2 q2
    have e14 : T2 14 0 = (i : Int) + 1 := by rw [← hT2, uS_eq]
    have t14' : T2 14 1 = -2 := by rw [← hT2, uS_ni (by decide), m14]; exact t14
    have t7' : ∀ b : Nat, (b : Int) < C 0 1 → T2 7 b = 0 ∧ 0 ≤ T2 11 b ∧ T2 11 b ≤ 27 := fun b hb => by
      rw [← hT2, uS_nf (by decide), uS_nf (by decide), mf 7 b (by decide) (by decide) (by decide) (by decide) (by decide) (by decide) (by decide) (by decide) (by decide) (by decide) (by decide), mf 11 b (by decide) (by decide) (by decide) (by decide) (by decide) (by decide) (by decide) (by decide) (by decide) (by decide) (by decide)]
      exact t7 b hb
    have o2 : OnlyX 52 X (u1 Y1 52 14 (iI ((i : Int) + 1))) := y3.u1 (by decide) (by decide)
    have r3 : RelX 52 T2 (tt + (totS (chgS C w T) (C 0 0).toNat - totS T (C 0 0).toNat)) (u1 Y1 52 14 (iI ((i : Int) + 1))) := r2
    have hd : lp_Q_firstAgain_48_46 (f + 1) (iI t) (iI i) X = (f_L_allStreamsBegun_52 (u1 Y1 52 14 (iI ((i : Int) + 1)))).bind fun v4 => if v4 = 0 then j_Q_firstAgain_48_107 (lp_Q_firstAgain_48_46 f) (iI t) (iI i) (u1 Y1 52 14 (iI ((i : Int) + 1))) else (f_T_earlierLike_103_52 (iI i) (u1 Y1 52 14 (iI ((i : Int) + 1)))).bind fun q6 => (some (u1 q6.2 48 5 q6.1)).bind fun M7 => if (M7.1 48 5) = (-1) then j_Q_firstAgain_48_107 (lp_Q_firstAgain_48_46 f) (iI t) (iI i) M7 else some (iI i, M7) := by
      show blp_Q_firstAgain_48_46 (lp_Q_firstAgain_48_46 f) _ _ X = _
      unfold blp_Q_firstAgain_48_46
      rw [if_neg c0, y1, Option.bind_some, Option.bind_some, v14, l1, iI_add]
    generalize u1 Y1 52 14 (iI ((i : Int) + 1)) = Z at o2 r3 hd
    have cZ := o2.cfg (by decide) hC
    have wZ := o2.wy (q := 49) (by decide) hw
    have tZ : TrR C (paS C w) (bgC C) i Z := hT.eq (o2.1 105 (by omega)) (o2.1 106 (by omega)) (fun o j _ _ => by rw [o2.2])
    have ei : iI (i : Int) + 1 = iI ((i + 1 : Nat) : Int) := by rw [l1, iI_add]; rfl
    rw [hd, X_begun hO cZ r3 e14 (by omega), Option.bind_some]
    by_cases hb : bgC C ≤ i
    · rw [if_pos hb, if_neg n10]
      have rwe : ∀ j, rwS C T2 j = rwS C (paS C w i) j := fun j => rw_cq q2 j
      have sg : SgOk C (paS C w i) := sg_pa hO hW (by omega) hb
      have sg2 : SgOk C T2 := by
        obtain ⟨s1, s2, s3, s4, s5, s6⟩ := sg
        have z := q2.2
        refine ⟨fun b hb => ?_, fun c hc => by rw [q2.1 4 c (cf 4 rfl)]; exact s2 c hc, fun k hk => by rw [q2.1 16 k (cf 16 rfl)]; exact s3 k hk, fun s hs => by rw [z]; exact s4 s hs, by rw [z]; exact s5, by rw [z]; exact s6⟩
        rw [q2.1 0 b (cf 0 rfl), q2.1 1 b (cf 1 rfl), q2.1 2 b (cf 2 rfl), q2.1 3 b (cf 3 rfl), z]
        exact s1 b hb
      obtain ⟨W, w1, w2⟩ := X_sign (m := i) hO cZ r3 sg2 (by omega)
      have w2' : Rw Z i (rwS C (paS C w i)) W := w2.cg (fun j _ => (rwe j).symm)
      have bkW := X_bucket (m := i) (by omega) w2'
      have tW : TrR C (paS C w) (bgC C) i W := tZ.eq (by rw [w2.1]) (by rw [w2.1]) (fun o j ho hj => w2.2.2 _ (by omega))
      have bl := bk_lt (C := C) (S := paS C w i)
      have hdW : rd (W.1 105) 1024 (iI (bkS C (paS C w i) : Int)) = some (iI (laS (fun n => bkS C (paS C w n) = bkS C (paS C w i)) (bgC C) i)) := by
        rw [rd_iI (by omega) (by omega) (by omega), Int.toNat_natCast, tW.1 _ bl]
      have p0 : ¬ (iI (i : Int) < 0) := by rw [l0, iI_lt (by omega) (by omega) (by omega) (by omega)]; omega
      have p1 : iI (i : Int) < 2000 := by rw [show (2000 : Int32) = iI 2000 from rfl]; exact (iI_lt (by omega) (by omega) (by omega) (by omega)).mpr (by omega)
      have eL : f_T_earlierLike_103_52 (iI i) Z = lp_T_earlierLike_103_52_41 FW (iI (i : Int)) (iI (bkS C (paS C w i) : Int)) (iI (laS (fun n => bkS C (paS C w n) = bkS C (paS C w i)) (bgC C) i)) (iI ((0 : Nat) : Int)) W := by
        unfold f_T_earlierLike_103_52
        rw [if_neg p0, if_pos p1, l5, iI_mul, w1, Option.bind_some, bkW, Option.bind_some, hdW, Option.bind_some, l0]
        rfl
      have hBw : ∀ o, bgC C ≤ o → o ≤ i → RwB C (paS C w o) := fun o a b => rw_b hO (sg_pa hO hW (by omega) a)
      rw [eL]
      rcases X_chain (i := i) (by omega) hb hBw tW w2'.2.1 i FW 0 (Nat.le_refl i) (by omega) (FW_gt (by omega)) with ⟨n1, n2⟩ | ⟨o, n1, n2, n3, n4⟩
      · -- not before
        have hL : laM C w i = -1 := n1
        have ag : agS (laM C w) (k + 1) i = agS (laM C w) k (i + 1) := if_pos hL
        have wr1 : wr W 106 2000 (iI (i : Int)) (iI (laS (fun n => bkS C (paS C w n) = bkS C (paS C w i)) (bgC C) i)) = some (u1 W 106 i (iI (laS (fun n => bkS C (paS C w n) = bkS C (paS C w i)) (bgC C) i))) := by rw [wr_iI (by omega) (by omega) (by omega), Int.toNat_natCast]
        have wr2 : ∀ V : Mm, wr V 105 1024 (iI (bkS C (paS C w i) : Int)) (iI (i : Int)) = some (u1 V 105 (bkS C (paS C w i)) (iI (i : Int))) := fun V => by rw [wr_iI (by omega) (by omega) (by omega), Int.toNat_natCast]
        have eJ : j_T_earlierLike_103_52_83 (iI (i : Int)) (iI (bkS C (paS C w i) : Int)) W = some (-1, u1 (u1 W 106 i (iI (laS (fun n => bkS C (paS C w n) = bkS C (paS C w i)) (bgC C) i))) 105 (bkS C (paS C w i)) (iI (i : Int))) := by
          unfold j_T_earlierLike_103_52_83
          rw [hdW, Option.bind_some, wr1, Option.bind_some, wr2, Option.bind_some]
        rw [n2, eJ, Option.bind_some, Option.bind_some]
        dsimp only
        rw [if_pos (by rw [u1_at, if_pos ⟨rfl, rfl⟩])]
        unfold j_Q_firstAgain_48_107
        rw [ei, ag]
        have at' : ∀ qq, qq ≠ 48 → qq ≠ 105 → qq ≠ 106 → (u1 (u1 (u1 W 106 i (iI (laS (fun n => bkS C (paS C w n) = bkS C (paS C w i)) (bgC C) i))) 105 (bkS C (paS C w i)) (iI (i : Int))) 48 5 (-1)).1 qq = Z.1 qq := fun qq a b c => by rw [u1_ne a, u1_ne b, u1_ne c, w2.1]
        have tN : TrR C (paS C w) (bgC C) (i + 1) (u1 (u1 (u1 W 106 i (iI (laS (fun n => bkS C (paS C w n) = bkS C (paS C w i)) (bgC C) i))) 105 (bkS C (paS C w i)) (iI (i : Int))) 48 5 (-1)) := by
          refine ⟨fun v hv => ?_, fun o a b => ?_, fun o a b j hj => ?_⟩
          · rw [u1_ne (by decide), u1_at]
            by_cases e : v = bkS C (paS C w i)
            · rw [if_pos ⟨rfl, e⟩, la_t ⟨hb, e.symm⟩]
            · rw [if_neg (fun z => e z.2), u1_ne (by decide), la_f (fun z => e z.2.symm)]; exact tW.1 v hv
          · rw [u1_ne (by decide), u1_ne (by decide), u1_at]
            by_cases e : o = i
            · rw [if_pos ⟨rfl, e⟩, e]
            · rw [if_neg (fun z => e z.2)]; exact tW.2.1 o a (by omega)
          · show W.2 104 (5 * o + j) = _
            by_cases e : o = i
            · rw [e]; exact w2'.2.1 j hj
            · exact tW.2.2 o a (by omega) j hj
        generalize u1 (u1 (u1 W 106 i (iI (laS (fun n => bkS C (paS C w n) = bkS C (paS C w i)) (bgC C) i))) 105 (bkS C (paS C w i)) (iI (i : Int))) 48 5 (-1) = V at at' tN
        obtain ⟨U, u1', u2', u3'⟩ := ih (i + 1) f V T2 _ (by omega) (by omega) (cZ.fr (fun qq a b => at' qq (by omega) (by omega) (by omega))) ⟨fun c hc => by rw [at' 50 (by decide) (by decide) (by decide)]; exact wZ.1 c hc, fun c hc => by rw [at' 51 (by decide) (by decide) (by decide)]; exact wZ.2.1 c hc, by rw [at' 49 (by decide) (by decide) (by decide)]; exact wZ.2.2⟩ (r3.other (fun qq a b => at' qq (by omega) (by omega) (by omega))) q2 t14' t7' tN
        exact ⟨U, u1', u2', fun qq hq => by rw [u3' qq hq, at' qq (by omega) (by omega) (by omega), o2.1 qq (by omega)]⟩
      · have hL : laM C w i = o := n3
        have ag : agS (laM C w) (k + 1) i = ((i : Int), (o : Int)) := by
          show (if laM C w i = -1 then _ else ((i : Int), laM C w i)) = _
          rw [if_neg (by rw [hL]; omega), hL]
        rw [n4, Option.bind_some, Option.bind_some, ag]
        dsimp only
        rw [if_neg (by rw [u1_at, if_pos ⟨rfl, rfl⟩, lm1, iI_eq (by omega) (by omega) (by omega) (by omega)]; omega)]
        exact ⟨_, rfl, fun _ => by rw [u1_at, if_pos ⟨rfl, rfl⟩], fun qq hq => by rw [u1_ne (by omega), w2.1, o2.1 qq (by omega)]⟩
    · rw [if_neg hb, if_pos rfl]
      have hL : laM C w i = -1 := la_no i (fun o a b => absurd a (by omega))
      have ag : agS (laM C w) (k + 1) i = agS (laM C w) k (i + 1) := if_pos hL
      unfold j_Q_firstAgain_48_107
      rw [ei, ag]
      have tN : TrR C (paS C w) (bgC C) (i + 1) Z := ⟨fun v hv => by rw [la_f (fun z => hb z.1)]; exact tZ.1 v hv, fun o a b => absurd a (by omega), fun o a b => absurd a (by omega)⟩
      obtain ⟨U, u1', u2', u3'⟩ := ih (i + 1) f Z T2 _ (by omega) (by omega) cZ wZ r3 q2 t14' t7' tN
      exact ⟨U, u1', u2', fun qq hq => by rw [u3' qq hq, o2.1 qq (by omega)]⟩

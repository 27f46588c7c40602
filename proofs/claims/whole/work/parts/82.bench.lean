/-! a bench's line: times -/
theorem FM.of {M N : Mm} (h : FM M) (e : N.1 0 7 = M.1 0 7) : FM N := by
  obtain ⟨v, a, b, d⟩ := h
  exact ⟨v, a, b, e.trans d⟩
theorem FM.b121 {M : Mm} (h : FM M) (w : Int64) (x : Int32) : j_M_readBench_0_121 w x M = some M := by
  unfold j_M_readBench_0_121 j_M_readBench_0_141 j_M_readBench_0_182
  rw [h.passes, Option.bind_some]
  dsimp only
  rw [if_pos rfl, h.passes, Option.bind_some]
  dsimp only
  rw [if_pos rfl, if_neg h.c.1]
theorem FM.b43 {M : Mm} (h : FM M) (w : Int64) (x y : Int32) {f : Nat} (hf : 0 < f) : lp_M_readBench_0_43 f w x y M = some M := by
  obtain ⟨f, rfl⟩ : ∃ g, f = g + 1 := ⟨f - 1, by omega⟩
  show blp_M_readBench_0_43 (lp_M_readBench_0_43 f) _ _ _ M = _
  unfold blp_M_readBench_0_43
  split
  · exact h.b121 w x
  · rw [if_neg h.c.2]; exact h.b121 w x
theorem FM.b40 {M : Mm} (h : FM M) (w : Int64) (x : Int32) : j_M_readBench_0_40 w x M = some M := h.b43 w x 0 (FW_gt (by omega))
theorem wr11 {M : Mm} {b k : Nat} (hb : b < 6) (hk : k < 3) (x : Int32) : wr M 11 37 ((18 + (3 * iI (b : Int))) + iI (k : Int)) x = some (u1 M 11 (18 + (3 * b + k)) x) := by
  rw [show (18 : Int32) = iI 18 from rfl, l3, iI_mul, iI_add, iI_add, wr_iI (by omega) (by omega) (by omega), show (18 + 3 * (b : Int) + k).toNat = 18 + (3 * b + k) by omega]
theorem wr11' {M : Mm} {b k : Nat} (hb : b < 6) (hk : k < 3) (x : Int32) : wr M 11 37 ((3 * iI (b : Int)) + iI (k : Int)) x = some (u1 M 11 (3 * b + k) x) := by
  rw [l3, iI_mul, iI_add, wr_iI (by omega) (by omega) (by omega), show (3 * (b : Int) + k).toNat = 3 * b + k by omega]
theorem FM.b82 {M : Mm} (h : FM M) (w : Int64) {b k : Nat} (hb : b < 6) (hk : k < 3) {f : Nat} (hf : 0 < f) : j_M_readBench_0_82 (lp_M_readBench_0_43 f) w (iI (b : Int)) (iI (k : Int)) M = some (u1 (u1 M 11 (18 + (3 * b + k)) (M.1 0 12)) 11 (3 * b + k) 1) := by
  unfold j_M_readBench_0_82
  rw [h.whole, Option.bind_some]
  dsimp only
  rw [wr11 hb hk, Option.bind_some, wr11' hb hk, Option.bind_some]
  exact (h.of (show (u1 (u1 M 11 (18 + (3 * b + k)) (M.1 0 12)) 11 (3 * b + k) 1).1 0 7 = M.1 0 7 by rw [u1_ne (by decide), u1_ne (by decide)])).b43 _ _ _ hf
def BX (X Y : Mm) : Prop := (∀ q, q ≠ 14 → q ≠ 25 → q ≠ 26 → Y.1 q = X.1 q) ∧ Y.1 14 3 = X.1 14 3 ∧ Y.1 24 = X.1 24
def BM (M N : Mm) : Prop := (∀ q, q ≠ 0 → q ≠ 11 → N.1 q = M.1 q) ∧ (∀ i, i < 6 ∨ 12 < i → N.1 0 i = M.1 0 i) ∧ ∀ q, q ≠ 0 → N.2 q = M.2 q
theorem BX.rf {X : Mm} : BX X X := ⟨fun _ _ _ _ => rfl, rfl, rfl⟩
theorem BM.rf {M : Mm} : BM M M := ⟨fun _ _ _ => rfl, fun _ _ => rfl, fun _ _ => rfl⟩
theorem BX.tr {X Y Z : Mm} (h : BX X Y) (h2 : BX Y Z) : BX X Z := ⟨fun q a b c => (h2.1 q a b c).trans (h.1 q a b c), h2.2.1.trans h.2.1, h2.2.2.trans h.2.2⟩
theorem BM.tr {M N O : Mm} (h : BM M N) (h2 : BM N O) : BM M O := ⟨fun q a b => (h2.1 q a b).trans (h.1 q a b), fun i a => (h2.2.1 i a).trans (h.2.1 i a), fun q a => (h2.2.2 q a).trans (h.2.2 q a)⟩
theorem SX.b {X Y : Mm} (h : SX X Y) : BX X Y := ⟨fun q a _ _ => h.1 q a, h.2, h.1 24 (by decide)⟩
theorem OnH.b {M N : Mm} (h : OnH M N) : BM M N := ⟨fun q a _ => h.1 q a, h.2.1, h.2.2⟩
theorem BX.u {X Y : Mm} {q i : Nat} {x : Int32} (h : BX X Y) (hq : q = 25 ∨ q = 26) : BX X (u1 Y q i x) := h.tr ⟨fun r _ b c => u1_ne (by omega), by rw [u1_ne (by omega)], u1_ne (by omega)⟩
theorem BM.u {M N : Mm} {i : Nat} {x : Int32} (h : BM M N) : BM M (u1 N 11 i x) := h.tr ⟨fun r _ b => u1_ne b, fun i _ => by rw [u1_ne (by decide)], fun _ _ => rfl⟩
/-- times of kinds below k are told -/
def TiR (u v : Nat → Int) (b k : Nat) : Prop := (∀ q, q < 37 → (∀ j, j < k → q ≠ 3 * b + j ∧ q ≠ 18 + (3 * b + j)) → v q = u q) ∧ ∀ j, j < k → v (3 * b + j) = 1 ∧ 1 ≤ v (18 + (3 * b + j)) ∧ v (18 + (3 * b + j)) ≤ 60
theorem Fl.of {T : Nat → Int} {n c : Nat} {X M N : Mm} (h : Fl T n c X M) (e7 : N.1 0 7 = M.1 0 7) (e8 : N.1 0 8 = M.1 0 8) : Fl T n c X N := by
  obtain ⟨v, i2, a1, a2, a3, a4, a5, a6, a7, a8⟩ := h
  exact ⟨v, i2, a1, a2, a3, e7.trans a4, a5, a6, e8.trans a7, a8⟩
theorem Bn_times {T : Nat → Int} {n c : Nat} {K b : Nat} {u : Nat → Int} (w : Int64) (hK : K ≤ 3) (hb : b < 6) : ∀ (d k f g i : Nat) (X M : Mm) (v : Nat → Int), k + d = K → d < f → d + 1 < g → Tk T n c i X M → X.1 15 0 = iI (K : Int) → M.1 0 25 = iI (K : Int) → WyX 24 v X → WyM 11 v M → TiR u v b k → (∃ (j : Nat) (Y N : Mm) (v2 : Nat → Int), lp_R_readTimes_14_18 f (iI (b : Int)) (iI (k : Int)) X = some (1, Y) ∧ lp_M_readBench_0_43 g w (iI (b : Int)) (iI (k : Int)) M = j_M_readBench_0_121 w (iI (b : Int)) N ∧ Tk T n c j Y N ∧ WyX 24 v2 Y ∧ WyM 11 v2 N ∧ TiR u v2 b K ∧ BX X Y ∧ BM M N ∧ i ≤ j) ∨ (∃ (Y N : Mm), lp_R_readTimes_14_18 f (iI (b : Int)) (iI (k : Int)) X = some (0, Y) ∧ lp_M_readBench_0_43 g w (iI (b : Int)) (iI (k : Int)) M = some N ∧ Fl T n c Y N ∧ BX X Y ∧ BM M N) := by
  intro d
  induction d with
  | zero =>
    intro k f g i X M v hk hf hg h x0 m0 wx wm ti
    obtain ⟨f, rfl⟩ : ∃ q, f = q + 1 := ⟨f - 1, by omega⟩
    obtain ⟨g, rfl⟩ : ∃ q, g = q + 1 := ⟨g - 1, by omega⟩
    have e : k = K := by omega
    subst e
    left
    refine ⟨i, X, M, v, ?_, ?_, h, wx, wm, ti, BX.rf, BM.rf, Nat.le_refl i⟩
    · show blp_R_readTimes_14_18 (lp_R_readTimes_14_18 f) _ _ X = _
      unfold blp_R_readTimes_14_18
      rw [x0, if_pos (Int32.le_refl _)]
    · show blp_M_readBench_0_43 (lp_M_readBench_0_43 g) _ _ _ M = _
      unfold blp_M_readBench_0_43
      rw [m0, if_pos (Int32.le_refl _)]
  | succ d ih =>
    intro k f g i X M v hk hf hg h x0 m0 wx wm ti
    obtain ⟨f, rfl⟩ : ∃ q, f = q + 1 := ⟨f - 1, by omega⟩
    obtain ⟨g, rfl⟩ : ∃ q, g = q + 1 := ⟨g - 1, by omega⟩
    have hk3 : k < 3 := by omega
    have c0 : ¬ (iI (K : Int) ≤ iI (k : Int)) := by rw [iI_le (by omega) (by omega) (by omega) (by omega)]; omega
    have ck : (iI (k : Int) ≤ 0) ↔ k = 0 := by rw [l0, iI_le (by omega) (by omega) (by omega) (by omega)]; omega
    have h9 : M.1 0 7 = 0 := h.2.2.2.2.2.2.2.2
    have ek : iI (k : Int) + 1 = iI ((k + 1 : Nat) : Int) := by rw [l1, iI_add]; rfl
    -- from the number on
    have num : ∀ (i2 : Nat) (X1 M1 : Mm), Tk T n c i2 X1 M1 → BX X X1 → BM M M1 → WyX 24 v X1 → WyM 11 v M1 → i ≤ i2 → (∃ (j : Nat) (Y N : Mm) (v2 : Nat → Int), j_R_readTimes_14_51 (lp_R_readTimes_14_18 f) (iI (b : Int)) (iI (k : Int)) X1 = some (1, Y) ∧ j_M_readBench_0_82 (lp_M_readBench_0_43 g) w (iI (b : Int)) (iI (k : Int)) M1 = j_M_readBench_0_121 w (iI (b : Int)) N ∧ Tk T n c j Y N ∧ WyX 24 v2 Y ∧ WyM 11 v2 N ∧ TiR u v2 b K ∧ BX X Y ∧ BM M N ∧ i ≤ j) ∨ (∃ (Y N : Mm), j_R_readTimes_14_51 (lp_R_readTimes_14_18 f) (iI (b : Int)) (iI (k : Int)) X1 = some (0, Y) ∧ j_M_readBench_0_82 (lp_M_readBench_0_43 g) w (iI (b : Int)) (iI (k : Int)) M1 = some N ∧ Fl T n c Y N ∧ BX X Y ∧ BM M N) := by
      intro i2 X1 M1 h1 bx bm wx1 wm1 hle
      unfold j_R_readTimes_14_51 j_M_readBench_0_82
      have x60 := h1.whole (a := 1) (b := 60) (by omega) (by omega) (by omega) (by omega)
      rw [← l1, show iI 60 = (60 : Int32) from rfl] at x60
      rcases x60 with ⟨j, t, X2, M2, e1, e2, q1, q2, q3, q4, q5, q6⟩ | ⟨r, X2, M2, q1, q2, q3, q4, q5⟩
      · have ct : 0 ≤ iI t := by rw [l0]; exact (iI_le (by omega) (by omega) (by omega) (by omega)).mpr (by omega)
        have rc : f_P_cell (iI (b : Int)) (iI (k : Int)) = some (iI (3 * b + k)) := by unfold f_P_cell; rw [ixc]
        have wX : ∀ (Z : Mm) (q : Nat) (x : Int32), wr Z q 18 (iI (3 * (b : Int) + k)) x = some (u1 Z q (3 * b + k) x) := fun Z q x => by rw [wr_iI (by omega) (by omega) (by omega), show (3 * (b : Int) + k).toNat = 3 * b + k by omega]
        rw [q1, q2, Option.bind_some, Option.bind_some]
        dsimp only
        rw [if_pos ct, rc, Option.bind_some, wX, Option.bind_some, Option.bind_some, wX, Option.bind_some, wr11 hb hk3, Option.bind_some, wr11' hb hk3, Option.bind_some, ek]
        have h3 : Tk T n c j (u1 (u1 X2 26 (3 * b + k) (iI t)) 25 (3 * b + k) 1) (u1 (u1 M2 11 (18 + (3 * b + k)) (iI t)) 11 (3 * b + k) 1) := q3.fr (fun q hq => by rw [u1_ne (by omega), u1_ne (by omega)]) (by rw [u1_ne (by decide), u1_ne (by decide)]) (fun i _ _ => by rw [u1_ne (by decide), u1_ne (by decide)]) rfl
        have bx3 : BX X (u1 (u1 X2 26 (3 * b + k) (iI t)) 25 (3 * b + k) 1) := ((bx.tr q4.b).u (Or.inr rfl)).u (Or.inl rfl)
        have bm3 : BM M (u1 (u1 M2 11 (18 + (3 * b + k)) (iI t)) 11 (3 * b + k) 1) := ((bm.tr q5.b).u).u
        have wx3 : WyX 24 (uw (uw v (18 + (3 * b + k)) t) (3 * b + k) 1) (u1 (u1 X2 26 (3 * b + k) (iI t)) 25 (3 * b + k) 1) := by
          refine ⟨fun q hq => ?_, fun q hq => ?_, ?_⟩
          · show (u1 (u1 X2 26 (3 * b + k) (iI t)) 25 (3 * b + k) 1).1 25 q = _
            by_cases e : q = 3 * b + k
            · rw [e, u1_self, uw_eq, l1]
            · rw [u1_s _ _ _ _ e, u1_ne (by decide), uw_ne e, uw_ne (by omega), q4.1 25 (by decide)]; exact wx1.1 q hq
          · show (u1 (u1 X2 26 (3 * b + k) (iI t)) 25 (3 * b + k) 1).1 26 q = _
            rw [u1_ne (by decide), uw_ne (by omega)]
            by_cases e : q = 3 * b + k
            · rw [e, u1_self, uw_eq]
            · rw [u1_s _ _ _ _ e, uw_ne (by omega), q4.1 26 (by decide)]; exact wx1.2.1 q hq
          · rw [u1_ne (by decide), u1_ne (by decide), uw_ne (by omega), uw_ne (by omega), q4.1 24 (by decide)]; exact wx1.2.2
        have wm3 : WyM 11 (uw (uw v (18 + (3 * b + k)) t) (3 * b + k) 1) (u1 (u1 M2 11 (18 + (3 * b + k)) (iI t)) 11 (3 * b + k) 1) := fun q hq => by
          by_cases e : q = 3 * b + k
          · rw [e, u1_self, uw_eq, l1]
          · rw [u1_s _ _ _ _ e, uw_ne e]
            by_cases e3 : q = 18 + (3 * b + k)
            · rw [e3, u1_self, uw_eq]
            · rw [u1_s _ _ _ _ e3, uw_ne e3, q5.1 11 (by decide)]; exact wm1 q hq
        have ti3 : TiR u (uw (uw v (18 + (3 * b + k)) t) (3 * b + k) 1) b (k + 1) := by
          refine ⟨fun q hq ha => ?_, fun j hj => ?_⟩
          · have := ha k (by omega)
            rw [uw_ne this.1, uw_ne this.2]
            exact ti.1 q hq (fun j hj => ha j (by omega))
          · by_cases e : j = k
            · subst e
              rw [uw_eq, uw_ne (by omega), uw_eq]; omega
            · rw [uw_ne (by omega), uw_ne (by omega), uw_ne (by omega), uw_ne (by omega)]
              exact ti.2 j (by omega)
        rcases ih (k + 1) f g j _ _ _ (by omega) (by omega) (by omega) h3 (by rw [bx3.1 15 (by decide) (by decide) (by decide)]; exact x0) (by rw [bm3.2.1 25 (by omega)]; exact m0) wx3 wm3 ti3 with ⟨j2, Y, N, v2, z1, z2, z3, z4, z5, z6, z7, z8, z9⟩ | ⟨Y, N, z1, z2, z3, z4, z5⟩
        · exact Or.inl ⟨j2, Y, N, v2, z1, z2, z3, z4, z5, z6, bx3.tr z7, bm3.tr z8, by omega⟩
        · exact Or.inr ⟨Y, N, z1, z2, z3, bx3.tr z4, bm3.tr z5⟩
      · right
        rw [q1, q2, Option.bind_some, Option.bind_some]
        dsimp only
        rw [if_neg (by decide), wr11 hb hk3, Option.bind_some, wr11' hb hk3, Option.bind_some]
        have e7 : ∀ i, (u1 (u1 M2 11 (18 + (3 * b + k)) r) 11 (3 * b + k) 1).1 0 i = M2.1 0 i := fun i => by rw [u1_ne (by decide), u1_ne (by decide)]
        rw [(q3.m.of (e7 7)).b43 _ _ _ (by omega)]
        exact ⟨X2, _, rfl, rfl, q3.of (e7 7) (e7 8), bx.tr q4.b, ((bm.tr q5.b).u).u⟩
    have eX : lp_R_readTimes_14_18 (f + 1) (iI (b : Int)) (iI (k : Int)) X = if iI (k : Int) ≤ 0 then j_R_readTimes_14_51 (lp_R_readTimes_14_18 f) (iI (b : Int)) (iI (k : Int)) X else (f_R_isSort_14 4 X).bind fun v3 => if v3 = 0 then ((f_R_blame_14 1 X).bind fun q6 => (zr q6.1).bind fun z7 => some (z7, q6.2)) else ((f_R_step_14 X).bind fun M5 => j_R_readTimes_14_51 (lp_R_readTimes_14_18 f) (iI (b : Int)) (iI (k : Int)) M5) := by
      show blp_R_readTimes_14_18 (lp_R_readTimes_14_18 f) _ _ X = _
      unfold blp_R_readTimes_14_18
      rw [x0, if_neg c0]
    have eM : lp_M_readBench_0_43 (g + 1) w (iI (b : Int)) (iI (k : Int)) M = if iI (k : Int) ≤ 0 then j_M_readBench_0_82 (lp_M_readBench_0_43 g) w (iI (b : Int)) (iI (k : Int)) M else (f_M_isSign_0 44 M).bind fun v4 => if v4 = 0 then ((f_M_flaw_0 1 M).bind fun M6 => j_M_readBench_0_78 (lp_M_readBench_0_43 g) w (iI (b : Int)) (iI (k : Int)) M6) else j_M_readBench_0_78 (lp_M_readBench_0_43 g) w (iI (b : Int)) (iI (k : Int)) M := by
      show blp_M_readBench_0_43 (lp_M_readBench_0_43 g) _ _ _ M = _
      unfold blp_M_readBench_0_43
      rw [m0, if_neg c0, h9, if_pos rfl]
    rw [eX, eM]
    by_cases k0 : k = 0
    · rw [if_pos (ck.mpr k0), if_pos (ck.mpr k0)]
      exact num i X M h BX.rf BM.rf wx wm (Nat.le_refl i)
    · rw [if_neg (fun q => k0 (ck.mp q)), if_neg (fun q => k0 (ck.mp q)), h.sign.2]
      rcases h.sort 4 (by omega) (by omega) with ⟨e, s⟩ | ⟨e, s⟩
      · rw [← l4] at s
        obtain ⟨j, X1, M1, s1, s2, s3, s4, s5, s6, -⟩ := h.step
        unfold j_M_readBench_0_78
        rw [s, if_pos e, Option.bind_some, Option.bind_some, if_neg n10, if_neg n10, s1, s2, Option.bind_some, Option.bind_some]
        exact num j X1 M1 s3 s4.b s5.b ⟨fun q hq => by rw [s4.1 25 (by decide)]; exact wx.1 q hq, fun q hq => by rw [s4.1 26 (by decide)]; exact wx.2.1 q hq, by rw [s4.1 24 (by decide)]; exact wx.2.2⟩ (fun q hq => by rw [s5.1 11 (by decide)]; exact wm q hq) s6
      · right
        rw [← l4] at s
        obtain ⟨Y, N, y1, y2, y3, y4, y5⟩ := h.blame 1 (by omega) (by omega)
        rw [← l1] at y1 y2
        unfold j_M_readBench_0_78
        rw [s, if_neg e, Option.bind_some, Option.bind_some, if_pos rfl, if_pos rfl, y1, y2, Option.bind_some, Option.bind_some, zr_0, Option.bind_some, y3.m.goOn, Option.bind_some, y3.m.b82 w hb hk3 (by omega)]
        exact ⟨Y, _, rfl, rfl, y3.of (by rw [u1_ne (by decide), u1_ne (by decide)]) (by rw [u1_ne (by decide), u1_ne (by decide)]), y4.b, (y5.b.u).u⟩
/-! its setup and its rest -/
theorem Bn_setup {T : Nat → Int} {n c i b : Nat} {X M : Mm} (w : Int64) (hb : b < 6) (h : Tk T n c i X M) (h16 : X.1 16 b = iI 0) : (∃ (j : Nat) (Y N : Mm) (s : Int), 0 ≤ s ∧ s ≤ 60 ∧ f_R_readSetup_14 (iI (b : Int)) X = some (1, Y) ∧ j_M_readBench_0_121 w (iI (b : Int)) M = j_M_readBench_0_141 w (iI (b : Int)) (iI s) N ∧ Tk T n c j Y N ∧ Y.1 16 b = iI s ∧ (∀ q, q ≠ b → Y.1 16 q = X.1 16 q) ∧ (∀ q, q ≠ 14 → q ≠ 16 → Y.1 q = X.1 q) ∧ Y.1 14 3 = X.1 14 3 ∧ OnH M N ∧ i ≤ j) ∨ (∃ (Y N : Mm), f_R_readSetup_14 (iI (b : Int)) X = some (0, Y) ∧ j_M_readBench_0_121 w (iI (b : Int)) M = some N ∧ Fl T n c Y N ∧ SX X Y ∧ OnH M N) := by
  unfold f_R_readSetup_14 j_M_readBench_0_121 f_M_passes_0
  rcases h.isw (w := 2) (by omega) with ⟨-, e1, e2⟩ | ⟨-, e1, e2⟩
  · have e1' : f_R_isWord_14 2 X = some 1 := e1
    have e2' : f_M_isWord_0 3 M = some 1 := e2
    obtain ⟨j, X1, M1, s1, s2, s3, s4, s5, s6, -⟩ := h.step
    rw [e1', e2', Option.bind_some, Option.bind_some, if_neg n10, if_neg n10, s1, s2, Option.bind_some, Option.bind_some, Option.bind_some]
    dsimp only
    rw [if_neg n10]
    have x60 := s3.whole (a := 0) (b := 60) (by omega) (by omega) (by omega) (by omega)
    rw [← l0, show iI 60 = (60 : Int32) from rfl] at x60
    rcases x60 with ⟨j2, t, X2, M2, f1, f2, q1, q2, q3, q4, q5, q6⟩ | ⟨r, X2, M2, q1, q2, q3, q4, q5⟩
    · left
      have ct : 0 ≤ iI t := by rw [l0]; exact (iI_le (by omega) (by omega) (by omega) (by omega)).mpr (by omega)
      have wX : wr X2 16 6 (iI (b : Int)) (iI t) = some (u1 X2 16 b (iI t)) := by rw [wr_iI (by omega) (by omega) (by omega), Int.toNat_natCast]
      rw [q1, q2, Option.bind_some, Option.bind_some]
      dsimp only
      rw [if_pos ct, wX, Option.bind_some]
      have sx := s4.tr q4
      exact ⟨j2, _, M2, t, f1, f2, rfl, rfl, q3.fr (fun q hq => u1_ne (by omega)) rfl (fun _ _ _ => rfl) rfl, u1_self _ _ _ _, fun q hq => by rw [u1_s _ _ _ _ hq, sx.1 16 (by decide)], fun q a b => by rw [u1_ne b]; exact sx.1 q a, by rw [u1_ne (by decide)]; exact sx.2, s5.tr q5, by omega⟩
    · right
      rw [q1, q2, Option.bind_some, Option.bind_some]
      dsimp only
      rw [if_neg (by decide)]
      refine ⟨X2, M2, rfl, ?_, q3, s4.tr q4, s5.tr q5⟩
      unfold j_M_readBench_0_141 j_M_readBench_0_182
      rw [q3.m.passes, Option.bind_some]
      dsimp only
      rw [if_pos rfl, if_neg q3.m.c.1]
  · left
    have e1' : f_R_isWord_14 2 X = some 0 := e1
    have e2' : f_M_isWord_0 3 M = some 0 := e2
    rw [e1', e2', Option.bind_some, Option.bind_some, if_pos rfl, if_pos rfl, Option.bind_some]
    dsimp only
    rw [if_pos rfl]
    exact ⟨i, X, M, 0, by omega, by omega, rfl, by rw [l0], h, h16, fun _ _ => rfl, fun _ _ _ => rfl, rfl, OnH.rf, Nat.le_refl i⟩
theorem Bn_rest {T : Nat → Int} {n c i b : Nat} {X M : Mm} (w : Int64) (t0 : Int32) (hb : b < 6) (h : Tk T n c i X M) (h17 : X.1 17 b = iI 0) (h18 : X.1 18 b = iI 0) : (∃ (j : Nat) (Y N : Mm) (r e : Int), 0 ≤ r ∧ r ≤ 60 ∧ 0 ≤ e ∧ e ≤ 99 ∧ (e ≠ 0 → 1 ≤ r) ∧ f_R_readRest_14 (iI (b : Int)) X = some (1, Y) ∧ j_M_readBench_0_141 w (iI (b : Int)) t0 M = j_M_readBench_0_182 w (iI (b : Int)) t0 (iI r) (iI e) N ∧ Tk T n c j Y N ∧ Y.1 17 b = iI r ∧ Y.1 18 b = iI e ∧ (∀ q, q ≠ b → Y.1 17 q = X.1 17 q ∧ Y.1 18 q = X.1 18 q) ∧ (∀ q, q ≠ 14 → q ≠ 17 → q ≠ 18 → Y.1 q = X.1 q) ∧ Y.1 14 3 = X.1 14 3 ∧ OnH M N ∧ i ≤ j) ∨ (∃ (Y N : Mm), f_R_readRest_14 (iI (b : Int)) X = some (0, Y) ∧ j_M_readBench_0_141 w (iI (b : Int)) t0 M = some N ∧ Fl T n c Y N ∧ SX X Y ∧ OnH M N) := by
  have tail : ∀ (N : Mm) (x y : Int32), FM N → j_M_readBench_0_182 w (iI (b : Int)) t0 x y N = some N := fun N x y hF => if_neg hF.c.1
  unfold f_R_readRest_14 j_M_readBench_0_141 f_M_passes_0
  rcases h.isw (w := 3) (by omega) with ⟨-, e1, e2⟩ | ⟨-, e1, e2⟩
  · have e1' : f_R_isWord_14 3 X = some 1 := e1
    have e2' : f_M_isWord_0 4 M = some 1 := e2
    obtain ⟨j, X1, M1, s1, s2, s3, s4, s5, s6, -⟩ := h.step
    rw [e1', e2', Option.bind_some, Option.bind_some, if_neg n10, if_neg n10, s1, s2, Option.bind_some, Option.bind_some, Option.bind_some]
    dsimp only
    rw [if_neg n10]
    have x60 := s3.whole (a := 1) (b := 60) (by omega) (by omega) (by omega) (by omega)
    rw [← l1, show iI 60 = (60 : Int32) from rfl] at x60
    rcases x60 with ⟨j2, t, X2, M2, f1, f2, q1, q2, q3, q4, q5, q6⟩ | ⟨r, X2, M2, q1, q2, q3, q4, q5⟩
    · have ct : ¬ (iI t < 0) := by rw [l0, iI_lt (by omega) (by omega) (by omega) (by omega)]; omega
      rw [q1, q2, Option.bind_some, Option.bind_some]
      dsimp only
      rw [if_neg ct]
      rcases q3.word (w := 4) (by omega) with ⟨j3, X3, M3, w1, w2, w3, w4, w5, w6⟩ | ⟨X3, M3, w1, w2, w3, w4, w5⟩
      · have w1' : f_R_readWord_14 4 X2 = some (1, X3) := w1
        rw [w1', w2, Option.bind_some, Option.bind_some]
        dsimp only
        rw [if_neg n10]
        have x99 := w3.whole (a := 1) (b := 99) (by omega) (by omega) (by omega) (by omega)
        rw [← l1, show iI 99 = (99 : Int32) from rfl] at x99
        rcases x99 with ⟨j4, e, X4, M4, g1, g2, z1, z2, z3, z4, z5, z6⟩ | ⟨r, X4, M4, z1, z2, z3, z4, z5⟩
        · left
          have ce : 0 ≤ iI e := by rw [l0]; exact (iI_le (by omega) (by omega) (by omega) (by omega)).mpr (by omega)
          have wX : ∀ (Z : Mm) (q : Nat) (x : Int32), wr Z q 6 (iI (b : Int)) x = some (u1 Z q b x) := fun Z q x => by rw [wr_iI (by omega) (by omega) (by omega), Int.toNat_natCast]
          rw [z1, z2, Option.bind_some, Option.bind_some]
          dsimp only
          rw [if_pos ce, wX, Option.bind_some, wX, Option.bind_some]
          have sx := ((s4.tr q4).tr w4).tr z4
          exact ⟨j4, _, M4, t, e, by omega, f2, by omega, g2, fun _ => by omega, rfl, rfl, z3.fr (fun q hq => by rw [u1_ne (by omega), u1_ne (by omega)]) rfl (fun _ _ _ => rfl) rfl, by rw [u1_ne (by decide), u1_self], u1_self _ _ _ _, fun q hq => ⟨by rw [u1_ne (by decide), u1_s _ _ _ _ hq, sx.1 17 (by decide)], by rw [u1_s _ _ _ _ hq, u1_ne (by decide), sx.1 18 (by decide)]⟩, fun q a b c => by rw [u1_ne c, u1_ne b]; exact sx.1 q a, by rw [u1_ne (by decide), u1_ne (by decide)]; exact sx.2, ((s5.tr q5).tr w5).tr z5, by omega⟩
        · right
          rw [z1, z2, Option.bind_some, Option.bind_some]
          dsimp only
          rw [if_neg (by decide), tail _ _ _ z3.m]
          exact ⟨X4, M4, rfl, rfl, z3, ((s4.tr q4).tr w4).tr z4, ((s5.tr q5).tr w5).tr z5⟩
      · right
        have w1' : f_R_readWord_14 4 X2 = some (0, X3) := w1
        rw [w1', w2, Option.bind_some, Option.bind_some]
        dsimp only
        rw [if_pos rfl, w3.m.whole, Option.bind_some]
        dsimp only
        rw [tail _ _ _ w3.m]
        exact ⟨X3, M3, rfl, rfl, w3, (s4.tr q4).tr w4, (s5.tr q5).tr w5⟩
    · right
      rw [q1, q2, Option.bind_some, Option.bind_some]
      dsimp only
      rw [if_pos (by decide), q3.m.needs, Option.bind_some, q3.m.whole, Option.bind_some]
      dsimp only
      rw [tail _ _ _ q3.m]
      exact ⟨X2, M2, rfl, rfl, q3, s4.tr q4, s5.tr q5⟩
  · left
    have e1' : f_R_isWord_14 3 X = some 0 := e1
    have e2' : f_M_isWord_0 4 M = some 0 := e2
    rw [e1', e2', Option.bind_some, Option.bind_some, if_pos rfl, if_pos rfl, Option.bind_some]
    dsimp only
    rw [if_pos rfl]
    exact ⟨i, X, M, 0, 0, by omega, by omega, by omega, by omega, fun q => absurd rfl q, rfl, by rw [← l0], h, h17, h18, fun _ _ => ⟨rfl, rfl⟩, fun _ _ _ _ => rfl, rfl, OnH.rf, Nat.le_refl i⟩

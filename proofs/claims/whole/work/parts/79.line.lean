/-- a new name is laid into slot s -/
theorem Tk.new {T : Nat → Int} {n c i : Nat} {X M : Mm} (h : Tk T n c i X M) {K B : Int} {s : Nat} (hs : s < 9) (hc : CnM K B M) (hx0 : X.1 15 0 = iI K) (hx1 : X.1 15 1 = iI B) (hq : NamQ K B X M) : (∃ (j : Nat) (Y N : Mm) (w : Int64), f_R_readNewName_14 (iI (s : Int)) X = some (1, Y) ∧ f_M_readNew_0 M = some (w, N) ∧ Tk T n c j Y N ∧ (∃ z l, NmQ z l s Y w) ∧ (∀ q, q ≠ 14 → q ≠ 22 → q ≠ 23 → Y.1 q = X.1 q) ∧ Y.1 14 3 = X.1 14 3 ∧ (∀ t, t ≠ s → Y.1 23 t = X.1 23 t ∧ ∀ j, j < 6 → Y.1 22 (6 * t + j) = X.1 22 (6 * t + j)) ∧ OnH M N ∧ i ≤ j) ∨ (∃ (Y N : Mm) (w : Int64), f_R_readNewName_14 (iI (s : Int)) X = some (0, Y) ∧ f_M_readNew_0 M = some (w, N) ∧ Fl T n c Y N ∧ SX X Y ∧ OnH M N) := by
  have sb := sr_b (T := T) (n := n) (s := sqS T n i)
  have h9 : M.1 0 7 = 0 := h.2.2.2.2.2.2.2.2
  have t9 : M.1 0 9 = iI (tkM (srS T n (sqS T n i))) := h.2.2.2.2.2.2.2.1.2.2.2.1
  have t2 := (tk_2 sb.1 sb.2.1).1
  have hcc := hc
  obtain ⟨k0, k3, b0, b6, -, -⟩ := hcc
  have bad : ∀ v : Int, 1 ≤ v → v ≤ 5 → (∀ Y, f_R_blame_14 (iI v) X = some (0, Y) → f_R_readNewName_14 (iI (s : Int)) X = some (0, Y)) → (∀ N, f_M_flaw_0 (iI v) M = some N → FM N → ∃ w, f_M_readNew_0 M = some (w, N)) → (∃ (Y N : Mm) (w : Int64), f_R_readNewName_14 (iI (s : Int)) X = some (0, Y) ∧ f_M_readNew_0 M = some (w, N) ∧ Fl T n c Y N ∧ SX X Y ∧ OnH M N) := by
    intro v v1 v5 a b
    obtain ⟨Y, N, y1, y2, y3, y4, y5⟩ := h.blame v v1 v5
    obtain ⟨w, e⟩ := b N y2 y3.m
    exact ⟨Y, N, w, a Y y1, e, y3, y4, y5⟩
  by_cases e : srS T n (sqS T n i) = 1
  · rcases h.own e with ⟨k, s1, s2⟩ | ⟨k, s1, s2⟩
    · obtain ⟨r, r1, r2, r3, r4⟩ := Q_kind h e hc.1 hc.2.1 hc.2.2.2.2.1 hq
      obtain ⟨p, p1, p2, p3, p4⟩ := Q_bench h e hc.2.2.1 hc.2.2.2.1 hc.2.2.2.2.2 hq
      have hd : f_M_readNew_0 M = j_M_readNew_0_27 M := by
        unfold f_M_readNew_0
        rw [h9, if_pos rfl, t9, if_pos (t2.mpr e), s2, Option.bind_some, if_pos rfl]
      have cr : (0 ≤ iI r) ↔ 0 ≤ r := by rw [l0]; exact iI_le (by omega) (by omega) (by omega) (by omega)
      have cm : (iI r = -1) ↔ r = -1 := by rw [lm1]; exact iI_eq (by omega) (by omega) (by omega) (by omega)
      have cp : (iI p < 0) ↔ p < 0 := by rw [l0]; exact iI_lt (by omega) (by omega) (by omega) (by omega)
      have cq : (iI p = -1) ↔ p = -1 := by rw [lm1]; exact iI_eq (by omega) (by omega) (by omega) (by omega)
      by_cases er : r = -1
      · by_cases ep : p = -1
        · left
          have lo := sr_1 e
          obtain ⟨-, -, q3⟩ := h.at
          obtain ⟨q4, q5, q6⟩ := q3 (by omega)
          have c6 := h.2.1.1
          have mw := h.2.2.2.2.2.2.2.1.2.2.2.2.1 e
          have hM : f_M_readNew_0 M = (f_M_goOn_0 M).bind fun M7 => some (M.2 0 13, M7) := by
            rw [hd]
            unfold j_M_readNew_0_27
            rw [h9, if_pos rfl, r4, Option.bind_some, if_pos (cm.mpr er), p4, Option.bind_some, if_pos (cq.mpr ep)]
          have hy : enS T n (sqS T n i) - sqS T n i ≤ 6 := lo.2.1
          have hy1 : 1 ≤ enS T n (sqS T n i) - sqS T n i := by omega
          have lb := lo.2.2.2.2
          have hmn : mn (iI ((enS T n (sqS T n i) - sqS T n i : Nat) : Int)) 6 = iI ((enS T n (sqS T n i) - sqS T n i : Nat) : Int) := by rw [l6, mn_iI (by omega) (by omega) (by omega) (by omega), Int.min_eq_left (by omega)]
          have hX : f_R_readNewName_14 (iI (s : Int)) X = lp_R_readNewName_14_81 FW (iI (s : Int)) (iI ((enS T n (sqS T n i) - sqS T n i : Nat) : Int)) 0 (u1 X 23 s (iI ((enS T n (sqS T n i) - sqS T n i : Nat) : Int))) := by
            unfold f_R_readNewName_14
            rw [s1, Option.bind_some, if_neg n10, hx0, r3, Option.bind_some, if_neg (fun q => by have := cr.mp q; omega), hx1, p3, Option.bind_some, if_pos (cp.mpr (by omega)), h.2.2.2.1, rdK (by omega), Option.bind_some, q6.2.2.1, hmn, wr_iI (by omega) (by omega) (by omega), Int.toNat_natCast, Option.bind_some]
          have la : ∀ (Z : Mm), Tk T n c i Z M → ∀ j : Nat, j < enS T n (sqS T n i) - sqS T n i → f_K_letterAt_27 (Z.1 14 2) (iI (j : Int)) Z = some (iI (ltS T (sqS T n i) j)) := fun Z hZ j hj => X_letterAt hZ e hj
          generalize enS T n (sqS T n i) - sqS T n i = y at mw hy hy1 lb hX la
          have loop := loop_up (σ := Int32 × Mm) (γ := Option (Int32 × Mm)) (fun f s' => lp_R_readNewName_14_81 f (iI (s : Int)) (iI (y : Int)) s'.1 s'.2) y (fun j s' => s'.1 = iI (j : Int) ∧ (∀ q, q ≠ 22 → q ≠ 23 → s'.2.1 q = X.1 q) ∧ s'.2.1 23 s = iI (y : Int) ∧ (∀ t, t ≠ s → s'.2.1 23 t = X.1 23 t ∧ ∀ j, j < 6 → s'.2.1 22 (6 * t + j) = X.1 22 (6 * t + j)) ∧ ∀ q, q < j → s'.2.1 22 (6 * s + q) = iI (ltS T (sqS T n i) q)) (fun s' => (f_R_step_14 s'.2).bind fun M2 => some (1, M2)) ?_ ?_ FW (FW_gt (by omega)) (iI 0, u1 X 23 s (iI (y : Int))) ⟨rfl, fun q _ b => u1_ne b, u1_self _ _ _ _, fun t ht => ⟨u1_s _ _ _ _ ht, fun j _ => by rw [u1_ne (by decide)]⟩, fun q hq => absurd hq (by omega)⟩
          · obtain ⟨⟨x, Z⟩, ⟨-, z1, z2, z3, z4⟩, ev⟩ := loop
            dsimp only at z1 z2 z3 z4 ev
            have tz : Tk T n c i Z M := h.fr (fun q hq => z1 q (by omega) (by omega)) rfl (fun _ _ _ => rfl) rfl
            obtain ⟨j, Y, N, y1, y2, y3, y4, y5, y6, -⟩ := tz.step
            refine ⟨j, Y, N, M.2 0 13, ?_, by rw [hM, y2, Option.bind_some], y3, ⟨y, ltS T (sqS T n i), hy1, hy, by rw [y4.1 23 (by decide)]; exact z2, fun q hq => ⟨(lb q hq).1, (lb q hq).2, by rw [y4.1 22 (by decide)]; exact z4 q hq⟩, mw⟩, fun q a b d => by rw [y4.1 q a, z1 q b d], by rw [y4.2, z1 14 (by decide) (by decide)], fun t ht => by rw [y4.1 23 (by decide), y4.1 22 (by decide)]; exact z3 t ht, y5, y6⟩
            rw [hX, l0]
            refine ev.trans ?_
            rw [y1, Option.bind_some]
          · rintro f j ⟨x, Z⟩ hj ⟨ex, z1, z2, z3, z4⟩
            dsimp only at ex z1 z2 z3 z4
            subst ex
            have tz : Tk T n c i Z M := h.fr (fun q hq => z1 q (by omega) (by omega)) rfl (fun _ _ _ => rfl) rfl
            have c0 : ¬ (iI (y : Int) ≤ iI (j : Int)) := by rw [iI_le (by omega) (by omega) (by omega) (by omega)]; omega
            have w2 : wr Z 22 54 (iI (6 * (s : Int) + j)) (iI (ltS T (sqS T n i) j)) = some (u1 Z 22 (6 * s + j) (iI (ltS T (sqS T n i) j))) := by rw [wr_iI (by omega) (by omega) (by omega), show (6 * (s : Int) + j).toNat = 6 * s + j by omega]
            refine ⟨(iI ((j + 1 : Nat) : Int), u1 Z 22 (6 * s + j) (iI (ltS T (sqS T n i) j))), ?_, rfl, fun q a b => by show (u1 Z 22 (6 * s + j) _).1 q = _; rw [u1_ne a]; exact z1 q a b, by show (u1 Z 22 (6 * s + j) _).1 23 s = _; rw [u1_ne (by decide)]; exact z2, fun t ht => ?_, fun q hq => ?_⟩
            · show blp_R_readNewName_14_81 (lp_R_readNewName_14_81 f) _ _ _ Z = _
              unfold blp_R_readNewName_14_81
              rw [if_neg c0, la Z tz j hj, Option.bind_some, l6, iI_mul, iI_add, w2, Option.bind_some, show iI (j : Int) + 1 = iI ((j + 1 : Nat) : Int) by rw [l1, iI_add]; rfl]
            · refine ⟨by show (u1 Z 22 (6 * s + j) _).1 23 t = _; rw [u1_ne (by decide)]; exact (z3 t ht).1, fun p hp => ?_⟩
              show (u1 Z 22 (6 * s + j) _).1 22 (6 * t + p) = _
              rw [u1_s _ _ _ _ (by omega)]; exact (z3 t ht).2 p hp
            · show (u1 Z 22 (6 * s + j) _).1 22 (6 * s + q) = _
              by_cases z : q = j
              · rw [z, u1_self]
              · rw [u1_s _ _ _ _ (by omega)]; exact z4 q (by omega)
          · rintro f ⟨x, Z⟩ ⟨ex, z1, z2, z3, z4⟩
            dsimp only at ex z1 z2 z3 z4
            subst ex
            show blp_R_readNewName_14_81 (lp_R_readNewName_14_81 f) _ _ _ Z = _
            unfold blp_R_readNewName_14_81
            rw [if_pos (Int32.le_refl _)]
        · right
          refine bad 3 (by omega) (by omega) (fun Y hY => ?_) (fun N hN hF => ?_)
          · rw [← l3] at hY
            unfold f_R_readNewName_14
            rw [s1, Option.bind_some, if_neg n10, hx0, r3, Option.bind_some, if_neg (fun q => by have := cr.mp q; omega), hx1, p3, Option.bind_some, if_neg (fun q => by have := cp.mp q; omega), hY, Option.bind_some, zr_0, Option.bind_some]
          · rw [← l3] at hN
            rw [hd]
            unfold j_M_readNew_0_27 j_M_readNew_0_50
            rw [h9, if_pos rfl, r4, Option.bind_some, if_pos (cm.mpr er), p4, Option.bind_some, if_neg (fun q => ep (cq.mp q)), hN, Option.bind_some, hF.goOn, Option.bind_some]
            exact ⟨_, rfl⟩
      · right
        refine bad 3 (by omega) (by omega) (fun Y hY => ?_) (fun N hN hF => ?_)
        · rw [← l3] at hY
          unfold f_R_readNewName_14
          rw [s1, Option.bind_some, if_neg n10, hx0, r3, Option.bind_some, if_pos (cr.mpr (by omega)), hY, Option.bind_some, zr_0, Option.bind_some]
        · rw [← l3] at hN
          rw [hd]
          unfold j_M_readNew_0_27 j_M_readNew_0_50
          rw [h9, if_pos rfl, r4, Option.bind_some, if_neg (fun q => er (cm.mp q)), hN, Option.bind_some, hF.goOn, Option.bind_some]
          exact ⟨_, rfl⟩
    · right
      refine bad 1 (by omega) (by omega) (fun Y hY => ?_) (fun N hN hF => ?_)
      · rw [← l1] at hY
        unfold f_R_readNewName_14
        rw [s1, Option.bind_some, if_pos rfl, hY, Option.bind_some, zr_0, Option.bind_some]
      · rw [← l1] at hN
        unfold f_M_readNew_0 j_M_readNew_0_22
        rw [h9, if_pos rfl, t9, if_pos (t2.mpr e), s2, Option.bind_some, if_neg n10, hN, Option.bind_some, hF.new27]
        exact ⟨_, rfl⟩
  · right
    refine bad 1 (by omega) (by omega) (fun Y hY => ?_) (fun N hN hF => ?_)
    · rw [← l1] at hY
      have c1 : (iI (srS T n (sqS T n i)) = 1) ↔ srS T n (sqS T n i) = 1 := by rw [l1]; exact iI_eq (by omega) (by omega) (by omega) (by omega)
      unfold f_R_readNewName_14 f_R_isWord_14
      rw [h.rd28, Option.bind_some, if_neg (fun q => e (c1.mp q)), Option.bind_some, if_pos rfl, hY, Option.bind_some, zr_0, Option.bind_some]
    · rw [← l1] at hN
      unfold f_M_readNew_0 j_M_readNew_0_22
      rw [h9, if_pos rfl, t9, if_neg (fun q => e (t2.mp q)), hN, Option.bind_some, hF.new27]
      exact ⟨_, rfl⟩
/-! what is read so far: P as a config, u as levers, rl: has a rule been told? -/
def PlR (P : SS) (u : Nat → Int) (rl : Int) (X M : Mm) : Prop :=
  (X.1 15 0 = iI (P 0 0) ∧ X.1 15 1 = iI (P 0 1) ∧ X.1 15 2 = iI (P 0 2)) ∧
  (M.1 0 25 = iI (P 0 0) ∧ M.1 0 26 = iI (P 0 1) ∧ M.1 0 27 = iI (P 0 2)) ∧
  (X.1 14 3 = iI rl ∧ M.1 0 29 = iI rl ∧ (rl = 0 ∨ rl = 1)) ∧
  (∀ b, b < 6 → X.1 16 b = iI (P 3 b) ∧ X.1 17 b = iI (P 4 b) ∧ X.1 18 b = iI (P 5 b)) ∧
  (∀ b : Nat, (b : Int) < P 0 1 → M.1 4 (6 + b) = iI (P 3 b) ∧ M.1 5 (6 + b) = iI (P 4 b) ∧ M.1 6 (6 + b) = iI (P 5 b)) ∧
  (∀ i : Nat, (i : Int) < P 0 2 → X.1 19 i = iI (P 6 i) ∧ X.1 20 i = iI (P 7 i) ∧ X.1 21 i = iI (P 8 i)) ∧
  (∀ i : Nat, (i : Int) < P 0 2 → M.1 7 (4 + i) = iI (P 6 i) ∧ M.1 8 (4 + i) = iI (P 7 i) ∧ M.1 9 (4 + i) = iI (P 8 i)) ∧
  WyX 24 u X ∧ WyM 11 u M ∧ NamQ (P 0 0) (P 0 1) X M
def PlOk (P : SS) (u : Nat → Int) : Prop :=
  (0 ≤ P 0 0 ∧ P 0 0 ≤ 3) ∧ (0 ≤ P 0 1 ∧ P 0 1 ≤ 6 ∧ (0 < P 0 1 → 0 < P 0 0)) ∧ (0 ≤ P 0 2 ∧ P 0 2 ≤ 4) ∧ (∀ b, 0 ≤ P 3 b ∧ P 3 b ≤ 60 ∧ 0 ≤ P 4 b ∧ P 4 b ≤ 60 ∧ 0 ≤ P 5 b ∧ P 5 b ≤ 99) ∧ (∀ b, P 5 b ≠ 0 → 1 ≤ P 4 b) ∧ (∀ b : Nat, P 0 1 ≤ b → P 3 b = 0 ∧ P 4 b = 0 ∧ P 5 b = 0) ∧ (∀ i : Nat, (i : Int) < P 0 2 → 0 ≤ P 6 i ∧ P 6 i < P 0 0 ∧ 1 ≤ P 7 i ∧ P 7 i ≤ 99 ∧ 0 ≤ P 8 i ∧ P 8 i ≤ 999) ∧ WyOk P u ∧ w0 P u
theorem NmQ.fr {z s : Nat} {l : Nat → Int} {X Y : Mm} {v : Int64} (h : NmQ z l s X v) (e1 : Y.1 23 s = X.1 23 s) (e2 : ∀ j, j < 6 → Y.1 22 (6 * s + j) = X.1 22 (6 * s + j)) : NmQ z l s Y v := by
  obtain ⟨a, b, c, d, e⟩ := h
  exact ⟨a, b, e1.trans c, fun j hj => ⟨(d j hj).1, (d j hj).2.1, (e2 j (by omega)).trans (d j hj).2.2⟩, e⟩
theorem PlR.s {P : SS} {u : Nat → Int} {rl : Int} {X M Y N : Mm} (h : PlR P u rl X M) (sx : SX X Y) (oh : OnH M N) : PlR P u rl Y N := by
  obtain ⟨⟨a1, a2, a3⟩, ⟨b1, b2, b3⟩, ⟨c1, c2, c3⟩, d, e, f, g, wx, wm, nm⟩ := h
  refine ⟨⟨?_, ?_, ?_⟩, ⟨?_, ?_, ?_⟩, ⟨?_, ?_, c3⟩, fun b hb => ?_, fun b hb => ?_, fun i hi => ?_, fun i hi => ?_, ⟨fun q hq => ?_, fun q hq => ?_, ?_⟩, fun q hq => ?_, ⟨fun k hk => ?_, fun k hk => ?_⟩⟩
  · rw [sx.1 15 (by decide)]; exact a1
  · rw [sx.1 15 (by decide)]; exact a2
  · rw [sx.1 15 (by decide)]; exact a3
  · rw [oh.2.1 25 (by omega)]; exact b1
  · rw [oh.2.1 26 (by omega)]; exact b2
  · rw [oh.2.1 27 (by omega)]; exact b3
  · rw [sx.2]; exact c1
  · rw [oh.2.1 29 (by omega)]; exact c2
  · rw [sx.1 16 (by decide), sx.1 17 (by decide), sx.1 18 (by decide)]; exact d b hb
  · rw [oh.1 4 (by decide), oh.1 5 (by decide), oh.1 6 (by decide)]; exact e b hb
  · rw [sx.1 19 (by decide), sx.1 20 (by decide), sx.1 21 (by decide)]; exact f i hi
  · rw [oh.1 7 (by decide), oh.1 8 (by decide), oh.1 9 (by decide)]; exact g i hi
  · rw [sx.1 25 (by decide)]; exact wx.1 q hq
  · rw [sx.1 26 (by decide)]; exact wx.2.1 q hq
  · rw [sx.1 24 (by decide)]; exact wx.2.2
  · rw [oh.1 11 (by decide)]; exact wm q hq
  · obtain ⟨z, l, q⟩ := nm.1 k hk
    rw [oh.2.2 2 (by decide)]
    exact ⟨z, l, q.fr (by rw [sx.1 23 (by decide)]) (fun j _ => by rw [sx.1 22 (by decide)])⟩
  · obtain ⟨z, l, q⟩ := nm.2 k hk
    rw [oh.2.2 3 (by decide)]
    exact ⟨z, l, q.fr (by rw [sx.1 23 (by decide)]) (fun j _ => by rw [sx.1 22 (by decide)])⟩
theorem PlR.cn {P : SS} {u : Nat → Int} {rl : Int} {X M : Mm} (h : PlR P u rl X M) (ok : PlOk P u) : CnM (P 0 0) (P 0 1) M := ⟨ok.1.1, ok.1.2, ok.2.1.1, ok.2.1.2.1, h.2.1.1, h.2.1.2.1⟩
/-! what reading may change -/
def WX (X Y : Mm) : Prop := ∀ q, q < 14 ∨ 26 < q → Y.1 q = X.1 q
def WM (M N : Mm) : Prop := (∀ q, q ≠ 0 → q ≠ 11 → q < 4 ∨ 9 < q → N.1 q = M.1 q) ∧ (∀ q i, 4 ≤ q → q ≤ 9 → i < 6 → i < 4 ∨ q < 7 → N.1 q i = M.1 q i) ∧ (∀ i, i < 6 ∨ (12 < i ∧ i < 25) ∨ i = 28 ∨ 29 < i → N.1 0 i = M.1 0 i) ∧ (∀ i, i < 3 → N.2 2 i = M.2 2 i) ∧ (∀ i, i < 6 → N.2 3 i = M.2 3 i)
theorem WX.tr {X Y Z : Mm} (h : WX X Y) (h2 : WX Y Z) : WX X Z := fun q a => (h2 q a).trans (h q a)
theorem SX.w {X Y : Mm} (h : SX X Y) : WX X Y := fun q a => h.1 q (by omega)
theorem WX.u {X Y : Mm} {q i : Nat} {x : Int32} (h : WX X Y) (h1 : 14 ≤ q) (h2 : q ≤ 26) : WX X (u1 Y q i x) := fun r a => by rw [u1_ne (by omega)]; exact h r a
theorem WM.rf {M : Mm} : WM M M := ⟨fun _ _ _ _ => rfl, fun _ _ _ _ _ _ => rfl, fun _ _ => rfl, fun _ _ => rfl, fun _ _ => rfl⟩
theorem WM.tr {M N O : Mm} (h : WM M N) (h2 : WM N O) : WM M O := ⟨fun q a b c => (h2.1 q a b c).trans (h.1 q a b c), fun q i a b c d => (h2.2.1 q i a b c d).trans (h.2.1 q i a b c d), fun i a => (h2.2.2.1 i a).trans (h.2.2.1 i a), fun i a => (h2.2.2.2.1 i a).trans (h.2.2.2.1 i a), fun i a => (h2.2.2.2.2 i a).trans (h.2.2.2.2 i a)⟩
theorem OnH.w {M N : Mm} (h : OnH M N) : WM M N := ⟨fun q a _ _ => h.1 q a, fun q i a _ _ _ => by rw [h.1 q (by omega)], fun i a => h.2.1 i (by omega), fun i _ => by rw [h.2.2 2 (by decide)], fun i _ => by rw [h.2.2 3 (by decide)]⟩
theorem WM.u {M N : Mm} {q i : Nat} {x : Int32} (h : WM M N) (hq : q = 11 ∨ (q = 0 ∧ ((25 ≤ i ∧ i ≤ 27) ∨ i = 29)) ∨ (4 ≤ q ∧ q ≤ 6 ∧ 6 ≤ i) ∨ (7 ≤ q ∧ q ≤ 9 ∧ 4 ≤ i)) : WM M (u1 N q i x) := h.tr ⟨fun r a b c => u1_ne (by omega), fun r j a b c d => by rw [u1_at, if_neg (by omega)], fun j a => by rw [u1_at, if_neg (by omega)], fun _ _ => rfl, fun _ _ => rfl⟩
theorem WM.l {M N : Mm} {q i : Nat} {x : Int64} (h : WM M N) (hq : (q = 2 ∧ 3 ≤ i) ∨ (q = 3 ∧ 6 ≤ i)) : WM M (u2 N q i x) := h.tr ⟨fun _ _ _ _ => rfl, fun _ _ _ _ _ _ => rfl, fun _ _ => rfl, fun j hj => by rw [u2_at, if_neg (by omega)], fun j hj => by rw [u2_at, if_neg (by omega)]⟩
/-- a line is read by both, or both find the same fault -/
def LnR (T : Nat → Int) (n c i : Nat) (X M : Mm) (rx : Option (Int32 × Mm)) (rm : Option Mm) : Prop := (∃ (j : Nat) (P : SS) (u : Nat → Int) (rl : Int) (Y N : Mm), rx = some (1, Y) ∧ rm = some N ∧ Tk T n c j Y N ∧ PlR P u rl Y N ∧ PlOk P u ∧ WX X Y ∧ WM M N ∧ i ≤ j) ∨ (∃ (Y N : Mm), rx = some (0, Y) ∧ rm = some N ∧ Fl T n c Y N ∧ WX X Y ∧ WM M N)
theorem Ln_ware {T : Nat → Int} {n c i : Nat} {P : SS} {u : Nat → Int} {rl : Int} {X M : Mm} (h : Tk T n c i X M) (hp : PlR P u rl X M) (ok : PlOk P u) : LnR T n c i X M (f_R_readWare_14 X) (f_M_readWare_0 M) := by
  obtain ⟨⟨k0, k3⟩, ⟨b0, b6, bk⟩, -⟩ := id ok
  obtain ⟨⟨a1, a2, a3⟩, ⟨m1, m2, m3⟩, -⟩ := id hp
  have cK : (3 ≤ iI (P 0 0)) ↔ 3 ≤ P 0 0 := by rw [l3]; exact iI_le (by omega) (by omega) (by omega) (by omega)
  have cK2 : (iI (P 0 0) = 3) ↔ P 0 0 = 3 := by rw [l3]; exact iI_eq (by omega) (by omega) (by omega) (by omega)
  have cB : (iI (P 0 1) ≤ 0) ↔ P 0 1 ≤ 0 := by rw [l0]; exact iI_le (by omega) (by omega) (by omega) (by omega)
  have cB2 : (0 < iI (P 0 1)) ↔ 0 < P 0 1 := by rw [l0]; exact iI_lt (by omega) (by omega) (by omega) (by omega)
  by_cases e : 3 ≤ P 0 0 ∨ 0 < P 0 1
  · right
    obtain ⟨Y, N, y1, y2, y3, y4, y5⟩ := h.blame 4 (by omega) (by omega)
    rw [← l4] at y1 y2
    refine ⟨Y, N, ?_, ?_, y3, y4.w, y5.w⟩
    · unfold f_R_readWare_14
      rw [a1, a2]
      by_cases e1 : 3 ≤ P 0 0
      · rw [if_pos (cK.mpr e1), y1, Option.bind_some, zr_0, Option.bind_some]
      · rw [if_neg (fun q => e1 (cK.mp q)), if_neg (fun q => by have := cB.mp q; omega), y1, Option.bind_some, zr_0, Option.bind_some]
    · have tail : j_M_readWare_0_15 M = some N := by
        unfold j_M_readWare_0_15 j_M_readWare_0_20
        rw [y2, Option.bind_some, y3.m.goOn, Option.bind_some, y3.m.new, Option.bind_some]
        exact if_neg y3.m.c.1
      unfold f_M_readWare_0
      rw [m1, m2]
      by_cases e2 : 0 < P 0 1
      · rw [if_pos (cB2.mpr e2), tail]
      · rw [if_neg (fun q => e2 (cB2.mp q)), if_pos (cK2.mpr (by omega)), tail]
  · have hX0 : f_R_readWare_14 X = (f_R_step_14 X).bind fun M5 => (f_R_readNewName_14 (M5.1 15 0) M5).bind fun q6 => if q6.1 = 0 then some (0, q6.2) else (some (u1 q6.2 15 0 ((q6.2.1 15 0) + 1))).bind fun M8 => some (1, M8) := by
      unfold f_R_readWare_14
      rw [a1, a2, if_neg (fun q => by have := cK.mp q; omega), if_pos (cB.mpr (by omega))]
    have hM0 : f_M_readWare_0 M = j_M_readWare_0_20 M := by
      unfold f_M_readWare_0
      rw [m1, m2, if_neg (fun q => by have := cB2.mp q; omega), if_neg (fun q => by have := cK2.mp q; omega)]
    obtain ⟨j, X1, M1, s1, s2, s3, s4, s5, s6, -⟩ := h.step
    have hp1 := hp.s s4 s5
    rw [hX0, hM0]
    unfold j_M_readWare_0_20
    rw [s1, s2, Option.bind_some, Option.bind_some, hp1.1.1]
    have eK : iI (P 0 0) = iI (((P 0 0).toNat : Nat) : Int) := by congr 1; omega
    rcases s3.new (s := (P 0 0).toNat) (by omega) (hp1.cn ok) hp1.1.1 hp1.1.2.1 hp1.2.2.2.2.2.2.2.2.2 with ⟨j2, Y, N, w, t1, t2, t3, t4, t5, t6, t7, t8, t9⟩ | ⟨Y, N, w, t1, t2, t3, t4, t5⟩
    · left
      obtain ⟨⟨p1, p2, p3⟩, ⟨p4, p5, p6⟩, ⟨p7, p8, p9⟩, pa, pb, pc, pd, pe, pf, pg⟩ := hp1
      have v7 : ¬ ¬ (N.1 0 7 ≤ 0) := fun q => q (by rw [t3.2.2.2.2.2.2.2.2]; exact Int32.le_refl 0)
      have v15 : Y.1 15 = X1.1 15 := t5 15 (by decide) (by decide) (by decide)
      have n25 : N.1 0 25 = iI (P 0 0) := by rw [t8.2.1 25 (by omega)]; exact p4
      have wL : wrL N 2 6 (iI (3 + P 0 0)) w = some (u2 N 2 (3 + (P 0 0).toNat) w) := by rw [wrL_iI (by omega) (by omega) (by omega), show (3 + P 0 0).toNat = 3 + (P 0 0).toNat by omega]
      refine ⟨j2, uS P 0 0 (P 0 0 + 1), u, rl, u1 Y 15 0 (iI (P 0 0 + 1)), u1 (u2 N 2 (3 + (P 0 0).toNat) w) 0 25 (iI (P 0 0 + 1)), ?_, ?_, ?_, ?_, ?_, ?_, ?_, by omega⟩
      · rw [eK, t1, Option.bind_some]
        dsimp only
        rw [if_neg n10, Option.bind_some, v15, p1, l1, iI_add]
      · rw [t2, Option.bind_some]
        dsimp only
        rw [if_pos (Classical.byContradiction v7), n25, l3, iI_add, wL, Option.bind_some]
        rw [show (u2 N 2 (3 + (P 0 0).toNat) w).1 0 25 = iI (P 0 0) from n25, l1, iI_add]
        rfl
      · exact t3.fr (fun q hq => u1_ne (by omega)) (by rw [u1_ne (by decide)]; rfl) (fun i a b => by rw [u1_s _ _ _ _ (by omega)]; rfl) (by rw [u1_2, u2_2 (by decide)])
      · have nx : ∀ q, q ≠ 14 → q ≠ 15 → q ≠ 22 → q ≠ 23 → (u1 Y 15 0 (iI (P 0 0 + 1))).1 q = X1.1 q := fun q a b c d => by rw [u1_ne b, t5 q a c d]
        have nm : ∀ q, q ≠ 0 → (u1 (u2 N 2 (3 + (P 0 0).toNat) w) 0 25 (iI (P 0 0 + 1))).1 q = M1.1 q := fun q a => by rw [u1_ne a]; exact t8.1 q a
        have nf : ∀ i, i ≠ 25 → 12 < i → (u1 (u2 N 2 (3 + (P 0 0).toNat) w) 0 25 (iI (P 0 0 + 1))).1 0 i = M1.1 0 i := fun i a b => by rw [u1_s _ _ _ _ a]; exact t8.2.1 i (by omega)
        have e01 : uS P 0 0 (P 0 0 + 1) 0 1 = P 0 1 := uS_ni (by decide)
        have e02 : uS P 0 0 (P 0 0 + 1) 0 2 = P 0 2 := uS_ni (by decide)
        have e00 : uS P 0 0 (P 0 0 + 1) 0 0 = P 0 0 + 1 := uS_eq _ _ _ _
        have eo : ∀ a b, a ≠ 0 → uS P 0 0 (P 0 0 + 1) a b = P a b := fun a b ha => uS_nf ha
        refine ⟨⟨?_, ?_, ?_⟩, ⟨?_, ?_, ?_⟩, ⟨?_, ?_, p9⟩, fun b hb => ?_, fun b hb => ?_, fun i hi => ?_, fun i hi => ?_, ⟨fun q hq => ?_, fun q hq => ?_, ?_⟩, fun q hq => ?_, ⟨fun k hk => ?_, fun k hk => ?_⟩⟩
        · rw [u1_self, e00]
        · rw [u1_s _ _ _ _ (by decide), e01, v15]; exact p2
        · rw [u1_s _ _ _ _ (by decide), e02, v15]; exact p3
        · rw [u1_self, e00]
        · rw [nf 26 (by decide) (by decide), e01]; exact p5
        · rw [nf 27 (by decide) (by decide), e02]; exact p6
        · rw [u1_ne (by decide), t6]; exact p7
        · rw [nf 29 (by decide) (by decide)]; exact p8
        · rw [nx 16 (by decide) (by decide) (by decide) (by decide), nx 17 (by decide) (by decide) (by decide) (by decide), nx 18 (by decide) (by decide) (by decide) (by decide), eo 3 b (by decide), eo 4 b (by decide), eo 5 b (by decide)]; exact pa b hb
        · rw [e01] at hb
          rw [nm 4 (by decide), nm 5 (by decide), nm 6 (by decide), eo 3 b (by decide), eo 4 b (by decide), eo 5 b (by decide)]; exact pb b hb
        · rw [e02] at hi
          rw [nx 19 (by decide) (by decide) (by decide) (by decide), nx 20 (by decide) (by decide) (by decide) (by decide), nx 21 (by decide) (by decide) (by decide) (by decide), eo 6 i (by decide), eo 7 i (by decide), eo 8 i (by decide)]; exact pc i hi
        · rw [e02] at hi
          rw [nm 7 (by decide), nm 8 (by decide), nm 9 (by decide), eo 6 i (by decide), eo 7 i (by decide), eo 8 i (by decide)]; exact pd i hi
        · rw [nx 25 (by decide) (by decide) (by decide) (by decide)]; exact pe.1 q hq
        · rw [nx 26 (by decide) (by decide) (by decide) (by decide)]; exact pe.2.1 q hq
        · rw [nx 24 (by decide) (by decide) (by decide) (by decide)]; exact pe.2.2
        · rw [nm 11 (by decide)]; exact pf q hq
        · rw [e00] at hk
          rw [u1_2, u2_at]
          by_cases ek : k = (P 0 0).toNat
          · rw [if_pos ⟨rfl, by omega⟩, ek]
            obtain ⟨z, l, q⟩ := t4
            exact ⟨z, l, q.fr (by rw [u1_ne (by decide)]) (fun j _ => by rw [u1_ne (by decide)])⟩
          · rw [if_neg (by omega), t8.2.2 2 (by decide)]
            obtain ⟨z, l, q⟩ := pg.1 k (by omega)
            exact ⟨z, l, q.fr (by rw [u1_ne (by decide)]; exact (t7 k ek).1) (fun j hj => by rw [u1_ne (by decide)]; exact (t7 k ek).2 j hj)⟩
        · rw [e01] at hk
          omega
      · obtain ⟨o1, o2, o3, o4, o5, o6, o7, o8, o9⟩ := ok
        have e01 : uS P 0 0 (P 0 0 + 1) 0 1 = P 0 1 := uS_ni (by decide)
        have e02 : uS P 0 0 (P 0 0 + 1) 0 2 = P 0 2 := uS_ni (by decide)
        have e00 : uS P 0 0 (P 0 0 + 1) 0 0 = P 0 0 + 1 := uS_eq _ _ _ _
        have eo : ∀ a b, a ≠ 0 → uS P 0 0 (P 0 0 + 1) a b = P a b := fun a b ha => uS_nf ha
        refine ⟨by rw [e00]; omega, by rw [e00, e01]; omega, by rw [e02]; exact o3, fun b => by rw [eo 3 b (by decide), eo 4 b (by decide), eo 5 b (by decide)]; exact o4 b, fun b => by rw [eo 4 b (by decide), eo 5 b (by decide)]; exact o5 b, fun b hb => by rw [eo 3 b (by decide), eo 4 b (by decide), eo 5 b (by decide)]; rw [e01] at hb; exact o6 b hb, fun i hi => ?_, ⟨fun b k hb _ => ?_, o8.2⟩, fun b k hb hk hn => o9 b k hb hk (fun q => by omega)⟩
        · rw [e02] at hi
          rw [e00, eo 6 i (by decide), eo 7 i (by decide), eo 8 i (by decide)]
          have := o7 i hi
          omega
        · rw [e01] at hb; omega
      · exact s4.w.tr (fun q hq => by rw [u1_ne (by omega), t5 q (by omega) (by omega) (by omega)])
      · exact (s5.w.tr ((t8.w.l (Or.inl ⟨rfl, by omega⟩)).u (by omega)))
    · right
      refine ⟨Y, N, by rw [eK, t1, Option.bind_some, if_pos rfl], ?_, t3, s4.w.tr t4.w, s5.w.tr t5.w⟩
      rw [t2, Option.bind_some]
      exact if_neg t3.m.c.1

/-! the reference's lexer -/
def TapM (T : Nat → Int) (M : Mm) : Prop := ∀ q, q < 600 → -128 ≤ T q ∧ T q ≤ 127 ∧ M.1 1 q = iI (T q % 256)
theorem TapM.rd {T : Nat → Int} {M : Mm} (h : TapM T M) {q : Nat} (hq : q < 600) {z : Int} (hz : z = q) : rd (M.1 1) 600 (iI z) = some (iI (T q % 256)) := by
  subst hz
  rw [rd_iI (by omega) (by omega) (by omega), Int.toNat_natCast, (h q hq).2.2]
def OnG (M N : Mm) : Prop := (∀ q, q ≠ 0 → N.1 q = M.1 q) ∧ (∀ i, i ≠ 6 → i ≠ 9 → i ≠ 10 → i ≠ 11 → i ≠ 12 → N.1 0 i = M.1 0 i) ∧ ∀ q, q ≠ 0 → N.2 q = M.2 q
theorem OnG.rf {M : Mm} : OnG M M := ⟨fun _ _ => rfl, fun _ _ _ _ _ _ => rfl, fun _ _ => rfl⟩
theorem OnG.tr {M N O : Mm} (h : OnG M N) (h2 : OnG N O) : OnG M O := ⟨fun q a => (h2.1 q a).trans (h.1 q a), fun i a b c d e => (h2.2.1 i a b c d e).trans (h.2.1 i a b c d e), fun q a => (h2.2.2 q a).trans (h.2.2 q a)⟩
theorem OnG.u {M N : Mm} {i : Nat} {x : Int32} (h : OnG M N) (hi : i = 6 ∨ i = 9 ∨ i = 10 ∨ i = 11 ∨ i = 12) : OnG M (u1 N 0 i x) := h.tr ⟨fun q a => u1_ne a, fun j a b c d e => by rw [u1_at, if_neg (by omega)], fun q _ => rfl⟩
theorem u2_2 {M : Mm} {k i q : Nat} {x : Int64} (h : q ≠ k) : (u2 M k i x).2 q = M.2 q := by
  funext j
  rw [u2_at, if_neg (fun z => h z.1)]
theorem OnG.l {M N : Mm} {i : Nat} {x : Int64} (h : OnG M N) : OnG M (u2 N 0 i x) := h.tr ⟨fun _ _ => rfl, fun _ _ _ _ _ _ => rfl, fun q hq => u2_2 hq⟩
theorem OnG.tap {M N : Mm} {T : Nat → Int} (h : OnG M N) (ht : TapM T M) : TapM T N := fun q hq => by rw [h.1 1 (by decide)]; exact ht q hq
theorem u1_s (M : Mm) (k i : Nat) (x : Int32) {j : Nat} (h : j ≠ i) : (u1 M k i x).1 k j = M.1 k j := by rw [u1_at, if_neg (fun z => h z.2)]
theorem M_isLt {T : Nat → Int} {M : Mm} {n q : Nat} (h : TapM T M) (hl : M.1 0 5 = iI (n : Int)) (hn : n ≤ 600) (hq : q ≤ n) : f_M_isLetterAt_0 (iI (q : Int)) M = some (if q < n ∧ isLt (T q) = true then 1 else 0) := by
  unfold f_M_isLetterAt_0 f_M_in isLt
  have c0 : (iI (n : Int) ≤ iI (q : Int)) ↔ ¬ (q < n) := by rw [iI_le (by omega) (by omega) (by omega) (by omega)]; omega
  rw [hl]
  by_cases e : q < n
  · obtain ⟨a, b, -⟩ := h q (by omega)
    have c1 : (iI (T q % 256) < 97) ↔ T q % 256 < 97 := by rw [show (97 : Int32) = iI 97 from rfl]; exact iI_lt (by omega) (by omega) (by omega) (by omega)
    have c2 : (122 < iI (T q % 256)) ↔ 122 < T q % 256 := by rw [show (122 : Int32) = iI 122 from rfl]; exact iI_lt (by omega) (by omega) (by omega) (by omega)
    rw [if_neg (fun z => c0.mp z e), h.rd (q := q) (by omega) rfl, Option.bind_some]
    by_cases e1 : T q % 256 < 97
    · rw [if_pos (c1.mpr e1), Option.bind_some, if_pos rfl, if_neg (by rw [decide_eq_true_eq]; omega)]
    · rw [if_neg (fun z => e1 (c1.mp z))]
      by_cases e2 : 122 < T q % 256
      · rw [if_pos (c2.mpr e2), Option.bind_some, if_pos rfl, if_neg (by rw [decide_eq_true_eq]; omega)]
      · rw [if_neg (fun z => e2 (c2.mp z)), Option.bind_some, if_neg n10, if_pos (by rw [decide_eq_true_eq]; omega)]
  · rw [if_pos (c0.mpr e), if_neg (fun z => e z.1)]
theorem M_isDg {T : Nat → Int} {M : Mm} {n q : Nat} (h : TapM T M) (hl : M.1 0 5 = iI (n : Int)) (hn : n ≤ 600) (hq : q ≤ n) : f_M_isDigitAt_0 (iI (q : Int)) M = some (if q < n ∧ isDg (T q) = true then 1 else 0) := by
  unfold f_M_isDigitAt_0 f_M_in isDg
  have c0 : (iI (n : Int) ≤ iI (q : Int)) ↔ ¬ (q < n) := by rw [iI_le (by omega) (by omega) (by omega) (by omega)]; omega
  rw [hl]
  by_cases e : q < n
  · obtain ⟨a, b, -⟩ := h q (by omega)
    have c1 : (iI (T q % 256) < 48) ↔ T q % 256 < 48 := by rw [show (48 : Int32) = iI 48 from rfl]; exact iI_lt (by omega) (by omega) (by omega) (by omega)
    have c2 : (57 < iI (T q % 256)) ↔ 57 < T q % 256 := by rw [show (57 : Int32) = iI 57 from rfl]; exact iI_lt (by omega) (by omega) (by omega) (by omega)
    rw [if_neg (fun z => c0.mp z e), h.rd (q := q) (by omega) rfl, Option.bind_some]
    by_cases e1 : T q % 256 < 48
    · rw [if_pos (c1.mpr e1), Option.bind_some, if_pos rfl, if_neg (by rw [decide_eq_true_eq]; omega)]
    · rw [if_neg (fun z => e1 (c1.mp z))]
      by_cases e2 : 57 < T q % 256
      · rw [if_pos (c2.mpr e2), Option.bind_some, if_pos rfl, if_neg (by rw [decide_eq_true_eq]; omega)]
      · rw [if_neg (fun z => e2 (c2.mp z)), Option.bind_some, if_neg n10, if_pos (by rw [decide_eq_true_eq]; omega)]
  · rw [if_pos (c0.mpr e), if_neg (fun z => e z.1)]
theorem M_isLt_1 {T : Nat → Int} {M : Mm} {n q : Nat} (h : TapM T M) (hl : M.1 0 5 = iI (n : Int)) (hn : n ≤ 600) (hq : q ≤ n) (e : q < n ∧ isLt (T q) = true) : f_M_isLetterAt_0 (iI (q : Int)) M = some 1 := by rw [M_isLt h hl hn hq, if_pos e]
theorem M_isLt_0 {T : Nat → Int} {M : Mm} {n q : Nat} (h : TapM T M) (hl : M.1 0 5 = iI (n : Int)) (hn : n ≤ 600) (hq : q ≤ n) (e : ¬ (q < n ∧ isLt (T q) = true)) : f_M_isLetterAt_0 (iI (q : Int)) M = some 0 := by rw [M_isLt h hl hn hq, if_neg e]
theorem M_isDg_1 {T : Nat → Int} {M : Mm} {n q : Nat} (h : TapM T M) (hl : M.1 0 5 = iI (n : Int)) (hn : n ≤ 600) (hq : q ≤ n) (e : q < n ∧ isDg (T q) = true) : f_M_isDigitAt_0 (iI (q : Int)) M = some 1 := by rw [M_isDg h hl hn hq, if_pos e]
theorem M_isDg_0 {T : Nat → Int} {M : Mm} {n q : Nat} (h : TapM T M) (hl : M.1 0 5 = iI (n : Int)) (hn : n ≤ 600) (hq : q ≤ n) (e : ¬ (q < n ∧ isDg (T q) = true)) : f_M_isDigitAt_0 (iI (q : Int)) M = some 0 := by rw [M_isDg h hl hn hq, if_neg e]
theorem i64' {z : Int} (h1 : -2147483648 ≤ z) (h2 : z < 2147483648) : Int32.toInt64 (iI z) = jI z := by
  rw [← Int64.toInt_inj, Int32.toInt_toInt64, iI_toInt h1 h2, jI_toInt (by omega) (by omega)]
theorem M_lets {T : Nat → Int} {n s : Nat} (hn : n ≤ 600) : ∀ k p f M, n - p = k → s ≤ p → p ≤ n → k < f → TapM T M → M.1 0 5 = iI (n : Int) → M.1 0 6 = iI (p : Int) → M.1 0 10 = iI (s : Int) → M.2 0 13 = jI (wdS (ltS T s) (min (p - s) 6)) → ∃ N, lp_M_goOn_0_89 f M = j_M_goOn_0_156 N ∧ N.1 0 6 = iI (rnE isLt T n p : Int) ∧ N.2 0 13 = jI (wdS (ltS T s) (min (rnE isLt T n p - s) 6)) ∧ N.1 0 10 = iI (s : Int) ∧ OnG M N := by
  intro k
  induction k with
  | zero =>
    intro p f M hk hs hp hf ht h5 h6 h10 hw
    obtain ⟨f, rfl⟩ : ∃ g, f = g + 1 := ⟨f - 1, by omega⟩
    refine ⟨M, ?_, by rw [rn_no (fun q => by omega)]; exact h6, by rw [rn_no (fun q => by omega)]; exact hw, h10, OnG.rf⟩
    show blp_M_goOn_0_89 (lp_M_goOn_0_89 f) M = _
    unfold blp_M_goOn_0_89
    rw [h6, M_isLt_0 ht h5 hn hp (fun q => by omega), Option.bind_some, if_pos rfl]
  | succ k ih =>
    intro p f M hk hs hp hf ht h5 h6 h10 hw
    obtain ⟨f, rfl⟩ : ∃ g, f = g + 1 := ⟨f - 1, by omega⟩
    by_cases e : isLt (T p) = true
    · have lb : 97 ≤ T p ∧ T p ≤ 122 := by unfold isLt at e; rw [decide_eq_true_eq] at e; exact e
      rw [rn_go (by omega) e]
      have hd : lp_M_goOn_0_89 (f + 1) M = if 6 ≤ iI ((p : Int) - s) then j_M_goOn_0_143 (lp_M_goOn_0_89 f) M else j_M_goOn_0_143 (lp_M_goOn_0_89 f) (u2 M 0 13 (((((M.2 0 13) * 32) + (Int32.toInt64 (iI (T p % 256)))) - 97) + 1)) := by
        show blp_M_goOn_0_89 (lp_M_goOn_0_89 f) M = _
        unfold blp_M_goOn_0_89
        rw [h6, M_isLt_1 ht h5 hn hp ⟨by omega, e⟩, Option.bind_some, if_neg n10, h10, iI_sub, ht.rd (q := p) (by omega) rfl, Option.bind_some, Option.bind_some]
      have c6 : (6 ≤ iI ((p : Int) - s)) ↔ 6 ≤ p - s := by rw [l6, iI_le (by omega) (by omega) (by omega) (by omega)]; omega
      have ep : iI (p : Int) + 1 = iI ((p + 1 : Nat) : Int) := by rw [l1, iI_add]; rfl
      rw [hd]
      by_cases e6 : 6 ≤ p - s
      · rw [if_pos (c6.mpr e6)]
        unfold j_M_goOn_0_143
        rw [Option.bind_some, h6, ep]
        have o : OnG M (u1 M 0 6 (iI ((p + 1 : Nat) : Int))) := OnG.rf.u (by omega)
        obtain ⟨N, n1, n2, n3, n4, n5⟩ := ih (p + 1) f (u1 M 0 6 (iI ((p + 1 : Nat) : Int))) (by omega) (by omega) (by omega) (by omega) (o.tap ht) (by rw [u1_s _ _ _ _ (by decide)]; exact h5) (u1_self _ _ _ _) (by rw [u1_s _ _ _ _ (by decide)]; exact h10) (by rw [u1_2, hw, show min (p + 1 - s) 6 = min (p - s) 6 by omega])
        exact ⟨N, n1, n2, n3, n4, o.tr n5⟩
      · rw [if_neg (fun q => e6 (c6.mp q))]
        unfold j_M_goOn_0_143
        rw [Option.bind_some, show (u2 M 0 13 (((((M.2 0 13) * 32) + (Int32.toInt64 (iI (T p % 256)))) - 97) + 1)).1 0 6 = iI (p : Int) from h6, ep]
        have nw : ((((M.2 0 13) * 32) + (Int32.toInt64 (iI (T p % 256)))) - 97) + 1 = jI (wdS (ltS T s) (min (p + 1 - s) 6)) := by
          rw [hw, i64' (by omega) (by omega), show (32 : Int64) = jI 32 from rfl, show (97 : Int64) = jI 97 from rfl, show (1 : Int64) = jI 1 from rfl, jI_mul, jI_add, jI_sub, jI_add, show min (p + 1 - s) 6 = (p - s) + 1 by omega, show min (p - s) 6 = p - s by omega]
          congr 1
          show _ = wdS (ltS T s) (p - s) * 32 + ltS T s (p - s) + 1
          unfold ltS
          rw [show s + (p - s) = p by omega]
          omega
        rw [nw]
        have o : OnG M (u1 (u2 M 0 13 (jI (wdS (ltS T s) (min (p + 1 - s) 6)))) 0 6 (iI ((p + 1 : Nat) : Int))) := (OnG.rf.l).u (by omega)
        obtain ⟨N, n1, n2, n3, n4, n5⟩ := ih (p + 1) f (u1 (u2 M 0 13 (jI (wdS (ltS T s) (min (p + 1 - s) 6)))) 0 6 (iI ((p + 1 : Nat) : Int))) (by omega) (by omega) (by omega) (by omega) (o.tap ht) (by rw [u1_s _ _ _ _ (by decide)]; exact h5) (u1_self _ _ _ _) (by rw [u1_s _ _ _ _ (by decide)]; exact h10) (by rw [u1_2, u2_at, if_pos ⟨rfl, rfl⟩])
        exact ⟨N, n1, n2, n3, n4, o.tr n5⟩
    · refine ⟨M, ?_, by rw [rn_no (fun q => e q.2)]; exact h6, by rw [rn_no (fun q => e q.2)]; exact hw, h10, OnG.rf⟩
      show blp_M_goOn_0_89 (lp_M_goOn_0_89 f) M = _
      unfold blp_M_goOn_0_89
      rw [h6, M_isLt_0 ht h5 hn hp (fun q => e q.2), Option.bind_some, if_pos rfl]
theorem M_digs {T : Nat → Int} {n s : Nat} (hn : n ≤ 600) : ∀ k p f M, n - p = k → s ≤ p → p ≤ n → k < f → TapM T M → M.1 0 5 = iI (n : Int) → M.1 0 6 = iI (p : Int) → M.1 0 10 = iI (s : Int) → M.1 0 12 = iI (nuN T s (min (p - s) 4)) → ∃ N, lp_M_goOn_0_198 f M = j_M_goOn_0_259 N ∧ N.1 0 6 = iI (rnE isDg T n p : Int) ∧ N.1 0 12 = iI (nuN T s (min (rnE isDg T n p - s) 4)) ∧ N.1 0 10 = iI (s : Int) ∧ OnG M N := by
  intro k
  induction k with
  | zero =>
    intro p f M hk hs hp hf ht h5 h6 h10 hw
    obtain ⟨f, rfl⟩ : ∃ g, f = g + 1 := ⟨f - 1, by omega⟩
    refine ⟨M, ?_, by rw [rn_no (fun q => by omega)]; exact h6, by rw [rn_no (fun q => by omega)]; exact hw, h10, OnG.rf⟩
    show blp_M_goOn_0_198 (lp_M_goOn_0_198 f) M = _
    unfold blp_M_goOn_0_198
    rw [h6, M_isDg_0 ht h5 hn hp (fun q => by omega), Option.bind_some, if_pos rfl]
  | succ k ih =>
    intro p f M hk hs hp hf ht h5 h6 h10 hw
    obtain ⟨f, rfl⟩ : ∃ g, f = g + 1 := ⟨f - 1, by omega⟩
    by_cases e : isDg (T p) = true
    · have lb : 48 ≤ T p ∧ T p ≤ 57 := by unfold isDg at e; rw [decide_eq_true_eq] at e; exact e
      rw [rn_go (by omega) e]
      have hd : lp_M_goOn_0_198 (f + 1) M = if 4 ≤ iI ((p : Int) - s) then j_M_goOn_0_246 (lp_M_goOn_0_198 f) M else j_M_goOn_0_246 (lp_M_goOn_0_198 f) (u1 M 0 12 (((10 * (M.1 0 12)) + iI (T p % 256)) - 48)) := by
        show blp_M_goOn_0_198 (lp_M_goOn_0_198 f) M = _
        unfold blp_M_goOn_0_198
        rw [h6, M_isDg_1 ht h5 hn hp ⟨by omega, e⟩, Option.bind_some, if_neg n10, h10, iI_sub, ht.rd (q := p) (by omega) rfl, Option.bind_some, Option.bind_some]
      have c6 : (4 ≤ iI ((p : Int) - s)) ↔ 4 ≤ p - s := by rw [l4, iI_le (by omega) (by omega) (by omega) (by omega)]; omega
      have ep : iI (p : Int) + 1 = iI ((p + 1 : Nat) : Int) := by rw [l1, iI_add]; rfl
      rw [hd]
      by_cases e6 : 4 ≤ p - s
      · rw [if_pos (c6.mpr e6)]
        unfold j_M_goOn_0_246
        rw [Option.bind_some, h6, ep]
        have o : OnG M (u1 M 0 6 (iI ((p + 1 : Nat) : Int))) := OnG.rf.u (by omega)
        obtain ⟨N, n1, n2, n3, n4, n5⟩ := ih (p + 1) f (u1 M 0 6 (iI ((p + 1 : Nat) : Int))) (by omega) (by omega) (by omega) (by omega) (o.tap ht) (by rw [u1_s _ _ _ _ (by decide)]; exact h5) (u1_self _ _ _ _) (by rw [u1_s _ _ _ _ (by decide)]; exact h10) (by rw [u1_s _ _ _ _ (by decide), hw, show min (p + 1 - s) 4 = min (p - s) 4 by omega])
        exact ⟨N, n1, n2, n3, n4, o.tr n5⟩
      · rw [if_neg (fun q => e6 (c6.mp q))]
        unfold j_M_goOn_0_246
        rw [Option.bind_some, u1_s _ _ _ _ (show 6 ≠ 12 by decide), h6, ep]
        have nw : ((10 * (M.1 0 12)) + iI (T p % 256)) - 48 = iI (nuN T s (min (p + 1 - s) 4)) := by
          rw [hw, show (10 : Int32) = iI 10 from rfl, show (48 : Int32) = iI 48 from rfl, iI_mul, iI_add, iI_sub, show min (p + 1 - s) 4 = (p - s) + 1 by omega, show min (p - s) 4 = p - s by omega]
          congr 1
          show _ = 10 * nuN T s (p - s) + T (s + (p - s)) - 48
          rw [show s + (p - s) = p by omega]
          omega
        rw [nw]
        have o : OnG M (u1 (u1 M 0 12 (iI (nuN T s (min (p + 1 - s) 4)))) 0 6 (iI ((p + 1 : Nat) : Int))) := (OnG.rf.u (by omega)).u (by omega)
        obtain ⟨N, n1, n2, n3, n4, n5⟩ := ih (p + 1) f (u1 (u1 M 0 12 (iI (nuN T s (min (p + 1 - s) 4)))) 0 6 (iI ((p + 1 : Nat) : Int))) (by omega) (by omega) (by omega) (by omega) (o.tap ht) (by rw [u1_s _ _ _ _ (by decide), u1_s _ _ _ _ (by decide)]; exact h5) (u1_self _ _ _ _) (by rw [u1_s _ _ _ _ (by decide), u1_s _ _ _ _ (by decide)]; exact h10) (by rw [u1_s _ _ _ _ (by decide), u1_self])
        exact ⟨N, n1, n2, n3, n4, o.tr n5⟩
    · refine ⟨M, ?_, by rw [rn_no (fun q => e q.2)]; exact h6, by rw [rn_no (fun q => e q.2)]; exact hw, h10, OnG.rf⟩
      show blp_M_goOn_0_198 (lp_M_goOn_0_198 f) M = _
      unfold blp_M_goOn_0_198
      rw [h6, M_isDg_0 ht h5 hn hp (fun q => e q.2), Option.bind_some, if_pos rfl]
theorem M_sps {T : Nat → Int} {n : Nat} (hn : n ≤ 600) : ∀ k p f M, n - p = k → p ≤ n → k < f → TapM T M → M.1 0 5 = iI (n : Int) → M.1 0 6 = iI (p : Int) → ∃ N, lp_M_goOn_0_8 f M = j_M_goOn_0_46 N ∧ N.1 0 6 = iI (rnE isSp T n p : Int) ∧ OnG M N := by
  intro k
  induction k with
  | zero =>
    intro p f M hk hp hf ht h5 h6
    obtain ⟨f, rfl⟩ : ∃ g, f = g + 1 := ⟨f - 1, by omega⟩
    refine ⟨M, ?_, by rw [rn_no (fun q => by omega)]; exact h6, OnG.rf⟩
    show blp_M_goOn_0_8 (lp_M_goOn_0_8 f) M = _
    unfold blp_M_goOn_0_8
    rw [h5, h6, if_pos ((iI_le (by omega) (by omega) (by omega) (by omega)).mpr (by omega))]
  | succ k ih =>
    intro p f M hk hp hf ht h5 h6
    obtain ⟨f, rfl⟩ : ∃ g, f = g + 1 := ⟨f - 1, by omega⟩
    obtain ⟨a, b, -⟩ := ht p (by omega)
    have c0 : ¬ (iI (n : Int) ≤ iI (p : Int)) := by rw [iI_le (by omega) (by omega) (by omega) (by omega)]; omega
    have c1 : (iI (T p % 256) = 32) ↔ T p = 32 := by rw [show (32 : Int32) = iI 32 from rfl, iI_eq (by omega) (by omega) (by omega) (by omega)]; omega
    have hd : lp_M_goOn_0_8 (f + 1) M = if iI (T p % 256) = 32 then lp_M_goOn_0_8 f (u1 M 0 6 (iI ((p + 1 : Nat) : Int))) else j_M_goOn_0_46 M := by
      show blp_M_goOn_0_8 (lp_M_goOn_0_8 f) M = _
      unfold blp_M_goOn_0_8
      rw [h5, h6, if_neg c0, ht.rd (q := p) (by omega) rfl, Option.bind_some, Option.bind_some, show iI (p : Int) + 1 = iI ((p + 1 : Nat) : Int) by rw [l1, iI_add]; rfl]
    rw [hd]
    by_cases e : T p = 32
    · have sp : isSp (T p) = true := by unfold isSp; rw [decide_eq_true_eq]; exact e
      rw [if_pos (c1.mpr e), rn_go (by omega) sp]
      have o : OnG M (u1 M 0 6 (iI ((p + 1 : Nat) : Int))) := OnG.rf.u (by omega)
      obtain ⟨N, n1, n2, n3⟩ := ih (p + 1) f _ (by omega) (by omega) (by omega) (o.tap ht) (by rw [u1_s _ _ _ _ (by decide)]; exact h5) (u1_self _ _ _ _)
      exact ⟨N, n1, n2, o.tr n3⟩
    · have sp : ¬ (p < n ∧ isSp (T p) = true) := fun q => e (by have := q.2; unfold isSp at this; rw [decide_eq_true_eq] at this; exact this)
      rw [if_neg (fun q => e (c1.mp q)), rn_no sp]
      exact ⟨M, rfl, h6, OnG.rf⟩
/-- a token's sort in the reference's numbers -/
def tkM (z : Int) : Int := if z = 0 then 1 else if z = 1 then 2 else if z = 2 then 3 else if z = 3 ∨ z = 4 then 4 else 0
def TkM (T : Nat → Int) (n s : Nat) (M : Mm) : Prop := M.1 0 5 = iI (n : Int) ∧ M.1 0 10 = iI (s : Int) ∧ M.1 0 6 = iI (enS T n s : Int) ∧ M.1 0 9 = iI (tkM (srS T n s)) ∧ (srS T n s = 1 → M.2 0 13 = jI (wdS (ltS T s) (enS T n s - s))) ∧ (srS T n s = 2 → M.1 0 12 = iI (nuN T s (enS T n s - s))) ∧ (srS T n s = 3 ∨ srS T n s = 4 → M.1 0 11 = iI (T s))
theorem M_goOn {T : Nat → Int} {n p : Nat} {M : Mm} (hn : n ≤ 600) (hp : p ≤ n) (ht : TapM T M) (h5 : M.1 0 5 = iI (n : Int)) (h6 : M.1 0 6 = iI (p : Int)) (h7 : M.1 0 7 = 0) : ∃ N, f_M_goOn_0 M = some N ∧ TkM T n (rnE isSp T n p) N ∧ OnG M N := by
  unfold f_M_goOn_0
  rw [h7, if_pos (Int32.le_refl 0)]
  obtain ⟨M1, a1, a2, a3⟩ := M_sps hn (n - p) p FW M rfl hp (FW_gt (by omega)) ht h5 h6
  rw [a1]
  have sle : rnE isSp T n p ≤ n := rn_le hp
  generalize rnE isSp T n p = s at a2 sle ⊢
  have t1 := a3.tap ht
  have b5 : M1.1 0 5 = iI (n : Int) := by rw [a3.2.1 5 (by decide) (by decide) (by decide) (by decide) (by decide)]; exact h5
  unfold j_M_goOn_0_46
  rw [Option.bind_some, a2]
  have o2 : OnG M (u1 M1 0 10 (iI (s : Int))) := a3.u (by omega)
  have v10 : (u1 M1 0 10 (iI (s : Int))).1 0 10 = iI (s : Int) := u1_self _ _ _ _
  have v6 : (u1 M1 0 10 (iI (s : Int))).1 0 6 = iI (s : Int) := by rw [u1_s _ _ _ _ (by decide)]; exact a2
  have v5 : (u1 M1 0 10 (iI (s : Int))).1 0 5 = iI (n : Int) := by rw [u1_s _ _ _ _ (by decide)]; exact b5
  generalize u1 M1 0 10 (iI (s : Int)) = M2 at o2 v10 v6 v5
  have t2 := o2.tap ht
  rw [v6, v5]
  by_cases e : s = n
  · have en : enS T n s = s := by unfold enS; rw [if_neg (by omega)]
    have sr : srS T n s = 0 := by unfold srS; rw [if_neg (by omega)]
    rw [if_pos (by rw [e]), Option.bind_some]
    refine ⟨_, rfl, ⟨?_, ?_, ?_, ?_, fun q => absurd q (by omega), fun q => absurd q (by omega), fun q => absurd q (by omega)⟩, o2.u (by omega)⟩
    · rw [u1_s _ _ _ _ (by decide)]; exact v5
    · rw [u1_s _ _ _ _ (by decide)]; exact v10
    · rw [u1_s _ _ _ _ (by decide), en]; exact v6
    · rw [u1_self, sr]; rfl
  · have hs : s < n := by omega
    have ne : ¬ (iI (s : Int) = iI (n : Int)) := by rw [iI_eq (by omega) (by omega) (by omega) (by omega)]; omega
    rw [if_neg ne]
    by_cases eL : isLt (T s) = true
    · rw [M_isLt_1 t2 v5 hn sle ⟨hs, eL⟩, Option.bind_some, if_neg n10, Option.bind_some]
      have en : enS T n s = rnE isLt T n s := by unfold enS; rw [if_pos hs, if_pos eL]
      have sr : srS T n s = if enS T n s - s ≤ 6 then 1 else 5 := by unfold srS; rw [if_pos hs, if_pos eL]
      have eg := en_gt (T := T) hs
      have ele := en_le (T := T) (Nat.le_of_lt hs)
      have o3 : OnG M (u2 M2 0 13 0) := o2.l
      obtain ⟨N, n1, n2, n3, n4, n5⟩ := M_lets (T := T) (s := s) hn (n - s) s FW (u2 M2 0 13 0) rfl (Nat.le_refl s) sle (FW_gt (by omega)) (o3.tap ht) v5 v6 v10 (by rw [u2_at, if_pos ⟨rfl, rfl⟩, show min (s - s) 6 = 0 by omega]; rfl)
      rw [← en] at n2 n3
      have o4 := o3.tr n5
      have w5 : N.1 0 5 = iI (n : Int) := by rw [n5.2.1 5 (by decide) (by decide) (by decide) (by decide) (by decide)]; exact v5
      rw [n1]
      unfold j_M_goOn_0_156
      have c6 : (iI (enS T n s : Int) - iI (s : Int) ≤ 6) ↔ enS T n s - s ≤ 6 := by rw [iI_sub, l6, iI_le (by omega) (by omega) (by omega) (by omega)]; omega
      rw [n2, n4]
      by_cases e6 : enS T n s - s ≤ 6
      · rw [if_pos e6] at sr
        rw [if_pos (c6.mpr e6), Option.bind_some]
        refine ⟨_, rfl, ⟨?_, ?_, ?_, ?_, fun q => ?_, fun q => absurd q (by omega), fun q => absurd q (by omega)⟩, o4.u (by omega)⟩
        · rw [u1_s _ _ _ _ (by decide)]; exact w5
        · rw [u1_s _ _ _ _ (by decide)]; exact n4
        · rw [u1_s _ _ _ _ (by decide)]; exact n2
        · rw [u1_self, sr]; rfl
        · rw [u1_2, n3, show min (enS T n s - s) 6 = enS T n s - s by omega]
      · rw [if_neg e6] at sr
        rw [if_neg (fun q => e6 (c6.mp q)), Option.bind_some]
        refine ⟨_, rfl, ⟨?_, ?_, ?_, ?_, fun q => absurd q (by omega), fun q => absurd q (by omega), fun q => absurd q (by omega)⟩, o4.u (by omega)⟩
        · rw [u1_s _ _ _ _ (by decide)]; exact w5
        · rw [u1_s _ _ _ _ (by decide)]; exact n4
        · rw [u1_s _ _ _ _ (by decide)]; exact n2
        · rw [u1_self, sr]; rfl
    · rw [M_isLt_0 t2 v5 hn sle (fun q => eL q.2), Option.bind_some, if_pos rfl]
      by_cases eD : isDg (T s) = true
      · rw [M_isDg_1 t2 v5 hn sle ⟨hs, eD⟩, Option.bind_some, if_neg n10, Option.bind_some]
        have en : enS T n s = rnE isDg T n s := by unfold enS; rw [if_pos hs, if_neg eL, if_pos eD]
        have sr : srS T n s = if enS T n s - s ≤ 4 then 2 else 5 := by unfold srS; rw [if_pos hs, if_neg eL, if_pos eD]
        have eg := en_gt (T := T) hs
        have ele := en_le (T := T) (Nat.le_of_lt hs)
        have o3 : OnG M (u1 M2 0 12 0) := o2.u (by omega)
        obtain ⟨N, n1, n2, n3, n4, n5⟩ := M_digs (T := T) (s := s) hn (n - s) s FW (u1 M2 0 12 0) rfl (Nat.le_refl s) sle (FW_gt (by omega)) (o3.tap ht) (by rw [u1_s _ _ _ _ (by decide)]; exact v5) (by rw [u1_s _ _ _ _ (by decide)]; exact v6) (by rw [u1_s _ _ _ _ (by decide)]; exact v10) (by rw [u1_self, show min (s - s) 4 = 0 by omega]; rfl)
        rw [← en] at n2 n3
        have o4 := o3.tr n5
        have w5 : N.1 0 5 = iI (n : Int) := by rw [n5.2.1 5 (by decide) (by decide) (by decide) (by decide) (by decide), u1_s _ _ _ _ (by decide)]; exact v5
        rw [n1]
        unfold j_M_goOn_0_259
        have c4 : (iI (enS T n s : Int) - iI (s : Int) ≤ 4) ↔ enS T n s - s ≤ 4 := by rw [iI_sub, l4, iI_le (by omega) (by omega) (by omega) (by omega)]; omega
        rw [n2, n4]
        by_cases e4 : enS T n s - s ≤ 4
        · rw [if_pos e4] at sr
          rw [if_pos (c4.mpr e4), Option.bind_some]
          refine ⟨_, rfl, ⟨?_, ?_, ?_, ?_, fun q => absurd q (by omega), fun q => ?_, fun q => absurd q (by omega)⟩, o4.u (by omega)⟩
          · rw [u1_s _ _ _ _ (by decide)]; exact w5
          · rw [u1_s _ _ _ _ (by decide)]; exact n4
          · rw [u1_s _ _ _ _ (by decide)]; exact n2
          · rw [u1_self, sr]; rfl
          · rw [u1_s _ _ _ _ (by decide), n3, show min (enS T n s - s) 4 = enS T n s - s by omega]
        · rw [if_neg e4] at sr
          rw [if_neg (fun q => e4 (c4.mp q)), Option.bind_some]
          refine ⟨_, rfl, ⟨?_, ?_, ?_, ?_, fun q => absurd q (by omega), fun q => absurd q (by omega), fun q => absurd q (by omega)⟩, o4.u (by omega)⟩
          · rw [u1_s _ _ _ _ (by decide)]; exact w5
          · rw [u1_s _ _ _ _ (by decide)]; exact n4
          · rw [u1_s _ _ _ _ (by decide)]; exact n2
          · rw [u1_self, sr]; rfl
      · rw [M_isDg_0 t2 v5 hn sle (fun q => eD q.2), Option.bind_some, if_pos rfl, t2.rd (q := s) (by omega) rfl, Option.bind_some, Option.bind_some, u1_self]
        have en : enS T n s = s + 1 := by unfold enS; rw [if_pos hs, if_neg eL, if_neg eD]
        have sr : srS T n s = if T s = 59 then 3 else if T s = 44 then 4 else 5 := by unfold srS; rw [if_pos hs, if_neg eL, if_neg eD]
        obtain ⟨tb1, tb2, -⟩ := ht s (by omega)
        have c59 : (iI (T s % 256) = 59) ↔ T s = 59 := by rw [show (59 : Int32) = iI 59 from rfl, iI_eq (by omega) (by omega) (by omega) (by omega)]; omega
        have c44 : (iI (T s % 256) = 44) ↔ T s = 44 := by rw [show (44 : Int32) = iI 44 from rfl, iI_eq (by omega) (by omega) (by omega) (by omega)]; omega
        have fin : ∀ t : Int, t = tkM (srS T n s) → (srS T n s = 3 ∨ srS T n s = 4 → 0 ≤ T s) → (srS T n s = 3 ∨ srS T n s = 4 ∨ srS T n s = 5) → ∃ N, j_M_goOn_0_321 (iI t) (u1 M2 0 11 (iI (T s % 256))) = some N ∧ TkM T n s N ∧ OnG M N := by
          intro t h1 h2 h3
          unfold j_M_goOn_0_321
          rw [Option.bind_some, Option.bind_some]
          refine ⟨_, rfl, ⟨?_, ?_, ?_, ?_, fun q => absurd q (by omega), fun q => absurd q (by omega), fun q => ?_⟩, ((o2.u (by omega)).u (by omega)).u (by omega)⟩
          · rw [u1_s _ _ _ _ (by decide), u1_s _ _ _ _ (by decide), u1_s _ _ _ _ (by decide)]; exact v5
          · rw [u1_s _ _ _ _ (by decide), u1_s _ _ _ _ (by decide), u1_s _ _ _ _ (by decide)]; exact v10
          · rw [u1_self, u1_s _ _ _ _ (by decide), u1_s _ _ _ _ (by decide), v6, en, l1, iI_add]; rfl
          · rw [u1_s _ _ _ _ (by decide), u1_self, h1]
          · rw [u1_s _ _ _ _ (by decide), u1_s _ _ _ _ (by decide), u1_self]
            have := h2 q
            congr 1; omega
        by_cases e1 : T s = 59
        · rw [if_pos (c59.mpr e1)]
          rw [if_pos e1] at sr
          exact fin 4 (by rw [sr]; rfl) (fun _ => by omega) (by omega)
        · rw [if_neg (fun q => e1 (c59.mp q))]
          rw [if_neg e1] at sr
          by_cases e2 : T s = 44
          · rw [if_pos (c44.mpr e2)]
            rw [if_pos e2] at sr
            exact fin 4 (by rw [sr]; rfl) (fun _ => by omega) (by omega)
          · rw [if_neg (fun q => e2 (c44.mp q))]
            rw [if_neg e2] at sr
            rw [l0]
            exact fin 0 (by rw [sr]; rfl) (fun q => by omega) (by omega)

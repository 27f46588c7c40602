theorem Tk.r3 {T : Nat → Int} {n c i : Nat} {X M : Mm} (h : Tk T n c i X M) (x y : Int32) : Tk T n c i (u1 X 14 3 x) (u1 M 0 29 y) := by
  obtain ⟨h1, h2, h3, h4, h5, h6, h7, h8, h9⟩ := h
  refine ⟨h1, h2.fr (fun q a b => u1_ne (by omega)), h3, by rw [u1_s _ _ _ _ (by decide)]; exact h4, by rw [u1_s _ _ _ _ (by decide)]; exact h5, fun q hq => by rw [u1_ne (by decide)]; exact h6 q hq, fun q hq => by rw [u1_ne (by decide)]; exact h7 q hq, ?_, by rw [u1_s _ _ _ _ (by decide)]; exact h9⟩
  unfold TkM
  rw [u1_s _ _ _ _ (by decide), u1_s _ _ _ _ (by decide), u1_s _ _ _ _ (by decide), u1_s _ _ _ _ (by decide), u1_s _ _ _ _ (by decide), u1_s _ _ _ _ (by decide), u1_2]
  exact h8
theorem PlR.r3 {P : SS} {u : Nat → Int} {rl : Int} {X M : Mm} (h : PlR P u rl X M) : PlR P u 1 (u1 X 14 3 1) (u1 M 0 29 1) := by
  obtain ⟨⟨a1, a2, a3⟩, ⟨b1, b2, b3⟩, ⟨c1, c2, c3⟩, d, e, f, g, wx, wm, nm⟩ := h
  refine ⟨⟨by rw [u1_ne (by decide)]; exact a1, by rw [u1_ne (by decide)]; exact a2, by rw [u1_ne (by decide)]; exact a3⟩, ⟨by rw [u1_s _ _ _ _ (by decide)]; exact b1, by rw [u1_s _ _ _ _ (by decide)]; exact b2, by rw [u1_s _ _ _ _ (by decide)]; exact b3⟩, ⟨by rw [u1_self, l1], by rw [u1_self, l1], Or.inr rfl⟩, fun b hb => by rw [u1_ne (by decide), u1_ne (by decide), u1_ne (by decide)]; exact d b hb, fun b hb => by rw [u1_ne (by decide), u1_ne (by decide), u1_ne (by decide)]; exact e b hb, fun i hi => by rw [u1_ne (by decide), u1_ne (by decide), u1_ne (by decide)]; exact f i hi, fun i hi => by rw [u1_ne (by decide), u1_ne (by decide), u1_ne (by decide)]; exact g i hi, ⟨fun q hq => by rw [u1_ne (by decide)]; exact wx.1 q hq, fun q hq => by rw [u1_ne (by decide)]; exact wx.2.1 q hq, by rw [u1_ne (by decide)]; exact wx.2.2⟩, fun q hq => by rw [u1_ne (by decide)]; exact wm q hq, ⟨fun k hk => ?_, fun k hk => ?_⟩⟩
  · obtain ⟨z, l, q⟩ := nm.1 k hk
    exact ⟨z, l, q.fr (by rw [u1_ne (by decide)]) (fun j _ => by rw [u1_ne (by decide)])⟩
  · obtain ⟨z, l, q⟩ := nm.2 k hk
    exact ⟨z, l, q.fr (by rw [u1_ne (by decide)]) (fun j _ => by rw [u1_ne (by decide)])⟩
theorem PlR.r36 {P : SS} {u : Nat → Int} {rl r : Int} {X M : Mm} (h : PlR P u rl X M) : PlR P (uw u 36 r) rl (u1 X 24 2 (iI r)) (u1 M 11 36 (iI r)) := by
  obtain ⟨⟨a1, a2, a3⟩, ⟨b1, b2, b3⟩, ⟨c1, c2, c3⟩, d, e, f, g, wx, wm, nm⟩ := h
  refine ⟨⟨by rw [u1_ne (by decide)]; exact a1, by rw [u1_ne (by decide)]; exact a2, by rw [u1_ne (by decide)]; exact a3⟩, ⟨by rw [u1_ne (by decide)]; exact b1, by rw [u1_ne (by decide)]; exact b2, by rw [u1_ne (by decide)]; exact b3⟩, ⟨by rw [u1_ne (by decide)]; exact c1, by rw [u1_ne (by decide)]; exact c2, c3⟩, fun b hb => by rw [u1_ne (by decide), u1_ne (by decide), u1_ne (by decide)]; exact d b hb, fun b hb => by rw [u1_ne (by decide), u1_ne (by decide), u1_ne (by decide)]; exact e b hb, fun i hi => by rw [u1_ne (by decide), u1_ne (by decide), u1_ne (by decide)]; exact f i hi, fun i hi => by rw [u1_ne (by decide), u1_ne (by decide), u1_ne (by decide)]; exact g i hi, ⟨fun q hq => by rw [u1_ne (by decide), uw_ne (by omega)]; exact wx.1 q hq, fun q hq => by rw [u1_ne (by decide), uw_ne (by omega)]; exact wx.2.1 q hq, by rw [u1_self, uw_eq]⟩, fun q hq => ?_, ⟨fun k hk => ?_, fun k hk => ?_⟩⟩
  · by_cases e : q = 36
    · rw [e, u1_self, uw_eq]
    · rw [u1_s _ _ _ _ e, uw_ne e]; exact wm q hq
  · obtain ⟨z, l, q⟩ := nm.1 k hk
    exact ⟨z, l, q.fr (by rw [u1_ne (by decide)]) (fun j _ => by rw [u1_ne (by decide)])⟩
  · obtain ⟨z, l, q⟩ := nm.2 k hk
    exact ⟨z, l, q.fr (by rw [u1_ne (by decide)]) (fun j _ => by rw [u1_ne (by decide)])⟩
theorem OnH.put {M N : Mm} {i : Nat} {x : Int32} (h : OnH M N) : OnH (u1 M 11 i x) (u1 N 11 i x) := by
  refine ⟨fun q a => ?_, fun j a => by rw [u1_ne (by decide), u1_ne (by decide)]; exact h.2.1 j a, h.2.2⟩
  funext j
  rw [u1_at, u1_at, h.1 q a]
theorem Ln_rule {T : Nat → Int} {n c i : Nat} {P : SS} {u : Nat → Int} {rl : Int} {X M : Mm} (h : Tk T n c i X M) (hp : PlR P u rl X M) (ok : PlOk P u) : LnR T n c i X M (f_R_readRule_14 X) (f_M_readRule_0 M) := by
  obtain ⟨-, -, ⟨c1, c2, c3⟩, -⟩ := id hp
  have n1m : ¬ ((0 : Int32) = -1) := by decide
  rcases c3 with rfl | rfl
  · have hp1 := hp.r3
    have h1 := h.r3 1 1
    obtain ⟨j, X2, M2, s1, s2, s3, s4, s5, s6, -⟩ := h1.step
    have hp2 := hp1.s s4 s5
    have wx2 : WX X X2 := (show WX X (u1 X 14 3 1) from fun q a => u1_ne (by omega)).tr s4.w
    have wm2 : WM M M2 := (WM.rf.u (by omega)).tr s5.w
    unfold f_R_readRule_14 f_M_readRule_0 j_M_readRule_0_12
    rw [c1, c2, if_pos l0.symm, if_pos l0.symm, Option.bind_some, Option.bind_some, s2, Option.bind_some, s1, Option.bind_some, Option.bind_some, Option.bind_some, Option.bind_some]
    have good : ∀ r : Int, 0 ≤ r → r ≤ 2 → LnR T n c i X M ((f_R_step_14 (u1 X2 24 2 (iI r))).bind fun M17 => some (1, M17)) (j_M_readRule_0_61 (iI r) M2) := by
      intro r r0 r2
      left
      have h3 : Tk T n c j (u1 X2 24 2 (iI r)) M2 := s3.fr (fun q hq => u1_ne (by omega)) rfl (fun _ _ _ => rfl) rfl
      obtain ⟨j3, Y, N, y1, y2, y3, y4, y5, y6, -⟩ := h3.step
      have f7 : N.1 0 7 = 0 := y3.2.2.2.2.2.2.2.2
      have w36 : wr N 11 37 36 (iI r) = some (u1 N 11 36 (iI r)) := by rw [show (36 : Int32) = iI 36 from rfl, wr_iI (by omega) (by omega) (by omega)]; rfl
      refine ⟨j3, P, uw u 36 r, 1, Y, u1 N 11 36 (iI r), by rw [y1, Option.bind_some], ?_, y3.fr (fun _ _ => rfl) (u1_ne (by decide)) (fun i _ _ => by rw [u1_ne (by decide)]) rfl, (hp2.r36).s y4 y5.put, ?_, (wx2.u (by decide) (by decide)).tr y4.w, (wm2.tr y5.w).u (Or.inl rfl), by omega⟩
      · unfold j_M_readRule_0_61 j_M_readRule_0_72
        rw [if_neg (by rw [lm1, iI_eq (by omega) (by omega) (by omega) (by omega)]; omega), y2, Option.bind_some, f7, if_pos rfl, w36, Option.bind_some]
      · obtain ⟨o1, o2, o3, o4, o5, o6, o7, o8, o9⟩ := ok
        refine ⟨o1, o2, o3, o4, o5, o6, o7, ⟨fun b k hb hk => ?_, by rw [uw_eq]; exact ⟨r0, r2⟩⟩, fun b k hb hk hn => ?_⟩
        · rw [uw_ne (by omega), uw_ne (by omega)]; exact o8.1 b k hb hk
        · rw [uw_ne (by omega), uw_ne (by omega)]; exact o9 b k hb hk hn
    rcases s3.isw (w := 9) (by omega) with ⟨-, e1, e2⟩ | ⟨-, e1, e2⟩
    · have e1' : f_R_isWord_14 9 X2 = some 1 := e1; have e2' : f_M_isWord_0 10 M2 = some 1 := e2
      rw [e1', e2', Option.bind_some, Option.bind_some, if_neg n10, if_neg n10]
      exact good 0 (by omega) (by omega)
    · have e1' : f_R_isWord_14 9 X2 = some 0 := e1; have e2' : f_M_isWord_0 10 M2 = some 0 := e2
      rw [e1', e2', Option.bind_some, Option.bind_some, if_pos rfl, if_pos rfl]
      rcases s3.isw (w := 10) (by omega) with ⟨-, e1, e2⟩ | ⟨-, e1, e2⟩
      · have e1' : f_R_isWord_14 10 X2 = some 1 := e1; have e2' : f_M_isWord_0 11 M2 = some 1 := e2
        rw [e1', e2', Option.bind_some, Option.bind_some, if_neg n10, if_neg n10]
        exact good 1 (by omega) (by omega)
      · have e1' : f_R_isWord_14 10 X2 = some 0 := e1; have e2' : f_M_isWord_0 11 M2 = some 0 := e2
        rw [e1', e2', Option.bind_some, Option.bind_some, if_pos rfl, if_pos rfl]
        rcases s3.isw (w := 11) (by omega) with ⟨-, e1, e2⟩ | ⟨-, e1, e2⟩
        · have e1' : f_R_isWord_14 11 X2 = some 1 := e1; have e2' : f_M_isWord_0 12 M2 = some 1 := e2
          rw [e1', e2', Option.bind_some, Option.bind_some, if_neg n10, if_neg n10]
          exact good 2 (by omega) (by omega)
        · have e1' : f_R_isWord_14 11 X2 = some 0 := e1; have e2' : f_M_isWord_0 12 M2 = some 0 := e2
          rw [e1', e2', Option.bind_some, Option.bind_some, if_pos rfl, if_pos rfl]
          right
          obtain ⟨Y, N, y1, y2, y3, y4, y5⟩ := s3.blame 1 (by omega) (by omega)
          rw [← l1] at y1 y2
          unfold j_M_readRule_0_61 j_M_readRule_0_72
          rw [y1, Option.bind_some, zr_0, Option.bind_some, if_pos rfl, y2, Option.bind_some, y3.m.goOn, Option.bind_some, if_neg y3.m.c.2]
          exact ⟨Y, N, rfl, rfl, y3, wx2.tr y4.w, wm2.tr y5.w⟩
  · right
    obtain ⟨Y, N, y1, y2, y3, y4, y5⟩ := h.blame 3 (by omega) (by omega)
    rw [← l3] at y1 y2
    have hF : FM (u1 N 0 29 1) := by
      obtain ⟨v, a, b, d⟩ := y3.m
      exact ⟨v, a, b, by rw [u1_s _ _ _ _ (by decide)]; exact d⟩
    unfold f_R_readRule_14 f_M_readRule_0 j_M_readRule_0_12 j_M_readRule_0_61 j_M_readRule_0_72
    have c10 : ¬ (iI 1 = 0) := by rw [← l1]; exact n10
    rw [c1, c2, if_neg c10, if_neg c10, y1, y2, Option.bind_some, Option.bind_some, zr_0, Option.bind_some, Option.bind_some, hF.goOn, Option.bind_some, hF.isw, Option.bind_some, if_pos rfl, hF.isw, Option.bind_some, if_pos rfl, hF.isw, Option.bind_some, if_pos rfl, if_pos rfl, hF.flaw, Option.bind_some, hF.goOn, Option.bind_some, if_neg hF.c.2]
    refine ⟨Y, u1 N 0 29 1, rfl, rfl, ?_, y4.w, y5.w.u (by omega)⟩
    obtain ⟨v, i2, a1, a2, a3, a4, a5, a6, a7, a8⟩ := y3
    exact ⟨v, i2, a1, a2, a3, by rw [u1_s _ _ _ _ (by decide)]; exact a4, a5, a6, by rw [u1_s _ _ _ _ (by decide)]; exact a7, a8⟩
/-! signs -/
theorem sr_34 {T : Nat → Int} {n s : Nat} : (srS T n s = 3 → T s = 59) ∧ (srS T n s = 4 → T s = 44) := by
  unfold srS
  refine ⟨fun h => ?_, fun h => ?_⟩
  · split at h
    · split at h
      · split at h <;> omega
      · split at h
        · split at h <;> omega
        · split at h
          · assumption
          · split at h <;> omega
    · omega
  · split at h
    · split at h
      · split at h <;> omega
      · split at h
        · split at h <;> omega
        · split at h
          · omega
          · split at h
            · assumption
            · omega
    · omega
theorem Tk.sign {T : Nat → Int} {n c i : Nat} {X M : Mm} (h : Tk T n c i X M) : (f_M_isSign_0 59 M = some (if srS T n (sqS T n i) = 3 then 1 else 0)) ∧ (f_M_isSign_0 44 M = some (if srS T n (sqS T n i) = 4 then 1 else 0)) := by
  have sb := sr_b (T := T) (n := n) (s := sqS T n i)
  have h9 : M.1 0 7 = 0 := h.2.2.2.2.2.2.2.2
  have t9 : M.1 0 9 = iI (tkM (srS T n (sqS T n i))) := h.2.2.2.2.2.2.2.1.2.2.2.1
  have t4 := (tk_2 sb.1 sb.2.1).2.2.1
  have sg := h.2.2.2.2.2.2.2.1.2.2.2.2.2.2
  have d := sr_34 (T := T) (n := n) (s := sqS T n i)
  have hd : ∀ v : Int32, f_M_isSign_0 v M = if srS T n (sqS T n i) = 3 ∨ srS T n (sqS T n i) = 4 then (if iI (T (sqS T n i)) = v then some 1 else some 0) else some 0 := fun v => by
    unfold f_M_isSign_0
    rw [h9, if_pos rfl, t9]
    by_cases e : srS T n (sqS T n i) = 3 ∨ srS T n (sqS T n i) = 4
    · rw [if_pos (t4.mpr e), if_pos e, sg e]
    · rw [if_neg (fun q => e (t4.mp q)), if_neg e]
  rw [hd, hd]
  by_cases e3 : srS T n (sqS T n i) = 3
  · rw [e3, d.1 e3]
    exact ⟨rfl, rfl⟩
  · by_cases e4 : srS T n (sqS T n i) = 4
    · rw [e4, d.2 e4]
      exact ⟨rfl, rfl⟩
    · have ne : ¬ (srS T n (sqS T n i) = 3 ∨ srS T n (sqS T n i) = 4) := by omega
      refine ⟨?_, ?_⟩
      · rw [if_neg ne, if_neg e3]
      · rw [if_neg ne, if_neg e4]

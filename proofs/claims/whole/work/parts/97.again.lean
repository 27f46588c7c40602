theorem ta_cl : Cond.classLink RX4 84 RX8 ∈ TB := tbv (tt4 (List.mem_of_getElem? (i := 142) (by decide +kernel))) rfl
theorem ta_in : Cond.instantiable RX8 3 ∈ TB := tbv (tt4 (List.mem_of_getElem? (i := 143) (by decide +kernel))) rfl
theorem ta_it : Cond.initialized RX8 ∈ TB := tbv (tt1 (List.mem_of_getElem? (i := 18) (by decide +kernel))) rfl
theorem ta_ml : Cond.methodLink RX4 86 yX8_init ∈ TB := tbv (tt4 (List.mem_of_getElem? (i := 144) (by decide +kernel))) rfl
theorem ta_im : Cond.instanceMethod yX8_init ∈ TB := tbv (tt4 (List.mem_of_getElem? (i := 145) (by decide +kernel))) rfl
theorem ta_co : Cond.code yX8_init cX8_init 1 none ∈ TB := tbv (tt4 (List.mem_of_getElem? (i := 146) (by decide +kernel))) rfl
/-! comesAgain when no trace was made yet -/
def Zr (X : Mm) : Mm := (fun k => if 103 ≤ k then fun _ => 0 else X.1 k, fun k => if 103 ≤ k then fun _ => 0 else X.2 k)
def TrOk (T : List Sk) (tr : Value) (ad : Nat → Nat) : Prop := (T = [] ∧ tr = .null) ∨ (T = SKT ++ [] ∧ tr = .ref (ad 103))
abbrev CnS : Type := List Sk × Value × (Nat → Nat)
def CnB (E : En) (X' : Mm) (w0 : va_W) (sz : Nat) (u : CnS) (t : State) : Prop := va_P E.2.2.2.1 vwCl (wE (SKX ++ u.1) (EX E u.2.2 u.2.1) X') t.heap ∧ va_D (va_A w0 sz) (wE (SKX ++ u.1) (EX E u.2.2 u.2.1) X')
def CnQ (E : En) (ad : Nat → Nat) (r0 : Int32) (X' : Mm) (w0 : va_W) (sz : Nat) : Array Value → State → Outcome → State → Prop :=
  va_Qi (fun r (u : CnS) => r = r0 ∧ TrOk u.1 u.2.1 u.2.2 ∧ ∀ k, k < 103 → u.2.2 k = ad k) (CnB E X' w0 sz) (va_A w0 sz)
def CnP (E : En) (ad : Nat → Nat) (X : Mm) (sz : Nat) (U : State) : Prop := CtP (SKX ++ []) (EX E ad .null) X sz U ∧ va_AO "PullCards$Image" U
def Cn (l : Launch) (E : En) (ad : Nat → Nat) (y : MethodName) (cc : ByteArray) (nL fr lo : Nat) (as : List Value) (X : Mm) (r : Int32) (X' : Mm) : Prop :=
  ∀ sz, Met l y (Cond.code y cc nL (some .int) :: TB) { frames := fr, cells := 4, slots := 13027, locals := lo } (va_Pc as (CnP E ad X sz)) (CnQ E ad r X' (wE (SKX ++ []) (EX E ad .null) X) sz) 4 13027 (va_A (wE (SKX ++ []) (EX E ad .null) X) sz)
def XFc (E : En) (ad : Nat → Nat) (r : Int32) (X' : Mm) : XFt := fun s args below _ A Q => strE E A s s.heap ∧ ∃ w0, A = va_A w0 s.heap.size ∧ Q = MQ below (CnQ E ad r X' w0 s.heap.size) args s 4 13027 A
theorem xfc_E {E : En} {ad : Nat → Nat} {r : Int32} {X' : Mm} : ∀ s args below meth A Q, XFc E ad r X' s args below meth A Q → strE E A s s.heap := fun _ _ _ _ _ _ h => h.1
section CN
variable {l : Launch} {E : En} {ad : Nat → Nat} {G : Nat → List (Nat × Value) → List Value → NW → Prop} {nL : Nat} {own : String} {cc : ByteArray} {ret : Option FieldType} {R : Room} {XF : XFt}
variable {pc : Nat} {lv : List (Nat × Value)} {st : List Value} {w : NW} {X X' : Mm} {r : Int32}
theorem cn_of {y : MethodName} {fr lo : Nat} {as : List Value} (hy : plainName y.cls = true) (hn : (lg_sl as).length ≤ nL)
    (body : ∀ G, NX l E y.cls cc nL (some .int) { frames := fr, cells := 4, slots := 13027, locals := lo } (XFc E ad r X') G → G 0 (lv_args 0 as) [] (wE (SKX ++ []) (EX E ad .null) X, 0, 0)) : Cn l E ad y cc nL fr lo as X r X' := by
  intro sz
  refine Met.ofW (cc := cc) (maxL := nL) (ret := some .int) hy rfl ?_
  intro p e s m args below meth c s₁ B hml hv
  obtain ⟨rfl, ⟨hsz, ⟨hP, hK⟩, hD0, hE⟩, hO⟩ := hv
  have hts := atoms_spec (ws := Cond.code y cc nL (some .int) :: TB) B.pre
  have hown : s.vm.findClass y.cls = some m.cls := findClass_of_methodNamed B.named
  subst hsz
  have hD := hD0.self (sz := s.heap.size)
  have hb := body _ ⟨p, e, s, m, as.toArray, below, meth, c, va_A (wE (SKX ++ []) (EX E ad .null) X) s.heap.size, _, B.exec, B.bytes, hml, B.returns, B.notSynchronized, hown, fun w hw => hts w (List.mem_cons_of_mem _ hw), hK, fun q h => Or.inr h, hO, ⟨hE, _, rfl, rfl⟩, rfl⟩
  rw [lg_entry_eq]
  exact hb s.heap [] hP hD va_S.rf _ (lv_entry as hn)
theorem nx_cnret (h : NX l E own cc nL (some .int) R (XFc E ad r X') G) {T : List Sk} {tr : Value} {ad2 : Nat → Nat} {k n : Nat} (hT : TrOk T tr ad2) (ha : ∀ k, k < 103 → ad2 k = ad k) (hk : k ≤ 4 ∧ n ≤ 13027) (d : decode cc pc = .ok (.ireturn, 1)) : G pc lv [.int r] (wE (SKX ++ T) (EX E ad2 tr) X' ++ [], k, n) := by
  refine nx_widen h hk.1 hk.2 ?_
  obtain ⟨p, e, s, m, args, below, meth, c, A, Q, hx, hb, hml, hr, hlo, hown, hts, hK, hA, hO, ⟨hE, w0, rfl, rfl⟩, rfl⟩ := h
  intro H locs hP hD hS ls hl
  rw [List.append_nil] at hP hD
  exact W.iret hx hb hr (fun t ht hW => ⟨⟨r, (T, tr, ad2), rfl, ⟨rfl, hT, ha⟩, by rw [ht]; exact hP, hD⟩, hS.F ht⟩) hS.2.2 d
theorem CnP_blind {sz : Nat} {as : List Value} : FrameBlind (va_Pc as (CnP E ad X sz)) := by
  intro a U g mk q
  obtain ⟨q0, q1, q2⟩ := q
  have h := CtP_blind (SK := SKX ++ []) (E := EX E ad .null) (M := X) (sz := sz) (as := as) a U g mk ⟨q0, q1⟩
  exact ⟨h.1, h.2, va_AO.moved (u := U) (U := U.calling g mk a) (Vm.Alike.refl U.vm) q2⟩
/-- a call by Cn -/
theorem nx_cN (h : NX l E own cc nL ret R XF G) (hXE : ∀ s args below meth A Q, XF s args below meth A Q → strE E A s s.heap) {wb : va_W} {y : MethodName} {yc : ByteArray} {nL2 fr lo index k n k2 n2 a ci q0 N : Nat} {As stk : List Value} {e9 : Sk} {fs : List Value} {T : u_T}
    (hct : Cn l E ad y yc nL2 fr lo (.ref a :: As) X r X') (ha : ad q0 = a) (hs : (SKX ++ [])[q0]? = some e9) (he : e9 E.1 ad .null (X.1 q0) (X.2 q0) = .inr (ci, fs)) (hcl : vwCl[ci]? = some (y.cls, T, N))
    (hw : CWV own index y yc nL2 (some .int) As.length) (hR : fr + 1 ≤ R.frames ∧ 8 + (nL2 + 11) + lo ≤ R.locals) (hk : k + 4 = k2) (hn : n + 13027 = n2) (hkn : k2 ≤ R.cells ∧ n2 ≤ R.slots)
    (hst : stk = As.reverse ++ .ref a :: st) (hrm : (st.map fun v => v.category).sum ≤ 8) (d : decode cc pc = .ok (.invokevirtual index, 3))
    (kk : ∀ T tr ad2, TrOk T tr ad2 → (∀ k, k < 103 → ad2 k = ad k) → G (pc + 3) lv (.int r :: st) (wE (SKX ++ T) (EX E ad2 tr) X' ++ wb, k2, n2)) : G pc lv stk (wE (SKX ++ []) (EX E ad .null) X ++ wb, k, n) := by
  subst ha hk hn
  obtain ⟨p, e, s, m, args, below, meth, c, A, Q, hx, hb, hml, hr, hlo, hown, hts, hK, hA, hO, hXF, rfl⟩ := h
  have hE := hXE _ _ _ _ _ _ hXF
  intro H locs hP hD hS ls hl
  obtain ⟨w1, w2, w3, w4, w5, w6⟩ := hw
  have hP0 : va_P E.2.2.2.1 vwCl ([] ++ (wE (SKX ++ []) (EX E ad .null) X ++ wb)) H := hP
  have hD0 : va_D A ([] ++ (wE (SKX ++ []) (EX E ad .null) X ++ wb)) := hD
  have hPc := hP0.spl.2.spl.1
  have hDc := hD0.spl.2.1.spl.1
  have hF := wfree hDc hS hA
  refine va_calli (va_runV (As := As) (rest := st) (b := ad q0) (C := y.cls) (g := F0 m pc ls stk) ⟨hx, hb, hml, hown, hts⟩ (hct H.size) ⟨callB_of As.length hts (TB_in w1) rfl rfl rfl (hts _ w5) (hts _ w2) w6 hR, hts _ w3, hts _ w4⟩ ⟨CnP_blind, va_recv hK hPc hcl ((wE_get (EX E ad .null) X hs).trans (congrArg (fun z => some (ad q0, z)) he)), fun U hU hW => ⟨rfl, ⟨by rw [hU], ⟨by rw [hU]; exact hPc, va_K.moved hW.alike hK⟩, hDc.weaken (fun _ _ _ _ => trivial), strE_use (E := EX E ad .null) hE hS hW hU hF⟩, va_AO.moved hW.alike hO⟩⟩ rfl rfl hl.1 hst (lv_room hrm) d ⟨hkn.1, hkn.2⟩) hS (fun q _ h => hF q h) hF (fun r2 u t H1 locs1 ht hvm hp hB hz1 hk1 hS1 => ?_)
  obtain ⟨T2, tr2, ad2⟩ := u
  obtain ⟨rfl, hT, hq⟩ := hp
  obtain ⟨hP1, hD1⟩ := hB
  rw [ht] at hP1
  obtain ⟨hP2, hD2⟩ := join3 hP0 hD0 hk1 hF hP1 hD1
  exact kk T2 tr2 ad2 hT hq H1 locs1 hP2 hD2 hS1 ls hl
end CN
def ad2 (ad : Nat → Nat) (q : Nat) (f : Nat → Nat) : Nat → Nat := fun k => if k < 103 then ad k else if k = 103 then q else f (k - 104)
set_option maxRecDepth 20000 in
theorem w_again (E : En) (ad : Nat → Nat) (q : Nat) (f : Nat → Nat) (X : Mm) : (wE (SKX ++ []) (EX E ad .null) (Zr X) ++ WX8 E q f).set 48 (ad 48, .inr (4, [.ref (ad 2), .ref (ad 32), .ref (ad 49), .ref (ad 52), .ref q, .int (X.1 48 5)])) = wE (SKX ++ (SKT ++ [])) (EX E (ad2 ad q f) (.ref q)) (Zr X) := rfl
theorem c_Q_firstAgain_null (l : Launch) (E : En) (ad : Nat → Nat) (p0 : Int32) {X X' : Mm} {r : Int32} (hf : j_Q_firstAgain_48_18 p0 (Zr X) = some (r, X')) : Cn l E ad yX4_firstAgain cX4_firstAgain 3 4 93 [.ref (ad 48), .int p0] (Zr X) r X' := by
  refine cn_of (by decide +kernel) (Nat.le_of_ble_eq_true rfl) (fun G h => ?_)
  show G 0 [(0, .ref (ad 48)), (1, .int p0)] [] _
  refine nx_aload_n h dX4_firstAgain_0 0 rfl ?_
  refine nx_getW (C := RX4) (T := TX4) (N := 6) (v := .null) h 48 4 (wE_get (EX E ad .null) (Zr X) (skX48 [])) inT4 rfl (Nat.le_of_ble_eq_true rfl) q_387 rfl rfl dX4_firstAgain_1 ?_
  refine nx_ifnn0 h dX4_firstAgain_4 ?_
  refine nx_aload_n h dX4_firstAgain_7 0 rfl ?_
  refine nx_newW (C := RX8) (T := TX8) (N := 3) (ci := 8) (k2 := 1) (n2 := 3) (fs := dflX8) h tyX8 inT8 tyX8_ok ta_cl ta_in ta_it rfl dfX8 rfl rfl ⟨Nat.le_of_ble_eq_true rfl, Nat.le_of_ble_eq_true rfl⟩ dX4_firstAgain_8 (fun q => ?_)
  refine nx_dup h dX4_firstAgain_11 rfl ?_
  refine nx_ctorW (k2 := 4) (n2 := 13027) (As := []) h (cX8_ci l E q) ta_co ta_ml ta_im ta_it rfl cdX8 ⟨by decide, by decide⟩ rfl (Nat.le_of_ble_eq_true rfl) rfl rfl ⟨Nat.le_of_ble_eq_true rfl, Nat.le_of_ble_eq_true rfl⟩ dX4_firstAgain_12 (fun f => ?_)
  refine nx_putW (C := RX4) (T := TX4) (N := 6) (ci := 4) (w2 := wE (SKX ++ (SKT ++ [])) (EX E (ad2 ad q f) (.ref q)) (Zr X)) (fs := [.ref (ad 2), .ref (ad 32), .ref (ad 49), .ref (ad 52), .null, .int (X.1 48 5)]) h 48 4 rfl tyX4 inT4 tyX4_ok nmX4 rfl (Nat.le_of_ble_eq_true rfl) q_387 rfl rfl (tyX4_ok 4 (Nat.le_of_ble_eq_true rfl)) rfl rfl (Nat.le_of_ble_eq_true rfl) (w_again E ad q f X) dX4_firstAgain_15 ?_
  obtain ⟨p, e, s, m, args, below, meth, c, A, Q, hx, hb, hml, hr, hlo, hown, hts, hK, hA, hO, ⟨hE, w0, rfl, rfl⟩, rfl⟩ := h
  intro H locs hP hD hS ls hl
  have hb2 := Lj_Q_firstAgain_48_18 l (EX E (ad2 ad q f) (.ref q)) [] rfl (a0 := 4) (b0 := 13027) (kc := 4) (ks := 13027) (r := r) (M' := X') ⟨p, e, s, m, args, below, meth, c, va_A w0 s.heap.size, hx, hb, hml, hr, hlo, hown, hts, hK, wE_D hD, hA, hE, ⟨Nat.le_refl _, Nat.le_refl _⟩, rfl⟩ p0 (Zr X) hf H locs hP hS ls hl
  intro T hT hSt
  obtain ⟨t, a1, o, b1, b2, ⟨⟨hv, hp, hk⟩, hFr⟩, b4⟩ := hb2 T hT hSt
  exact ⟨t, a1, o, b1, b2, ⟨⟨r, (SKT ++ [], .ref q, ad2 ad q f), hv, ⟨rfl, Or.inr ⟨rfl, rfl⟩, fun k hk => if_pos hk⟩, hp, wE_D hD X'⟩, hFr⟩, b4⟩
theorem refPap {p : Int32} {X : Mm} {q : Int32 × Mm} (h : f_P_refusesPaper_0 p X = some q) (h0 : q.1 = 0) : q.2 = X := by
  unfold f_P_refusesPaper_0 f_P_refused_0 at h
  simp only [Option.bind_some] at h
  split at h
  · cases h; exact absurd h0 (show ¬ (1 : Int32) = 0 by decide)
  · split at h
    · cases h; exact absurd h0 (show ¬ (1 : Int32) = 0 by decide)
    · split at h
      · cases h; rfl
      · cases h; exact absurd h0 (show ¬ (1 : Int32) = 0 by decide)
theorem wEa {SK : List Sk} (E : En) (M : Mm) (wb : va_W) {k : Nat} {e : Sk} (h : SK[k]? = some e) : (wE SK E M ++ wb)[k]? = some (adr E k, e E.1 E.2.1 E.2.2.1 (M.1 k) (M.2 k)) := by
  have h1 := wE_get E M h
  rw [List.getElem?_append_left (List.getElem?_eq_some_iff.mp h1).1]
  exact h1
theorem c_P_comesAgain_null (l : Launch) (E : En) (ad : Nat → Nat) (p0 p1 : Int32) {X X' : Mm} {r : Int32} (hf : f_P_comesAgain_0 p0 p1 (Zr X) = some (r, X')) : Cn l E ad yX9_comesAgain cX9_comesAgain 4 5 115 [.ref (ad 0), .int p0, .int p1] (Zr X) r X' := by
  refine cn_of (by decide +kernel) (Nat.le_of_ble_eq_true rfl) (fun G h => ?_)
  show G 0 [(0, .ref (ad 0)), (1, .int p0), (2, .int p1)] [] _
  unfold f_P_comesAgain_0 at hf
  refine nx_re h (w2 := wE (SKX ++ []) (EX E ad .null) (Zr X) ++ []) (List.append_nil _).symm ?_
  have h0 : TrOk [] .null ad := Or.inl ⟨rfl, rfl⟩
  have kC : 0 ≤ 4 ∧ 0 ≤ 13027 := ⟨Nat.zero_le _, Nat.zero_le _⟩
  refine nx_aload_n h dX9_comesAgain_0 0 rfl ?_
  refine nx_getW (C := RX9) (T := TX9) (N := 13) (v := .int ((Zr X).1 0 9)) h 0 9 (wEa (EX E ad .null) (Zr X) [] (skX0 [])) inT9 rfl (Nat.le_of_ble_eq_true rfl) q_452 rfl rfl dX9_comesAgain_1 ?_
  refine nx_if_eq h 15 dX9_comesAgain_4 rfl (fun c1 => ?_) (fun c1 => ?_)
  · have hf := ifT hf c1
    refine nx_aload_n h dX9_comesAgain_15 0 rfl ?_
    refine nx_iconst h 1 dX9_comesAgain_16 rfl ?_
    obtain ⟨q2, hq2, hf⟩ := bindE hf
    refine nx_cG h xfc_E (wa := []) (wb := []) (ci := 9) (T := TX9) (N := 13) (As := [.int 1]) (c_P_refused_0 l (EX E ad .null) [] 1 hq2) (skX0 []) rfl rfl kw_P_79 ⟨by decide, by decide⟩ kC rfl (Nat.le_of_ble_eq_true rfl) dX9_comesAgain_17 ?_
    cases hf
    exact nx_cnret h h0 (fun _ _ => rfl) kC dX9_comesAgain_20
  · have hf := ifF hf c1
    refine nx_iload_n h dX9_comesAgain_7 2 rfl ?_
    refine nx_iconst h 1 dX9_comesAgain_8 rfl ?_
    obtain ⟨v3, hv3, hf⟩ := bindE hf
    refine nx_cS (st := []) (ci := 0) (N := 0) h xfc_E (wa := []) (wb := []) (As := [.int p1, .int 1]) (c_P_within l (EX E ad .null) (SKX ++ []) p1 1 (M := Zr X) hv3) kw_P_128 ⟨by decide, by decide⟩ kC rfl (Nat.le_of_ble_eq_true rfl) dX9_comesAgain_9 ?_
    refine nx_if_ne h 21 dX9_comesAgain_12 rfl (fun c4 => ?_) (fun c4 => ?_)
    · have hf := ifF hf c4
      refine nx_aload_n h dX9_comesAgain_21 0 rfl ?_
      refine nx_iload_n h dX9_comesAgain_22 1 rfl ?_
      obtain ⟨q5, hq5, hf⟩ := bindE hf
      refine nx_cG h xfc_E (wa := []) (wb := []) (ci := 9) (T := TX9) (N := 13) (As := [.int p0]) (c_P_refusesPaper_0 l (EX E ad .null) [] p0 hq5) (skX0 []) rfl rfl kw_P_249 ⟨by decide, by decide⟩ kC rfl (Nat.le_of_ble_eq_true rfl) dX9_comesAgain_23 ?_
      refine nx_if_eq h 31 dX9_comesAgain_26 rfl (fun c6 => ?_) (fun c6 => ?_)
      · have hf := ifT hf c6
        have e5 : q5.2 = Zr X := refPap hq5 c6
        rw [e5] at hf ⊢
        refine nx_aload_n h dX9_comesAgain_31 0 rfl ?_
        refine nx_getW (C := RX9) (T := TX9) (N := 13) (v := .ref (ad 48)) h 0 5 (wEa (EX E ad .null) (Zr X) [] (skX0 [])) inT9 rfl (Nat.le_of_ble_eq_true rfl) q_448 rfl rfl dX9_comesAgain_32 ?_
        refine nx_iload_n h dX9_comesAgain_35 1 rfl ?_
        obtain ⟨⟨r7, X7⟩, hq7, hf⟩ := bindE hf
        refine nx_cN (k2 := 4) (n2 := 13027) (ci := 4) (T := TX4) (N := 6) (q0 := 48) (As := [.int p0]) h xfc_E (c_Q_firstAgain_null l E ad p0 hq7) rfl (skX48 []) rfl rfl kw_P_274 ⟨by decide, by decide⟩ rfl rfl ⟨Nat.le_refl _, Nat.le_refl _⟩ rfl (Nat.le_of_ble_eq_true rfl) dX9_comesAgain_36 (fun T tr an hT ha => ?_)
        rw [show ad 0 = an 0 from (ha 0 (by decide)).symm]
        have k4 : 4 ≤ 4 ∧ 13027 ≤ 13027 := ⟨Nat.le_refl _, Nat.le_refl _⟩
        refine nx_istore_n (lv2 := [(3, .int r7), (0, .ref (an 0)), (1, .int p0), (2, .int p1)]) h dX9_comesAgain_39 (Nat.le_of_ble_eq_true rfl) rfl ?_
        refine nx_aload_n h dX9_comesAgain_40 1 rfl ?_
        refine nx_iload_n h dX9_comesAgain_41 3 rfl ?_
        have fin : ∀ (v : Int32) (q9 : Int32 × Mm), f_P_granted_0 v X7 = some q9 → q9 = (r, X') → G 64 [(3, .int r7), (0, .ref (an 0)), (1, .int p0), (2, .int p1)] [.int v, .ref (an 0)] (wE (SKX ++ T) (EX E an tr) X7 ++ [], 4, 13027) := by
          intro v q9 hq9 e9
          subst e9
          refine nx_cG h xfc_E (wa := []) (wb := []) (ci := 9) (T := TX9) (N := 13) (As := [.int v]) (c_P_granted_0 l (EX E an tr) T v hq9) (skX0 T) rfl rfl kw_P_116 ⟨by decide, by decide⟩ k4 rfl (Nat.le_of_ble_eq_true rfl) dX9_comesAgain_64 ?_
          exact nx_cnret h hT ha k4 dX9_comesAgain_67
        refine nx_if_eq h 51 dX9_comesAgain_42 rfl (fun c8 => ?_) (fun c8 => ?_)
        · have hf := ifT hf c8
          refine nx_iload_n h dX9_comesAgain_51 0 rfl ?_
          refine nx_goto h 64 dX9_comesAgain_52 rfl ?_
          obtain ⟨q9, hq9, hf⟩ := bindE hf
          exact fin _ _ hq9 (Option.some.inj hf)
        · have hf := ifF hf c8
          refine nx_iload_n h dX9_comesAgain_45 0 rfl ?_
          refine nx_bipush h (-2) dX9_comesAgain_46 rfl ?_
          refine nx_icmp_ne h 55 dX9_comesAgain_48 rfl (fun c10 => ?_) (fun c10 => ?_)
          · have hf := ifF hf c10
            refine nx_iload_n h dX9_comesAgain_55 0 rfl ?_
            refine nx_aload_n h dX9_comesAgain_56 1 rfl ?_
            refine nx_getW (C := RX9) (T := TX9) (N := 13) (v := .ref (an 48)) h 0 5 (wEa (EX E an tr) X7 [] (skX0 T)) inT9 rfl (Nat.le_of_ble_eq_true rfl) q_448 rfl rfl dX9_comesAgain_57 ?_
            refine nx_getW (C := RX4) (T := TX4) (N := 6) (v := .int (X7.1 48 5)) h 48 5 (wEa (EX E an tr) X7 [] (skX48 T)) inT4 rfl (Nat.le_of_ble_eq_true rfl) q_389 rfl rfl dX9_comesAgain_60 ?_
            refine nx_isub h dX9_comesAgain_63 ?_
            obtain ⟨q9, hq9, hf⟩ := bindE hf
            exact fin _ _ hq9 (Option.some.inj hf)
          · have hf := ifT hf c10
            refine nx_iload_n h dX9_comesAgain_51 0 rfl ?_
            refine nx_goto h 64 dX9_comesAgain_52 rfl ?_
            obtain ⟨q9, hq9, hf⟩ := bindE hf
            exact fin _ _ hq9 (Option.some.inj hf)
      · have hf := ifF hf c6
        refine nx_iconst h (-1) dX9_comesAgain_29 rfl ?_
        cases hf
        exact nx_cnret h h0 (fun _ _ => rfl) kC dX9_comesAgain_30
    · have hf := ifT hf c4
      refine nx_aload_n h dX9_comesAgain_15 0 rfl ?_
      refine nx_iconst h 1 dX9_comesAgain_16 rfl ?_
      obtain ⟨q2, hq2, hf⟩ := bindE hf
      refine nx_cG h xfc_E (wa := []) (wb := []) (ci := 9) (T := TX9) (N := 13) (As := [.int 1]) (c_P_refused_0 l (EX E ad .null) [] 1 hq2) (skX0 []) rfl rfl kw_P_79 ⟨by decide, by decide⟩ kC rfl (Nat.le_of_ble_eq_true rfl) dX9_comesAgain_17 ?_
      cases hf
      exact nx_cnret h h0 (fun _ _ => rfl) kC dX9_comesAgain_20

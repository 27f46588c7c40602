/-! the law's own rules: its world is the class's cells, the reference's cells, and the array out -/
def XFl (E : En) (b L : Nat) (xs : Nat → Int32) : XFt := fun s args below _ A Q => args = #[Value.ref b] ∧ A = (fun q : Nat => s.heap.size ≤ q) ∧ Q = lw_Z below #[Value.ref b] s ∧ va_X b L xs s s.heap ∧ b < s.heap.size ∧ strE E A s s.heap
abbrev EX (E : En) (ad : Nat → Nat) (tr : Value) : En := (E.1, ad, tr, E.2.2.2)
def ou (E : En) (oa : Nat) (g : Nat → Int64) : Nat × va_E := (oa, .inl (E.1 3, 1, .inr (.inl g)))
def LW (E : En) (ad : Nat → Nat) (tr : Value) (T : List Sk) (X : Mm) (am : Nat → Nat) (M : Mm) (oa : Nat) (g : Nat → Int64) : va_W := wE (SKX ++ T) (EX E ad tr) X ++ (wE (SKM ++ []) (EX E am .null) M ++ [ou E oa g])
section LRULES
variable {l : Launch} {E : En} {b L : Nat} {xs : Nat → Int32} {G : Nat → List (Nat × Value) → List Value → NW → Prop} {nL : Nat} {own : String} {cc : ByteArray} {ret : Option FieldType} {R : Room}
variable {pc : Nat} {lv : List (Nat × Value)} {st : List Value} {w : NW}
theorem nx_sld (h : NX l E own cc nL ret R (XFl E b L xs) G) {i : Int32} (hin : vp_in i L) (d : decode cc pc = .ok (.iaload, 1)) (kk : G (pc + 1) lv (.int (xs i.toNatClampNeg) :: st) w) : G pc lv (.int i :: .ref b :: st) w := by
  obtain ⟨p, e, s, m, args, below, meth, c, A, Q, hx, hb, hml, hr, hlo, hown, hts, hK, hA, hO, ⟨rfl, rfl, rfl, hX, hbl, hE⟩, rfl⟩ := h
  exact fun H locs hP hD hS ls hl => va_sld hx hb hX hbl (Nat.not_le.mpr hbl) hS hin d (kk H locs hP hD hS ls hl)
theorem nx_slen (h : NX l E own cc nL ret R (XFl E b L xs) G) (d : decode cc pc = .ok (.arraylength, 1)) (kk : G (pc + 1) lv (.int (Int32.ofNat L) :: st) w) : G pc lv (.ref b :: st) w := by
  obtain ⟨p, e, s, m, args, below, meth, c, A, Q, hx, hb, hml, hr, hlo, hown, hts, hK, hA, hO, ⟨rfl, rfl, rfl, hX, hbl, hE⟩, rfl⟩ := h
  exact fun H locs hP hD hS ls hl => va_slen hx hb hX hbl (Nat.not_le.mpr hbl) hS d (kk H locs hP hD hS ls hl)
theorem nx_lend (h : NX l E own code nL (some .boolean) room_1 (XFl E b L xs) G) {w : va_W} (d : decode code pc = .ok (.ireturn, 1)) : G pc lv [.int 1] (w, 601024, 7293034) := by
  obtain ⟨p, e, s, m, args, below, meth, c, A, Q, hx, hb, hml, hr, hlo, hown, hts, hK, hA, hO, ⟨rfl, rfl, rfl, hX, hbl, hE⟩, rfl⟩ := h
  intro H locs hP hD hS ls hl
  refine va_forget hS.2.2 ?_
  exact lw_ret hx hb hr hlo d
theorem xfl_E : ∀ s args below meth A Q, XFl E b L xs s args below meth A Q → strE E A s s.heap := fun _ _ _ _ _ _ h => h.2.2.2.2.2
variable {XF : XFt}
/-- a call on the part wc of the world, by a contract Ct on it -/
theorem nx_cG (h : NX l E own cc nL ret R XF G) (hXE : ∀ s args below meth A Q, XF s args below meth A Q → strE E A s s.heap) {SK : List Sk} {ad : Nat → Nat} {tr : Value} {wa wb : va_W} {M : Mm} {y : MethodName} {yc : ByteArray} {nL2 fr lo ci N index k n : Nat} {ret2 : Option FieldType} {As stk : List Value} {M2 : Mm} {v2 : Option Value} {e9 : Sk} {fs : List Value} {T : u_T}
    (hct : Ct l SK (EX E ad tr) y yc nL2 ret2 fr lo (.ref (ad 0) :: As) M v2 M2) (hs : SK[0]? = some e9) (he : e9 E.1 ad tr (M.1 0) (M.2 0) = .inr (ci, fs)) (hcl : vwCl[ci]? = some (y.cls, T, N))
    (hw : CWV own index y yc nL2 ret2 As.length) (hR : fr + 1 ≤ R.frames ∧ 8 + (nL2 + 11) + lo ≤ R.locals) (hkn : k ≤ R.cells ∧ n ≤ R.slots)
    (hst : stk = As.reverse ++ .ref (ad 0) :: st) (hrm : (st.map fun v => v.category).sum ≤ 8) (d : decode cc pc = .ok (.invokevirtual index, 3)) (kk : G (pc + 3) lv (v2.toList ++ st) (wa ++ (wE SK (EX E ad tr) M2 ++ wb), k, n)) : G pc lv stk (wa ++ (wE SK (EX E ad tr) M ++ wb), k, n) := by
  obtain ⟨p, e, s, m, args, below, meth, c, A, Q, hx, hb, hml, hr, hlo, hown, hts, hK, hA, hO, hXF, rfl⟩ := h
  have hE := hXE _ _ _ _ _ _ hXF
  intro H locs hP hD hS ls hl
  obtain ⟨w1, w2, w3, w4, w5, w6⟩ := hw
  have hPc := (va_P.spl hP).2.spl.1
  have hDc := (va_D.spl hD).2.1.spl.1
  have hF := wfree hDc hS hA
  have hrun := va_runV (As := As) (rest := st) (b := ad 0) (C := y.cls) (g := F0 m pc ls stk) (locs := locs) (cells := k) (slots := n) (below := below) (meth := meth) (e := e) (R := R) ⟨hx, hb, hml, hown, hts⟩ (hct H.size) ⟨callB_of As.length hts (TB_in w1) rfl rfl rfl (hts _ w5) (hts _ w2) w6 hR, hts _ w3, hts _ w4⟩ ⟨CtP_blind, va_recv hK hPc hcl ((wE_get (EX E ad tr) M hs).trans (congrArg (fun z => some (ad 0, z)) he)), fun U hU hW => ⟨rfl, by rw [hU], ⟨by rw [hU]; exact hPc, va_K.moved hW.alike hK⟩, hDc.weaken (fun _ _ _ _ => trivial), strE_use (E := EX E ad tr) hE hS hW hU hF⟩⟩ rfl rfl hl.1 hst (lv_room hrm) d ⟨hkn.1, hkn.2⟩
  intro X0' hT X
  obtain ⟨w, st₀, t, T', Lc, h0, X', hL, e1, e2, ⟨⟨hv, hp, hb2⟩, hz, hk⟩, stp⟩ := hrun X0' hT X
  cases hv
  rw [h0] at hz hk
  obtain ⟨hP2, hD2⟩ := join3 hP hD (H1 := T'.heap) (w1 := wE SK (EX E ad tr) M2) (fun q h1 h2 => by rw [e1]; exact hk q h1 h2) hF (by rw [e1]; exact hp) (wE_D (va_D.self (sz := H.size) hDc) M2)
  obtain ⟨t2, a1, b1⟩ := kk T'.heap (locs ++ Lc) hP2 hD2
    ⟨Nat.le_trans hS.1 (by rw [e1]; exact hz), fun q h1 h2 => by rw [e1, hk q (Nat.lt_of_lt_of_le h1 hS.1) (fun z => h2 (hF q z))]; exact hS.2.1 q h1 h2, fun q hq => by
      rcases List.mem_append.mp hq with h | h
      · exact hS.2.2 q h
      · exact hF _ (hL q h)⟩ ls hl T' rfl X'
  exact ⟨t2, stp t2 a1, b1⟩
theorem nx_cS (h : NX l E own cc nL ret R XF G) (hXE : ∀ s args below meth A Q, XF s args below meth A Q → strE E A s s.heap) {SK : List Sk} {ad : Nat → Nat} {tr : Value} {wa wb : va_W} {M : Mm} {y : MethodName} {yc : ByteArray} {nL2 fr lo ci N index k n : Nat} {ret2 : Option FieldType} {As stk : List Value} {M2 : Mm} {v2 : Option Value}
    (hct : Ct l SK (EX E ad tr) y yc nL2 ret2 fr lo As M v2 M2)
    (hw : CWS own index y yc nL2 ret2 As.length) (hR : fr + 1 ≤ R.frames ∧ 8 + (nL2 + 11) + lo ≤ R.locals) (hkn : k ≤ R.cells ∧ n ≤ R.slots)
    (hst : stk = As.reverse ++ st) (hrm : (st.map fun v => v.category).sum ≤ 8) (d : decode cc pc = .ok (.invokestatic index, 3)) (kk : G (pc + 3) lv (v2.toList ++ st) (wa ++ (wE SK (EX E ad tr) M2 ++ wb), k, n)) : G pc lv stk (wa ++ (wE SK (EX E ad tr) M ++ wb), k, n) := by
  obtain ⟨p, e, s, m, args, below, meth, c, A, Q, hx, hb, hml, hr, hlo, hown, hts, hK, hA, hO, hXF, rfl⟩ := h
  have hE := hXE _ _ _ _ _ _ hXF
  intro H locs hP hD hS ls hl
  obtain ⟨w1, w2, w3, w5, w6⟩ := hw
  have hPc := (va_P.spl hP).2.spl.1
  have hDc := (va_D.spl hD).2.1.spl.1
  have hF := wfree hDc hS hA
  have hrun := va_runS (As := As) (rest := st) (g := F0 m pc ls stk) (locs := locs) (cells := k) (slots := n) (below := below) (meth := meth) (e := e) (R := R) ⟨hx, hb, hml, hown, hts⟩ (hct H.size) ⟨callB_of As.length hts (TB_in w1) rfl rfl rfl (hts _ w5) (hts _ w2) w6 hR, hts _ w3⟩ ⟨CtP_blind, fun U hU hW => ⟨rfl, by rw [hU], ⟨by rw [hU]; exact hPc, va_K.moved hW.alike hK⟩, hDc.weaken (fun _ _ _ _ => trivial), strE_use (E := EX E ad tr) hE hS hW hU hF⟩⟩ rfl rfl hl.1 hst (lv_room hrm) d ⟨hkn.1, hkn.2⟩
  intro X0' hT X
  obtain ⟨w, st₀, t, T', Lc, h0, X', hL, e1, e2, ⟨⟨hv, hp, hb2⟩, hz, hk⟩, stp⟩ := hrun X0' hT X
  cases hv
  rw [h0] at hz hk
  obtain ⟨hP2, hD2⟩ := join3 hP hD (H1 := T'.heap) (w1 := wE SK (EX E ad tr) M2) (fun q h1 h2 => by rw [e1]; exact hk q h1 h2) hF (by rw [e1]; exact hp) (wE_D (va_D.self (sz := H.size) hDc) M2)
  obtain ⟨t2, a1, b1⟩ := kk T'.heap (locs ++ Lc) hP2 hD2
    ⟨Nat.le_trans hS.1 (by rw [e1]; exact hz), fun q h1 h2 => by rw [e1, hk q (Nat.lt_of_lt_of_le h1 hS.1) (fun z => h2 (hF q z))]; exact hS.2.1 q h1 h2, fun q hq => by
      rcases List.mem_append.mp hq with h | h
      · exact hS.2.2 q h
      · exact hF _ (hL q h)⟩ ls hl T' rfl X'
  exact ⟨t2, stp t2 a1, b1⟩
theorem nx_ifnn0 (h : NX l E own cc nL ret R XF G) {off : Int} (d : decode cc pc = .ok (.ifnonnull off, 3)) (kk : G (pc + 3) lv st w) : G pc lv (.null :: st) w := by
  obtain ⟨p, e, s, m, args, below, meth, c, A, Q, hx, hb, hml, hr, hlo, hown, hts, hK, hA, hO, hX, rfl⟩ := h
  exact fun H locs hP hD hS ls hl => lv_ifnonnullN hx hb d (kk H locs hP hD hS ls hl)
theorem nx_getW (h : NX l E own cc nL ret R XF G) {ref C : String} {T : u_T} {N ci index a : Nat} {ws : va_W} {kn : Nat × Nat} {fs : List Value} {v : Value} (q0 j : Nat) (he : ws[q0]? = some (a, .inr (ci, fs))) (hin : ∀ w ∈ u_ws C T N, w ∈ TB) (hc : vwCl[ci]? = some (C, T, N)) (hj : j < N) (hw : Cond.fieldLink own index ref (T j).2.1 (T j).2.2.1 ∈ TB) (hsame : (T j).1 = ref) (hv : fs[j]? = some v) (d : decode cc pc = .ok (.getfield index, 3)) (kk : G (pc + 3) lv (v :: st) (ws, kn)) : G pc lv (.ref a :: st) (ws, kn) := by
  obtain ⟨p, e, s, m, args, below, meth, c, A, Q, hx, hb, hml, hr, hlo, hown, hts, hK, hA, hO, hX, rfl⟩ := h
  exact fun H locs hP hD hS ls hl => va_get hx hb hts hin hown hK hP q0 he hc j hj (hts _ hw) (fun x hx => by rw [← hsame]; exact hx) hv d (kk H locs hP hD hS ls hl)
theorem nx_putW (h : NX l E own cc nL ret R XF G) {ref C : String} {T : u_T} {N ci index a : Nat} {ws w2 : va_W} {kn : Nat × Nat} {fs : List Value} {v : Value} {ty : FieldType} (q0 j : Nat) (he : ws[q0]? = some (a, .inr (ci, fs))) (ty0 : Nat → FieldType) (hin : ∀ w ∈ u_ws C T N, w ∈ TB) (hty : ∀ k, k < N → parseFieldDescriptor (T k).2.2.1 = some (ty0 k)) (hnm : ∀ a, a < N → ∀ b, b < N → a ≠ b → (T a).2.1 ≠ (T b).2.1) (hc : vwCl[ci]? = some (C, T, N)) (hj : j < N) (hw : Cond.fieldLink own index ref (T j).2.1 (T j).2.2.1 ∈ TB) (hsame : (T j).1 = ref) (hfin : (T j).2.2.2 = false) (hd : parseFieldDescriptor (T j).2.2.1 = some ty) (hnw : narrow ty v = v) (hfit : fits ty v = true) (hl0 : j < fs.length) (hw2 : ws.set q0 (a, .inr (ci, fs.set j v)) = w2) (d : decode cc pc = .ok (.putfield index, 3)) (kk : G (pc + 3) lv st (w2, kn)) : G pc lv (v :: .ref a :: st) (ws, kn) := by
  obtain ⟨p, e, s, m, args, below, meth, c, A, Q, hx, hb, hml, hr, hlo, hown, hts, hK, hA, hO, hX, rfl⟩ := h
  subst hw2
  exact fun H locs hP hD hS ls hl => va_put hx hb hts hin ty0 hty hnm hown hK hP hD hS q0 he hc j hj (hts _ hw) (fun x hx => by rw [← hsame]; exact hx) hfin hd hnw hfit hl0 d (fun H1 locs1 hP hD hS => kk H1 locs1 hP hD hS ls hl)
theorem nx_newW (h : NX l E own cc nL ret R XF G) {C : String} {T : u_T} {N ci index : Nat} {ws : va_W} {k n k2 n2 : Nat} (ty : Nat → FieldType) {fs : List Value} (hin : ∀ w ∈ u_ws C T N, w ∈ TB) (hty : ∀ k, k < N → parseFieldDescriptor (T k).2.2.1 = some (ty k)) (hw1 : Cond.classLink own index C ∈ TB) (hw2 : Cond.instantiable C N ∈ TB) (hw3 : Cond.initialized C ∈ TB) (hc : vwCl[ci]? = some (C, T, N)) (hfs : ∀ j, j < N → defaultValue (ty j) = vp_V fs j) (hk : k + 1 = k2) (hn : n + N = n2) (hR : k2 ≤ R.cells ∧ n2 ≤ R.slots) (d : decode cc pc = .ok (.new index, 3)) (kk : ∀ q : Nat, G (pc + 3) lv (.ref q :: st) (ws ++ [(q, .inr (ci, fs))], k2, n2)) : G pc lv st (ws, k, n) := by
  obtain ⟨p, e, s, m, args, below, meth, c, A, Q, hx, hb, hml, hr, hlo, hown, hts, hK, hA, hO, hX, rfl⟩ := h
  subst hk hn
  exact fun H locs hP hD hS ls hl => va_new hx hb hts hin ty hty hown (hts _ hw1) (hts _ hw2) (hts _ hw3) hK hP hD hS hA hc hfs hR.1 hR.2 d (fun q H1 hP hD hS => kk q H1 locs hP hD hS ls hl)
theorem nx_newaW (h : NX l E own cc nL ret R XF G) {atype : ArrayType} {ty : FieldType} {x : Int32} {N i : Nat} {a0 : vp_A} {ws : va_W} {k n k2 n2 : Nat} (hw : Cond.arrayClass (newarray.typeOf atype) ∈ TB) (hty : newarray.typeOf atype = ty) (hi : (tysE E)[i]? = some (E.1 i, ty)) (ha : ∀ cA : ClassId, vp_cell cA a0 = arrV cA N (fun _ => defaultValue ty)) (h0 : ¬ x < 0) (hN : x.toNatClampNeg = N) (hby : N * componentBytes ty ≤ 536870912) (hk : k + 1 = k2) (hn : n + N = n2) (hR : k2 ≤ R.cells ∧ n2 ≤ R.slots) (d : decode cc pc = .ok (.newarray atype, 2)) (kk : ∀ q : Nat, G (pc + 2) lv (.ref q :: st) (ws ++ [(q, .inl (E.1 i, a0))], k2, n2)) : G pc lv (.int x :: st) (ws, k, n) := by
  obtain ⟨p, e, s, m, args, below, meth, c, A, Q, hx, hb, hml, hr, hlo, hown, hts, hK, hA, hO, hX, rfl⟩ := h
  subst hk hn
  refine fun H locs hP hD hS ls hl => va_newa hx hb (hts _ hw) hty hK hP hD hS hA ha h0 hN hby hR.1 hR.2 d (fun q cA H1 hK2 hP hD hS => ?_)
  have hc : cA = E.1 i := ra_eq (hK2.2 (tysE E).length (cA, ty) (by rw [List.getElem?_append_right (Nat.le_refl _), Nat.sub_self]; rfl)).2 (hK.2 i _ hi).2
  subst hc
  exact kk q H1 locs hP hD hS ls hl
theorem nx_ctorW (h : NX l E own cc nL ret R XF G) {y : MethodName} {yc : ByteArray} {nL2 fr lo kC kS index q : Nat} {x : va_E} {ws : va_W} {k n k2 n2 : Nat} {As stk : List Value} {Wf : (Nat → Nat) → va_W} (hct : Ci l E y yc nL2 fr lo kC kS [(q, x)] (.ref q :: As) Wf)
    (hcode : Cond.code y yc nL2 none ∈ TB) (hw1 : Cond.methodLink own index y ∈ TB) (hw2 : Cond.instanceMethod y ∈ TB) (hw4 : Cond.initialized y.cls ∈ TB) (hyn : y.name = "<init>")
    (hd : y.cls ≠ "java/lang/invoke/MethodHandle" ∧ y.cls ≠ "java/lang/invoke/VarHandle" ∧ (parseMethodDescriptor y.desc).map (fun d => d.parameters.length) = some As.length) (hRm : fr + 1 ≤ R.frames ∧ 8 + (nL2 + 11) + lo ≤ R.locals)
    (hst : stk = As.reverse ++ .ref q :: st) (hrm : (st.map fun v => v.category).sum ≤ 8) (hk : k + kC = k2) (hn : n + kS = n2) (hR : k2 ≤ R.cells ∧ n2 ≤ R.slots) (d : decode cc pc = .ok (.invokespecial index, 3)) (kk : ∀ f : Nat → Nat, G (pc + 3) lv st (ws ++ Wf f, k2, n2)) : G pc lv stk (ws ++ [(q, x)], k, n) := by
  obtain ⟨p, e, s, m, args, below, meth, c, A, Q, hx, hb, hml, hr, hlo, hown, hts, hK, hA, hO, hX, rfl⟩ := h
  subst hk hn
  intro H locs hP hD hS ls hl
  have hP0 : va_P E.2.2.2.1 vwCl (ws ++ ([(q, x)] ++ [])) H := by rw [List.append_nil]; exact hP
  have hD0 : va_D A (ws ++ ([(q, x)] ++ [])) := by rw [List.append_nil]; exact hD
  have hPc := hP0.spl.2.spl.1
  have hDc := hD0.spl.2.1.spl.1
  have hFc := wfree hDc hS hA
  refine va_callv (va_runI (As := As) (rest := st) (b := q) (g := F0 m pc ls stk) ⟨hx, hb, hml, hown, hts⟩ (hct H.size) ⟨callB_of As.length hts (TB_in hcode) rfl rfl rfl (hts _ hw4) (hts _ hw1) hd hRm, hyn, hts _ hw2⟩ ⟨CiP_blind, fun U hU hW => ⟨rfl, by rw [hU], by rw [hU]; exact hPc, va_K.moved hW.alike hK, hDc.weaken (fun _ _ _ _ => trivial), va_AO.moved hW.alike hO⟩⟩ rfl rfl hl.1 hst (lv_room hrm) d ⟨hR.1, hR.2⟩) hS (fun q _ h => hFc q h) hFc (fun f t H1 locs1 ht hvm _ hB hz1 hk1 hS1 => ?_)
  obtain ⟨hP1, hD1⟩ := hB
  rw [ht] at hP1
  obtain ⟨hP2, hD2⟩ := join3 hP0 hD0 hk1 hFc hP1 hD1
  rw [List.append_nil] at hP2 hD2
  exact kk f H1 locs1 hP2 hD2 hS1 ls hl
variable {ad am : Nat → Nat} {tr : Value} {T : List Sk} {X M : Mm} {oa : Nat} {g : Nat → Int64} {k n : Nat} {y : MethodName} {yc : ByteArray} {nL2 fr lo index : Nat} {ret2 : Option FieldType} {As stk : List Value} {r : Int32}
theorem nx_cX (h : NX l E own cc nL ret R (XFl E b L xs) G) {X2 : Mm} (hct : Ct l (SKX ++ T) (EX E ad tr) y yc nL2 ret2 fr lo (.ref (ad 0) :: As) X (some (.int r)) X2) (hcl : y.cls = RX9)
    (hw : CWV own index y yc nL2 ret2 As.length) (hR : fr + 1 ≤ R.frames ∧ 8 + (nL2 + 11) + lo ≤ R.locals) (hkn : k ≤ R.cells ∧ n ≤ R.slots) (hst : stk = As.reverse ++ .ref (ad 0) :: st) (hrm : (st.map fun v => v.category).sum ≤ 8) (d : decode cc pc = .ok (.invokevirtual index, 3))
    (kk : G (pc + 3) lv (.int r :: st) (LW E ad tr T X2 am M oa g, k, n)) : G pc lv stk (LW E ad tr T X am M oa g, k, n) :=
  nx_cG h xfl_E (wa := []) hct (skX0 T) rfl (ci := 9) (T := TX9) (N := 13) (by rw [hcl]; rfl) hw hR hkn hst hrm d kk
theorem nx_cM (h : NX l E own cc nL ret R (XFl E b L xs) G) {M2 : Mm} (hct : Ct l (SKM ++ []) (EX E am .null) y yc nL2 ret2 fr lo (.ref (am 0) :: As) M (some (.int r)) M2) (hcl : y.cls = RX10)
    (hw : CWV own index y yc nL2 ret2 As.length) (hR : fr + 1 ≤ R.frames ∧ 8 + (nL2 + 11) + lo ≤ R.locals) (hkn : k ≤ R.cells ∧ n ≤ R.slots) (hst : stk = As.reverse ++ .ref (am 0) :: st) (hrm : (st.map fun v => v.category).sum ≤ 8) (d : decode cc pc = .ok (.invokevirtual index, 3))
    (kk : G (pc + 3) lv (.int r :: st) (LW E ad tr T X am M2 oa g, k, n)) : G pc lv stk (LW E ad tr T X am M oa g, k, n) :=
  nx_cG h xfl_E (wa := wE (SKX ++ T) (EX E ad tr) X) hct (skM0 []) rfl (ci := 10) (T := TX10) (N := 41) (by rw [hcl]; rfl) hw hR hkn hst hrm d kk
end LRULES

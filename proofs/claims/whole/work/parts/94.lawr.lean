/-! the law's own rules: its world is the class's cells, the reference's cells, and the array out -/
def XFl (E : En) (b L : Nat) (xs : Nat → Int32) : XFt := fun s args below _ A Q => args = #[Value.ref b] ∧ A = (fun q : Nat => s.heap.size ≤ q) ∧ Q = lw_Z below #[Value.ref b] s ∧ va_X b L xs s s.heap ∧ b < s.heap.size ∧ strE E A s s.heap
abbrev EX (E : En) (ad : Nat → Nat) (tr : Value) : En := (E.1, ad, tr, E.2.2.2)
def ou (E : En) (oa : Nat) (g : Nat → Int64) : Nat × va_E := (oa, .inl (E.1 3, 1, .inr (.inl g)))
def LW (E : En) (ad : Nat → Nat) (tr : Value) (T : List Sk) (X : Mm) (am : Nat → Nat) (M : Mm) (oa : Nat) (g : Nat → Int64) : va_W := wE (SKX ++ T) (EX E ad tr) X ++ (wE (SKM ++ []) (EX E am .null) M ++ [ou E oa g])
section LRULES
variable {l : Launch} {E : En} {b L : Nat} {xs : Nat → Int32} {G : Nat → List (Nat × Value) → List Value → NW → Prop} {nL : Nat} {own : String} {cc : ByteArray} {ret : Option FieldType} {R : Room}
variable {pc : Nat} {lv : List (Nat × Value)} {st : List Value} {w : NW}
theorem nx_sld (h : NX l E own cc nL ret R (XFl E b L xs) G) {i : Int32} (hin : vp_in i L) (d : decode cc pc = .ok (.iaload, 1)) (kk : G (pc + 1) lv (.int (xs i.toNatClampNeg) :: st) w) : G pc lv (.int i :: .ref b :: st) w := by
  obtain ⟨p, e, s, m, args, below, meth, c, A, Q, hx, hb, hml, hr, hlo, hown, hts, hK, hA, hO, ⟨rfl, rfl, rfl, hX, hbl, hE⟩, rfl⟩ := h
  exact fun H locs hP hD hS ls hl => va_sld hx hb hX hbl (Nat.not_le.mpr hbl) hS hin d (kk H locs hP hD hS ls hl)
theorem nx_slen (h : NX l E own cc nL ret R (XFl E b L xs) G) (d : decode cc pc = .ok (.arraylength, 1)) (kk : G (pc + 1) lv (.int (Int32.ofNat L) :: st) w) : G pc lv (.ref b :: st) w := by
  obtain ⟨p, e, s, m, args, below, meth, c, A, Q, hx, hb, hml, hr, hlo, hown, hts, hK, hA, hO, ⟨rfl, rfl, rfl, hX, hbl, hE⟩, rfl⟩ := h
  exact fun H locs hP hD hS ls hl => va_slen hx hb hX hbl (Nat.not_le.mpr hbl) hS d (kk H locs hP hD hS ls hl)
theorem nx_lend (h : NX l E own code nL (some .boolean) room_1 (XFl E b L xs) G) {w : va_W} (d : decode code pc = .ok (.ireturn, 1)) : G pc lv [.int 1] (w, 601024, 7293034) := by
  obtain ⟨p, e, s, m, args, below, meth, c, A, Q, hx, hb, hml, hr, hlo, hown, hts, hK, hA, hO, ⟨rfl, rfl, rfl, hX, hbl, hE⟩, rfl⟩ := h
  intro H locs hP hD hS ls hl
  refine va_forget hS.2.2 ?_
  exact lw_ret hx hb hr hlo d
/-- a call on the part wc of the world, by a contract Ct on it -/
theorem nx_cG (h : NX l E own cc nL ret R (XFl E b L xs) G) {SK : List Sk} {ad : Nat → Nat} {tr : Value} {wa wb : va_W} {M : Mm} {y : MethodName} {yc : ByteArray} {nL2 fr lo ci N index k n : Nat} {ret2 : Option FieldType} {As stk : List Value} {M2 : Mm} {v2 : Option Value} {e9 : Sk} {fs : List Value} {T : u_T}
    (hct : Ct l SK (EX E ad tr) y yc nL2 ret2 fr lo (.ref (ad 0) :: As) M v2 M2) (hs : SK[0]? = some e9) (he : e9 E.1 ad tr (M.1 0) (M.2 0) = .inr (ci, fs)) (hcl : vwCl[ci]? = some (y.cls, T, N))
    (hw : CWV own index y yc nL2 ret2 As.length) (hR : fr + 1 ≤ R.frames ∧ 8 + (nL2 + 11) + lo ≤ R.locals) (hkn : k ≤ R.cells ∧ n ≤ R.slots)
    (hst : stk = As.reverse ++ .ref (ad 0) :: st) (hrm : (st.map fun v => v.category).sum ≤ 8) (d : decode cc pc = .ok (.invokevirtual index, 3)) (kk : G (pc + 3) lv (v2.toList ++ st) (wa ++ (wE SK (EX E ad tr) M2 ++ wb), k, n)) : G pc lv stk (wa ++ (wE SK (EX E ad tr) M ++ wb), k, n) := by
  obtain ⟨p, e, s, m, args, below, meth, c, A, Q, hx, hb, hml, hr, hlo, hown, hts, hK, hA, hO, ⟨rfl, rfl, rfl, hX, hbl, hE⟩, rfl⟩ := h
  intro H locs hP hD hS ls hl
  obtain ⟨w1, w2, w3, w4, w5, w6⟩ := hw
  have hPc := (va_P.spl hP).2.spl.1
  have hDc := (va_D.spl hD).2.1.spl.1
  have hF := wfree hDc hS hA
  have hrun := va_runV (As := As) (rest := st) (b := ad 0) (C := y.cls) (g := F0 m pc ls stk) (locs := locs) (cells := k) (slots := n) (below := below) (meth := meth) (e := e) (R := R) ⟨hx, hb, hml, hown, hts⟩ (hct H.size) ⟨callB_of As.length hts (TB_in w1) rfl rfl rfl (hts _ w5) (hts _ w2) w6 hR, hts _ w3, hts _ w4⟩ ⟨CtP_blind, va_recv hK hPc hcl ((wE_get (EX E ad tr) M hs).trans (congrArg (fun z => some (ad 0, z)) he)), fun U hU hW => ⟨rfl, by rw [hU], ⟨by rw [hU]; exact hPc, va_K.moved hW.alike hK⟩, hDc.weaken (fun _ _ _ _ => trivial), strE_use (E := EX E ad tr) hE hS hW hU hF⟩⟩ rfl rfl hl.1 hst (lv_room hrm) d ⟨hkn.1, hkn.2⟩
  intro X0' hT X
  obtain ⟨w, st₀, t, T', Lc, h0, X', hL, e1, e2, ⟨⟨hv, hp, hb2⟩, hz, hk⟩, stp⟩ := hrun X0' hT X
  cases hv
  rw [h0] at hz hk
  obtain ⟨hP2, hD2⟩ := join3 hP hD (H1 := T'.heap) (w1 := wE SK (EX E ad tr) M2) (fun q h1 h2 => by rw [e1]; exact hk q h1 h2) hF (by rw [e1]; exact hp) (wE_D (va_D.self (sz := H.size) hDc) M2)
  obtain ⟨t2, a1, b1⟩ := kk T'.heap (locs ++ Lc) hP2 hD2
    ⟨Nat.le_trans hS.1 (by rw [e1]; exact hz), fun q h1 h2 => by rw [e1, hk q (Nat.lt_of_lt_of_le h1 hS.1) (fun z => h2 (hF q z))]; exact hS.2.1 q h1 h2, fun q hq => by
      rcases List.mem_append.mp hq with h | h
      · exact hS.2.2 q h
      · exact hF _ (hL q h)⟩ ls hl T' rfl X'
  exact ⟨t2, stp t2 a1, b1⟩
variable {ad am : Nat → Nat} {tr : Value} {T : List Sk} {X M : Mm} {oa : Nat} {g : Nat → Int64} {k n : Nat} {y : MethodName} {yc : ByteArray} {nL2 fr lo index : Nat} {ret2 : Option FieldType} {As stk : List Value} {r : Int32}
theorem nx_cX (h : NX l E own cc nL ret R (XFl E b L xs) G) {X2 : Mm} (hct : Ct l (SKX ++ T) (EX E ad tr) y yc nL2 ret2 fr lo (.ref (ad 0) :: As) X (some (.int r)) X2) (hcl : y.cls = RX9)
    (hw : CWV own index y yc nL2 ret2 As.length) (hR : fr + 1 ≤ R.frames ∧ 8 + (nL2 + 11) + lo ≤ R.locals) (hkn : k ≤ R.cells ∧ n ≤ R.slots) (hst : stk = As.reverse ++ .ref (ad 0) :: st) (hrm : (st.map fun v => v.category).sum ≤ 8) (d : decode cc pc = .ok (.invokevirtual index, 3))
    (kk : G (pc + 3) lv (.int r :: st) (LW E ad tr T X2 am M oa g, k, n)) : G pc lv stk (LW E ad tr T X am M oa g, k, n) :=
  nx_cG h (wa := []) hct (skX0 T) rfl (ci := 9) (T := TX9) (N := 13) (by rw [hcl]; rfl) hw hR hkn hst hrm d kk
theorem nx_cM (h : NX l E own cc nL ret R (XFl E b L xs) G) {M2 : Mm} (hct : Ct l (SKM ++ []) (EX E am .null) y yc nL2 ret2 fr lo (.ref (am 0) :: As) M (some (.int r)) M2) (hcl : y.cls = RX10)
    (hw : CWV own index y yc nL2 ret2 As.length) (hR : fr + 1 ≤ R.frames ∧ 8 + (nL2 + 11) + lo ≤ R.locals) (hkn : k ≤ R.cells ∧ n ≤ R.slots) (hst : stk = As.reverse ++ .ref (am 0) :: st) (hrm : (st.map fun v => v.category).sum ≤ 8) (d : decode cc pc = .ok (.invokevirtual index, 3))
    (kk : G (pc + 3) lv (.int r :: st) (LW E ad tr T X am M2 oa g, k, n)) : G pc lv stk (LW E ad tr T X am M oa g, k, n) :=
  nx_cG h (wa := wE (SKX ++ T) (EX E ad tr) X) hct (skM0 []) rfl (ci := 10) (T := TX10) (N := 41) (by rw [hcl]; rfl) hw hR hkn hst hrm d kk
end LRULES

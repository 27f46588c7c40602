section CALLS
variable {l : Launch} {SK : List Sk} {E : En} {own : String} {cc : ByteArray} {nL : Nat} {ret : Option FieldType} {R : Room} {kc ks : Nat} {v : Option Value} {M' : Mm} {G : Nat → List (Nat × Value) → List Value → Mm → Prop}
variable {pc : Nat} {lv : List (Nat × Value)} {st : List Value} {M : Mm}
theorem rx_after {p : Program} {e : Env} {s : State} {m : MethodId} {args : Array Value} {below : List Frame} {meth : Method} {c : Code} {H : Heap} {locs : List Loc} {Q : State → Prop} {ls : Array Slot} {st0 rest : List Value} {M2 : Mm} {v2 : Option Value} {A : Nat → Prop} {a : Array Value}
    (hr : va_Run p l e R s m args below meth c H locs kc ks 0 0 (F0 m pc ls st0) rest (CtQ SK E v2 M2 (va_A (wE SK E M) H.size) a) (va_A (wE SK E M) H.size)) (hS : va_S A s.heap H locs) (hF : ∀ q, va_A (wE SK E M) H.size q → A q)
    (kk : ∀ (H1 : Heap) (locs1 : List Loc), va_P E.2.2.2.1 vwCl (wE SK E M2) H1 → va_S A s.heap H1 locs1 → W p l e R s m args below meth c H1 locs1 kc ks Q (F0 m (pc + 3) ls (v2.toList ++ rest))) : W p l e R s m args below meth c H locs kc ks Q (F0 m pc ls st0) := by
  intro T hT X
  obtain ⟨w, st₀, t, T', L, h0, X', hL, e1, e2, ⟨⟨hv, hp, hb⟩, hz, hk⟩, stp⟩ := hr T hT X
  cases hv
  rw [h0] at hz hk
  obtain ⟨t2, a1, b1⟩ := kk T'.heap (locs ++ L) (by rw [e1]; exact hp)
    ⟨Nat.le_trans hS.1 (by rw [e1]; exact hz), fun q h1 h2 => by rw [e1, hk q (Nat.lt_of_lt_of_le h1 hS.1) (fun z => h2 (hF q z))]; exact hS.2.1 q h1 h2, fun q hq => by
      rcases List.mem_append.mp hq with h | h
      · exact hS.2.2 q h
      · exact hF _ (hL q h)⟩ T' rfl X'
  exact ⟨t2, stp t2 a1, b1⟩
theorem strE_use {A B : Nat → Prop} {s U : State} {H : Heap} {locs : List Loc} (hE : strE E A s s.heap) (hS : va_S A s.heap H locs) (hW : s.WarmedH U.vm) (hU : U.heap = H) (hAB : ∀ q, B q → A q) : strE E B U U.heap := by
  rw [hU]
  exact ⟨((hE.1.kept hS.2.1).narrow hAB).moved hW.alike, fun i q hq => (hE.2 i q hq).warm hW⟩
theorem CtP_blind {sz : Nat} {as : List Value} : FrameBlind (va_Pc as (CtP SK E M sz)) := by
  intro a U g mk q
  obtain ⟨q0, q1, ⟨qP, qK⟩, qD, qE⟩ := q
  exact ⟨q0, q1, ⟨qP, va_K.moved (u := U) (U := U.calling g mk a) (Vm.Alike.refl U.vm) qK⟩, qD, qE.1.moved (Vm.Alike.refl U.vm), fun i q hq => (qE.2 i q hq).same rfl⟩
theorem rx_free {A : Nat → Prop} {s : State} {H : Heap} {locs : List Loc} (hD : va_D A (wE SK E M)) (hS : va_S A s.heap H locs) (hA : ∀ q, s.heap.size ≤ q → A q) : ∀ q, va_A (wE SK E M) H.size q → A q := by
  rintro q (⟨k, e, hk⟩ | h)
  · exact hD.2 k _ hk
  · exact hA q (Nat.le_trans hS.1 h)
theorem rx_callV (h : RX l SK E own cc nL ret R kc ks v M' G) {y : MethodName} {yc : ByteArray} {nL2 fr lo q0 ci N index : Nat} {ret2 : Option FieldType} {As stk : List Value} {M2 : Mm} {v2 : Option Value} {e9 : Sk} {fs : List Value} {T : u_T}
    (hct : Ct l SK E y yc nL2 ret2 fr lo (.ref (adr E q0) :: As) M v2 M2) (hs : SK[q0]? = some e9) (he : e9 E.1 E.2.1 E.2.2.1 (M.1 q0) (M.2 q0) = .inr (ci, fs)) (hcl : vwCl[ci]? = some (y.cls, T, N))
    (hcode : Cond.code y yc nL2 ret2 ∈ TB) (hw1 : Cond.methodLink own index y ∈ TB) (hw2 : Cond.instanceMethod y ∈ TB) (hw3 : Cond.selects y.cls y y ∈ TB) (hw4 : Cond.initialized y.cls ∈ TB)
    (hd : y.cls ≠ "java/lang/invoke/MethodHandle" ∧ y.cls ≠ "java/lang/invoke/VarHandle" ∧ (parseMethodDescriptor y.desc).map (fun d => d.parameters.length) = some As.length) (hR : fr + 1 ≤ R.frames ∧ 8 + (nL2 + 11) + lo ≤ R.locals)
    (hst : stk = As.reverse ++ .ref (adr E q0) :: st) (hrm : (st.map fun v => v.category).sum ≤ 8) (d : decode cc pc = .ok (.invokevirtual index, 3)) (kk : G (pc + 3) lv (v2.toList ++ st) M2) : G pc lv stk M := by
  obtain ⟨p, e, s, m, args, below, meth, c, A, hx, hb, hml, hr, hlo, hown, hts, hK, hD, hA, hE, hc, rfl⟩ := h
  intro H locs hP hS ls hl
  have hF := rx_free (hD M) hS hA
  refine rx_after (va_runV (As := As) (rest := st) (b := adr E q0) (C := y.cls) (g := F0 m pc ls stk) ⟨hx, hb, hml, hown, hts⟩ (hct H.size) ⟨callB_of As.length hts (TB_in hcode) rfl rfl rfl (hts _ hw4) (hts _ hw1) hd hR, hts _ hw2, hts _ hw3⟩ ⟨CtP_blind, va_recv hK hP hcl ((wE_get E M hs).trans (by rw [he])), fun U hU hW => ⟨rfl, by rw [hU], ⟨by rw [hU]; exact hP, va_K.moved hW.alike hK⟩, (hD M).weaken (fun _ _ _ _ => trivial), strE_use hE hS hW hU hF⟩⟩ rfl rfl hl.1 hst (lv_room hrm) d ⟨hc.1, hc.2⟩) hS hF (fun H1 locs1 hP1 hS1 => kk H1 locs1 hP1 hS1 ls hl)
theorem rx_callS (h : RX l SK E own cc nL ret R kc ks v M' G) {y : MethodName} {yc : ByteArray} {nL2 fr lo index : Nat} {ret2 : Option FieldType} {As stk : List Value} {M2 : Mm} {v2 : Option Value}
    (hct : Ct l SK E y yc nL2 ret2 fr lo As M v2 M2)
    (hcode : Cond.code y yc nL2 ret2 ∈ TB) (hw1 : Cond.methodLink own index y ∈ TB) (hw2 : Cond.static y ∈ TB) (hw4 : Cond.initialized y.cls ∈ TB)
    (hd : y.cls ≠ "java/lang/invoke/MethodHandle" ∧ y.cls ≠ "java/lang/invoke/VarHandle" ∧ (parseMethodDescriptor y.desc).map (fun d => d.parameters.length) = some As.length) (hR : fr + 1 ≤ R.frames ∧ 8 + (nL2 + 11) + lo ≤ R.locals)
    (hst : stk = As.reverse ++ st) (hrm : (st.map fun v => v.category).sum ≤ 8) (d : decode cc pc = .ok (.invokestatic index, 3)) (kk : G (pc + 3) lv (v2.toList ++ st) M2) : G pc lv stk M := by
  obtain ⟨p, e, s, m, args, below, meth, c, A, hx, hb, hml, hr, hlo, hown, hts, hK, hD, hA, hE, hc, rfl⟩ := h
  intro H locs hP hS ls hl
  have hF := rx_free (hD M) hS hA
  refine rx_after (va_runS (As := As) (rest := st) (g := F0 m pc ls stk) ⟨hx, hb, hml, hown, hts⟩ (hct H.size) ⟨callB_of As.length hts (TB_in hcode) rfl rfl rfl (hts _ hw4) (hts _ hw1) hd hR, hts _ hw2⟩ ⟨CtP_blind, fun U hU hW => ⟨rfl, by rw [hU], ⟨by rw [hU]; exact hP, va_K.moved hW.alike hK⟩, (hD M).weaken (fun _ _ _ _ => trivial), strE_use hE hS hW hU hF⟩⟩ rfl rfl hl.1 hst (lv_room hrm) d ⟨hc.1, hc.2⟩) hS hF (fun H1 locs1 hP1 hS1 => kk H1 locs1 hP1 hS1 ls hl)
theorem rx_callSN (h : RX l SK E own cc nL ret R kc ks v M' G) {y : MethodName} {host : String} {yc : ByteArray} {nL2 fr lo index : Nat} {ret2 : Option FieldType} {As stk : List Value} {M2 : Mm} {v2 : Option Value}
    (hct : Ct l SK E y yc nL2 ret2 fr lo As M v2 M2)
    (hcode : Cond.code y yc nL2 ret2 ∈ TB) (hw1 : Cond.methodLinkNest own index y host ∈ TB) (hw2 : Cond.static y ∈ TB) (hw4 : Cond.initialized y.cls ∈ TB)
    (hd : y.cls ≠ "java/lang/invoke/MethodHandle" ∧ y.cls ≠ "java/lang/invoke/VarHandle" ∧ (parseMethodDescriptor y.desc).map (fun d => d.parameters.length) = some As.length) (hR : fr + 1 ≤ R.frames ∧ 8 + (nL2 + 11) + lo ≤ R.locals)
    (hst : stk = As.reverse ++ st) (hrm : (st.map fun v => v.category).sum ≤ 8) (d : decode cc pc = .ok (.invokestatic index, 3)) (kk : G (pc + 3) lv (v2.toList ++ st) M2) : G pc lv stk M := by
  obtain ⟨p, e, s, m, args, below, meth, c, A, hx, hb, hml, hr, hlo, hown, hts, hK, hD, hA, hE, hc, rfl⟩ := h
  intro H locs hP hS ls hl
  have hF := rx_free (hD M) hS hA
  refine rx_after (va_runSN (As := As) (rest := st) (host := host) (g := F0 m pc ls stk) ⟨hx, hb, hml, hown, hts⟩ (hct H.size) ⟨va_cnB As.length hts (TB_in hcode) rfl rfl rfl (va_Nw.use rfl (hts _ hw1)) (hts _ hw4) hd hR, hts _ hw2, trivial⟩ ⟨CtP_blind, fun U hU hW => ⟨rfl, by rw [hU], ⟨by rw [hU]; exact hP, va_K.moved hW.alike hK⟩, (hD M).weaken (fun _ _ _ _ => trivial), strE_use hE hS hW hU hF⟩⟩ rfl rfl hl.1 hst (lv_room hrm) d ⟨hc.1, hc.2⟩) hS hF (fun H1 locs1 hP1 hS1 => kk H1 locs1 hP1 hS1 ls hl)
def cpy (M : Mm) (k0 n0 k1 n1 : Nat) (sp dp n : Int32) : Option Mm := if 0 ≤ sp ∧ 0 ≤ dp ∧ 0 ≤ n ∧ sp.toNatClampNeg + n.toNatClampNeg ≤ n0 ∧ dp.toNatClampNeg + n.toNatClampNeg ≤ n1 then some (s1 M k1 (va_cpy (M.1 k0) (M.1 k1) sp.toNatClampNeg dp.toNatClampNeg n.toNatClampNeg)) else none
theorem rx_copy (h : RX l SK E own cc nL ret R kc ks v M' G) {k0 n0 k1 n1 index : Nat} {sp dp n : Int32} {M2 : Mm} (hs0 : SK[k0]? = some (fun cy ad tr s l => .inl (cy 0, n0, .inl s))) (hs1 : SK[k1]? = some (fun cy ad tr s l => .inl (cy 0, n1, .inl s))) (hz : cpy M k0 n0 k1 n1 sp dp n = some M2)
    (hw1 : Cond.methodLink own index arraycopyName ∈ TB) (hw2 : Cond.native arraycopyName ∈ TB) (hw3 : Cond.static arraycopyName ∈ TB) (hw4 : Cond.initialized "java/lang/System" ∈ TB) (hR : 1 ≤ R.frames ∧ (st.map fun v => v.category).sum + (nativeFrameWords "java/lang/System" "arraycopy" 5 + 11) ≤ R.locals) (d : decode cc pc = .ok (.invokestatic index, 3)) (kk : G (pc + 3) lv st M2) : G pc lv (.int n :: .int dp :: .ref (adr E k1) :: .int sp :: .ref (adr E k0) :: st) M := by
  obtain ⟨p, e, s, m, args, below, meth, c, A, hx, hb, hml, hr, hlo, hown, hts, hK, hD, hA, hE, hc, rfl⟩ := h
  unfold cpy at hz
  split at hz
  · rename_i hq
    cases hz
    exact fun H locs hP hS ls hl => va_copyi hx hb (hml.trans hl.1.symm) hown (hts _ hw1) (hts _ hw2) (hts _ hw3) (hts _ hw4) hK hP (hD M) hS k0 k1 0 0 (wE_get E M hs0) (wE_get E M hs1) rfl rfl rfl (Int32.not_lt.mpr hq.1) (Int32.not_lt.mpr hq.2.1) (Int32.not_lt.mpr hq.2.2.1) hq.2.2.2.1 hq.2.2.2.2 (fun _ _ => rfl) hR.1 hR.2 d (fun H locs hP hD hS => kk H locs (by rw [wE_set1 E M hs1] at hP; exact hP) hS ls hl)
  · cases hz
theorem rx_max (h : RX l SK E own cc nL ret R kc ks v M' G) {x y : Int32} {index : Nat} (hw1 : Cond.methodLink own index Lib.Math.max.name ∈ TB) (hw2 : Cond.static Lib.Math.max.name ∈ TB) (hw3 : Cond.initialized "java/lang/Math" ∈ TB) (hw4 : Cond.code Lib.Math.max.name Lib.Math.max.code 2 (some .int) ∈ TB) (hR : 1 ≤ R.frames ∧ (st.map fun v => v.category).sum + 13 ≤ R.locals) (d : decode cc pc = .ok (.invokestatic index, 3)) (kk : G (pc + 3) lv (.int (if x < y then y else x) :: st) M) : G pc lv (.int y :: .int x :: st) M := by
  obtain ⟨p, e, s, m, args, below, meth, c, A, hx, hb, hml, hr, hlo, hown, hts, hK, hD, hA, hE, hc, rfl⟩ := h
  exact fun H locs hP hS ls hl => va_mmax hx hb (hml.trans hl.1.symm) hown (hts _ hw1) (hts _ hw2) (hts _ hw3) (hts _ hw4) hR.1 hR.2 hc.1 hc.2 d (kk H locs hP hS ls hl)
theorem rx_min (h : RX l SK E own cc nL ret R kc ks v M' G) {x y : Int32} {index : Nat} (hw1 : Cond.methodLink own index Lib.Math.min.name ∈ TB) (hw2 : Cond.static Lib.Math.min.name ∈ TB) (hw3 : Cond.initialized "java/lang/Math" ∈ TB) (hw4 : Cond.code Lib.Math.min.name Lib.Math.min.code 2 (some .int) ∈ TB) (hR : 1 ≤ R.frames ∧ (st.map fun v => v.category).sum + 13 ≤ R.locals) (d : decode cc pc = .ok (.invokestatic index, 3)) (kk : G (pc + 3) lv (.int (if y < x then y else x) :: st) M) : G pc lv (.int y :: .int x :: st) M := by
  obtain ⟨p, e, s, m, args, below, meth, c, A, hx, hb, hml, hr, hlo, hown, hts, hK, hD, hA, hE, hc, rfl⟩ := h
  exact fun H locs hP hS ls hl => va_mmin hx hb (hml.trans hl.1.symm) hown (hts _ hw1) (hts _ hw2) (hts _ hw3) (hts _ hw4) hR.1 hR.2 hc.1 hc.2 d (kk H locs hP hS ls hl)
end CALLS

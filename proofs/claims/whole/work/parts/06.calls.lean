section CALLS
variable {l : Launch} {SK : List Sk} {E : En} {own : String} {cc : ByteArray} {nL : Nat} {ret : Option FieldType} {R : Room} {kc ks : Nat} {v : Option Value} {M' : Mm} {G : Nat → List (Nat × Value) → List Value → Mm → Prop}
variable {pc : Nat} {lv : List (Nat × Value)} {st : List Value} {M : Mm}
theorem rx_after {p : Program} {e : Env} {s : State} {m : MethodId} {args : Array Value} {below : List Frame} {meth : Method} {c : Code} {H : Heap} {locs : List Loc} {Q : State → Prop} {ls : Array Slot} {st0 rest : List Value} {M2 : Mm} {v2 : Option Value} {A : Nat → Prop} {a : Array Value}
    (hr : va_Run p l e R s m args below meth c H locs kc ks 0 0 (F0 m pc ls st0) rest (CtQ SK E v2 M2 (va_A (wE SK E M) H.size) a) (va_A (wE SK E M) H.size)) (hS : va_S A s.heap H locs) (hF : ∀ q, va_A (wE SK E M) H.size q → A q)
    (kk : ∀ (H1 : Heap) (locs1 : List Loc), va_P E.2.2.2.1 vwCl (wE SK E M2) H1 → va_S A s.heap H1 locs1 → W p l e R s m args below meth c H1 locs1 kc ks Q (F0 m (pc + 3) ls (v2.toList ++ rest))) : W p l e R s m args below meth c H locs kc ks Q (F0 m pc ls st0) := by
  intro T hT X
  obtain ⟨w, st₀, t, T', L, h0, X', hL, e1, e2, ⟨⟨hv, hp, hb⟩, hz, hk⟩, stp⟩ := hr T hT X
  cases hv
  rw [h0] at hz hk
  obtain ⟨t2, a1, b1⟩ := kk T'.heap (locs ++ L) (by rw [e1]; exact hp)
    ⟨Nat.le_trans hS.1 (by rw [e1]; exact hz), fun q h1 h2 => by rw [e1, hk q (Nat.lt_of_lt_of_le h1 hS.1) (fun z => h2 (hF q z))]; exact hS.2.1 q h1 h2, fun q hq => by
      rcases List.mem_append.mp hq with h | h
      · exact hS.2.2 q h
      · exact hF _ (hL q h)⟩ T' rfl X'
  exact ⟨t2, stp t2 a1, b1⟩
theorem strE_use {A B : Nat → Prop} {s U : State} {H : Heap} {locs : List Loc} (hE : strE E A s s.heap) (hS : va_S A s.heap H locs) (hW : s.WarmedH U.vm) (hU : U.heap = H) (hAB : ∀ q, B q → A q) : strE E B U U.heap := by
  rw [hU]
  exact ⟨((hE.1.kept hS.2.1).narrow hAB).moved hW.alike, fun i q hq => (hE.2.1 i q hq).warm hW, fun q hq => (hE.2.2.1 q hq).warmM hW, ((hE.2.2.2.1.kept hS.2.1).narrow hAB).moved hW.alike, ((hE.2.2.2.2.kept hS.2.1).narrow hAB).moved hW.alike⟩
theorem CtP_blind {sz : Nat} {as : List Value} : FrameBlind (va_Pc as (CtP SK E M sz)) := by
  intro a U g mk q
  obtain ⟨q0, q1, ⟨qP, qK⟩, qD, qE⟩ := q
  exact ⟨q0, q1, ⟨qP, va_K.moved (u := U) (U := U.calling g mk a) (Vm.Alike.refl U.vm) qK⟩, qD, qE.1.moved (Vm.Alike.refl U.vm), fun i q hq => (qE.2.1 i q hq).same rfl, fun q hq => (qE.2.2.1 q hq).same rfl rfl, qE.2.2.2.1.moved (Vm.Alike.refl U.vm), qE.2.2.2.2.moved (Vm.Alike.refl U.vm)⟩
theorem rx_free {A : Nat → Prop} {s : State} {H : Heap} {locs : List Loc} (hD : va_D A (wE SK E M)) (hS : va_S A s.heap H locs) (hA : ∀ q, s.heap.size ≤ q → A q) : ∀ q, va_A (wE SK E M) H.size q → A q := by
  rintro q (⟨k, e, hk⟩ | h)
  · exact hD.2 k _ hk
  · exact hA q (Nat.le_trans hS.1 h)
theorem rx_callV (h : RX l SK E own cc nL ret R kc ks v M' G) {y : MethodName} {yc : ByteArray} {nL2 fr lo q0 ci N index : Nat} {ret2 : Option FieldType} {As stk : List Value} {M2 : Mm} {v2 : Option Value} {e9 : Sk} {fs : List Value} {T : u_T}
    (hct : Ct l SK E y yc nL2 ret2 fr lo (.ref (adr E q0) :: As) M v2 M2) (hs : SK[q0]? = some e9) (he : e9 E.1 E.2.1 E.2.2.1 (M.1 q0) (M.2 q0) = .inr (ci, fs)) (hcl : vwCl[ci]? = some (y.cls, T, N))
    (hcode : Cond.code y yc nL2 ret2 ∈ TB) (hw1 : Cond.methodLink own index y ∈ TB) (hw2 : Cond.instanceMethod y ∈ TB) (hw3 : Cond.selects y.cls y y ∈ TB) (hw4 : Cond.initialized y.cls ∈ TB)
    (hd : y.cls ≠ "java/lang/invoke/MethodHandle" ∧ y.cls ≠ "java/lang/invoke/VarHandle" ∧ (parseMethodDescriptor y.desc).map (fun d => d.parameters.length) = some As.length) (hR : fr + 1 ≤ R.frames ∧ 8 + (nL2 + 11) + lo ≤ R.locals)
    (hst : stk = As.reverse ++ .ref (adr E q0) :: st) (hrm : (st.map fun v => v.category).sum ≤ 8) (d : decode cc pc = .ok (.invokevirtual index, 3)) (kk : G (pc + 3) lv (v2.toList ++ st) M2) : G pc lv stk M := by
  obtain ⟨p, e, s, m, args, below, meth, c, A, hx, hb, hml, hr, hlo, hown, hts, hK, hD, hA, hE, hc, rfl⟩ := h
  intro H locs hP hS ls hl
  have hF := rx_free (hD M) hS hA
  refine rx_after (va_runV (As := As) (rest := st) (b := adr E q0) (C := y.cls) (g := F0 m pc ls stk) ⟨hx, hb, hml, hown, hts⟩ (hct H.size) ⟨callB_of As.length hts (TB_in hcode) rfl rfl rfl (hts _ hw4) (hts _ hw1) hd hR, hts _ hw2, hts _ hw3⟩ ⟨CtP_blind, va_recv hK hP hcl ((wE_get E M hs).trans (by rw [he])), fun U hU hW => ⟨rfl, by rw [hU], ⟨by rw [hU]; exact hP, va_K.moved hW.alike hK⟩, (hD M).weaken (fun _ _ _ _ => trivial), strE_use hE hS hW hU hF⟩⟩ rfl rfl hl.1 hst (lv_room hrm) d ⟨hc.1, hc.2⟩) hS hF (fun H1 locs1 hP1 hS1 => kk H1 locs1 hP1 hS1 ls hl)
theorem rx_callS (h : RX l SK E own cc nL ret R kc ks v M' G) {y : MethodName} {yc : ByteArray} {nL2 fr lo index : Nat} {ret2 : Option FieldType} {As stk : List Value} {M2 : Mm} {v2 : Option Value}
    (hct : Ct l SK E y yc nL2 ret2 fr lo As M v2 M2)
    (hcode : Cond.code y yc nL2 ret2 ∈ TB) (hw1 : Cond.methodLink own index y ∈ TB) (hw2 : Cond.static y ∈ TB) (hw4 : Cond.initialized y.cls ∈ TB)
    (hd : y.cls ≠ "java/lang/invoke/MethodHandle" ∧ y.cls ≠ "java/lang/invoke/VarHandle" ∧ (parseMethodDescriptor y.desc).map (fun d => d.parameters.length) = some As.length) (hR : fr + 1 ≤ R.frames ∧ 8 + (nL2 + 11) + lo ≤ R.locals)
    (hst : stk = As.reverse ++ st) (hrm : (st.map fun v => v.category).sum ≤ 8) (d : decode cc pc = .ok (.invokestatic index, 3)) (kk : G (pc + 3) lv (v2.toList ++ st) M2) : G pc lv stk M := by
  obtain ⟨p, e, s, m, args, below, meth, c, A, hx, hb, hml, hr, hlo, hown, hts, hK, hD, hA, hE, hc, rfl⟩ := h
  intro H locs hP hS ls hl
  have hF := rx_free (hD M) hS hA
  refine rx_after (va_runS (As := As) (rest := st) (g := F0 m pc ls stk) ⟨hx, hb, hml, hown, hts⟩ (hct H.size) ⟨callB_of As.length hts (TB_in hcode) rfl rfl rfl (hts _ hw4) (hts _ hw1) hd hR, hts _ hw2⟩ ⟨CtP_blind, fun U hU hW => ⟨rfl, by rw [hU], ⟨by rw [hU]; exact hP, va_K.moved hW.alike hK⟩, (hD M).weaken (fun _ _ _ _ => trivial), strE_use hE hS hW hU hF⟩⟩ rfl rfl hl.1 hst (lv_room hrm) d ⟨hc.1, hc.2⟩) hS hF (fun H1 locs1 hP1 hS1 => kk H1 locs1 hP1 hS1 ls hl)
theorem rx_callSN (h : RX l SK E own cc nL ret R kc ks v M' G) {y : MethodName} {yc : ByteArray} {nL2 fr lo index : Nat} {ret2 : Option FieldType} {As stk : List Value} {M2 : Mm} {v2 : Option Value}
    (hct : Ct l SK E y yc nL2 ret2 fr lo As M v2 M2)
    (hcode : Cond.code y yc nL2 ret2 ∈ TB) (hw1 : (own, index, y) ∈ nsts) (hw2 : Cond.static y ∈ TB) (hw4 : Cond.initialized y.cls ∈ TB)
    (hd : y.cls ≠ "java/lang/invoke/MethodHandle" ∧ y.cls ≠ "java/lang/invoke/VarHandle" ∧ (parseMethodDescriptor y.desc).map (fun d => d.parameters.length) = some As.length) (hR : fr + 1 ≤ R.frames ∧ 8 + (nL2 + 11) + lo ≤ R.locals)
    (hst : stk = As.reverse ++ st) (hrm : (st.map fun v => v.category).sum ≤ 8) (d : decode cc pc = .ok (.invokestatic index, 3)) (kk : G (pc + 3) lv (v2.toList ++ st) M2) : G pc lv stk M := by
  obtain ⟨p, e, s, m, args, below, meth, c, A, hx, hb, hml, hr, hlo, hown, hts, hK, hD, hA, hE, hc, rfl⟩ := h
  intro H locs hP hS ls hl
  have hF := rx_free (hD M) hS hA
  refine rx_after (va_runSN (As := As) (rest := st) (host := "PullCards") (g := F0 m pc ls stk) ⟨hx, hb, hml, hown, hts⟩ (hct H.size) ⟨va_cnB As.length hts (TB_in hcode) rfl rfl rfl (hE.2.2.1 _ hw1) (hts _ hw4) hd hR, hts _ hw2, trivial⟩ ⟨CtP_blind, fun U hU hW => ⟨rfl, by rw [hU], ⟨by rw [hU]; exact hP, va_K.moved hW.alike hK⟩, (hD M).weaken (fun _ _ _ _ => trivial), strE_use hE hS hW hU hF⟩⟩ rfl rfl hl.1 hst (lv_room hrm) d ⟨hc.1, hc.2⟩) hS hF (fun H1 locs1 hP1 hS1 => kk H1 locs1 hP1 hS1 ls hl)
theorem nfw : nativeFrameWords "java/lang/System" "arraycopy" 5 = 7 := rfl
def cpy (M : Mm) (k0 n0 k1 n1 : Nat) (sp dp n : Int32) : Option Mm := if 0 ≤ sp ∧ 0 ≤ dp ∧ 0 ≤ n ∧ sp.toNatClampNeg + n.toNatClampNeg ≤ n0 ∧ dp.toNatClampNeg + n.toNatClampNeg ≤ n1 then some (s1 M k1 (va_cpy (M.1 k0) (M.1 k1) sp.toNatClampNeg dp.toNatClampNeg n.toNatClampNeg)) else none
def mx (x y : Int32) : Int32 := if x < y then y else x
def mn (x y : Int32) : Int32 := if y < x then y else x
def fil (f : Nat → Int32) (n : Nat) (x : Int32) : Nat → Int32 := fun j => if j < n then x else f j
def sln (i : Nat) : Option Int32 := if i < 13 then some (nI (slen.getD i 0)) else none
def sch (i : Nat) (x : Int32) : Option Int32 := if i < 13 ∧ 0 ≤ x ∧ x.toNatClampNeg < slen.getD i 0 then some ((sbyt.getD i []).getD x.toNatClampNeg 0) else none
def FU : Nat := 200000
theorem zr0 : zr 0 = some 0 := rfl
theorem zr1 : zr 1 = some 1 := rfl
theorem tiN {x k : Int32} (h : ¬ x = k) {z : Int} (hz : k.toInt = z) : x.toInt ≠ z := fun e => h (Int32.toInt_inj.mp (e.trans hz.symm))
def CWV (own : String) (index : Nat) (y : MethodName) (yc : ByteArray) (nL2 : Nat) (ret2 : Option FieldType) (n : Nat) : Prop := Cond.code y yc nL2 ret2 ∈ TB ∧ Cond.methodLink own index y ∈ TB ∧ Cond.instanceMethod y ∈ TB ∧ Cond.selects y.cls y y ∈ TB ∧ Cond.initialized y.cls ∈ TB ∧ (y.cls ≠ "java/lang/invoke/MethodHandle" ∧ y.cls ≠ "java/lang/invoke/VarHandle" ∧ (parseMethodDescriptor y.desc).map (fun d => d.parameters.length) = some n)
def CWS (own : String) (index : Nat) (y : MethodName) (yc : ByteArray) (nL2 : Nat) (ret2 : Option FieldType) (n : Nat) : Prop := Cond.code y yc nL2 ret2 ∈ TB ∧ Cond.methodLink own index y ∈ TB ∧ Cond.static y ∈ TB ∧ Cond.initialized y.cls ∈ TB ∧ (y.cls ≠ "java/lang/invoke/MethodHandle" ∧ y.cls ≠ "java/lang/invoke/VarHandle" ∧ (parseMethodDescriptor y.desc).map (fun d => d.parameters.length) = some n)
def CWN (own : String) (index : Nat) (y : MethodName) (yc : ByteArray) (nL2 : Nat) (ret2 : Option FieldType) (n : Nat) : Prop := Cond.code y yc nL2 ret2 ∈ TB ∧ (own, index, y) ∈ nsts ∧ Cond.static y ∈ TB ∧ Cond.initialized y.cls ∈ TB ∧ (y.cls ≠ "java/lang/invoke/MethodHandle" ∧ y.cls ≠ "java/lang/invoke/VarHandle" ∧ (parseMethodDescriptor y.desc).map (fun d => d.parameters.length) = some n)
def CWC (own : String) (index : Nat) : Prop := Cond.methodLink own index arraycopyName ∈ TB ∧ Cond.native arraycopyName ∈ TB ∧ Cond.static arraycopyName ∈ TB ∧ Cond.initialized "java/lang/System" ∈ TB
def CWMmax (own : String) (index : Nat) : Prop := Cond.methodLink own index Lib.Math.max.name ∈ TB ∧ Cond.static Lib.Math.max.name ∈ TB ∧ Cond.initialized "java/lang/Math" ∈ TB ∧ Cond.code Lib.Math.max.name Lib.Math.max.code 2 (some .int) ∈ TB
def CWMmin (own : String) (index : Nat) : Prop := Cond.methodLink own index Lib.Math.min.name ∈ TB ∧ Cond.static Lib.Math.min.name ∈ TB ∧ Cond.initialized "java/lang/Math" ∈ TB ∧ Cond.code Lib.Math.min.name Lib.Math.min.code 2 (some .int) ∈ TB
theorem rx_copy (h : RX l SK E own cc nL ret R kc ks v M' G) {k0 n0 k1 n1 index : Nat} {sp dp n : Int32} {M2 : Mm} (hs0 : SK[k0]? = some (fun cy _ _ s _ => .inl (cy 0, n0, .inl s))) (hs1 : SK[k1]? = some (fun cy _ _ s _ => .inl (cy 0, n1, .inl s))) (hz : cpy M k0 n0 k1 n1 sp dp n = some M2)
    (hw : CWC own index) (hR : 1 ≤ R.frames ∧ (st.map fun v => v.category).sum + 18 ≤ R.locals) (d : decode cc pc = .ok (.invokestatic index, 3)) (kk : G (pc + 3) lv st M2) : G pc lv (.int n :: .int dp :: .ref (adr E k1) :: .int sp :: .ref (adr E k0) :: st) M := by
  obtain ⟨p, e, s, m, args, below, meth, c, A, hx, hb, hml, hr, hlo, hown, hts, hK, hD, hA, hE, hc, rfl⟩ := h
  unfold cpy at hz
  split at hz
  · rename_i hq
    cases hz
    exact fun H locs hP hS ls hl => va_copyi hx hb (hml.trans hl.1.symm) hown (hts _ hw.1) (hts _ hw.2.1) (hts _ hw.2.2.1) (hts _ hw.2.2.2) hK hP (hD M) hS k0 k1 0 0 (wE_get E M hs0) (wE_get E M hs1) rfl rfl rfl (Int32.not_lt.mpr hq.1) (Int32.not_lt.mpr hq.2.1) (Int32.not_lt.mpr hq.2.2.1) hq.2.2.2.1 hq.2.2.2.2 (fun _ _ => rfl) hR.1 (by rw [nfw]; exact hR.2) d (fun H locs hP hD hS => kk H locs (by rw [wE_set1 E M hs1] at hP; exact hP) hS ls hl)
  · cases hz
theorem rx_max (h : RX l SK E own cc nL ret R kc ks v M' G) {x y : Int32} {index : Nat} (hw : CWMmax own index) (hR : 1 ≤ R.frames ∧ (st.map fun v => v.category).sum + 13 ≤ R.locals) (d : decode cc pc = .ok (.invokestatic index, 3)) (kk : G (pc + 3) lv (.int (mx x y) :: st) M) : G pc lv (.int y :: .int x :: st) M := by
  obtain ⟨p, e, s, m, args, below, meth, c, A, hx, hb, hml, hr, hlo, hown, hts, hK, hD, hA, hE, hc, rfl⟩ := h
  exact fun H locs hP hS ls hl => va_mmax hx hb (hml.trans hl.1.symm) hown (hts _ hw.1) (hts _ hw.2.1) (hts _ hw.2.2.1) (hts _ hw.2.2.2) hR.1 hR.2 hc.1 hc.2 d (kk H locs hP hS ls hl)
theorem rx_min (h : RX l SK E own cc nL ret R kc ks v M' G) {x y : Int32} {index : Nat} (hw : CWMmin own index) (hR : 1 ≤ R.frames ∧ (st.map fun v => v.category).sum + 13 ≤ R.locals) (d : decode cc pc = .ok (.invokestatic index, 3)) (kk : G (pc + 3) lv (.int (mn x y) :: st) M) : G pc lv (.int y :: .int x :: st) M := by
  obtain ⟨p, e, s, m, args, below, meth, c, A, hx, hb, hml, hr, hlo, hown, hts, hK, hD, hA, hE, hc, rfl⟩ := h
  exact fun H locs hP hS ls hl => va_mmin hx hb (hml.trans hl.1.symm) hown (hts _ hw.1) (hts _ hw.2.1) (hts _ hw.2.2.1) (hts _ hw.2.2.2) hR.1 hR.2 hc.1 hc.2 d (kk H locs hP hS ls hl)
theorem rx_nmI (_h : RX l SK E own cc nL ret R kc ks v M' G) {a x : Int32} (hx : some a = some x) (kk : G pc lv (.int x :: st) M) : G pc lv (.int a :: st) M := by cases hx; exact kk
theorem rx_nmL (_h : RX l SK E own cc nL ret R kc ks v M' G) {a x : Int64} (hx : some a = some x) (kk : G pc lv (.long x :: st) M) : G pc lv (.long a :: st) M := by cases hx; exact kk
theorem rx_aald (h : RX l SK E own cc nL ret R kc ks v M' G) {q0 n p : Nat} {fq : (Nat → Nat) → Nat → Option Nat} {i : Int32} (hs : SK[q0]? = some (fun cy ad _ _ _ => .inl (cy 4, n, .inr (.inr (.inr (.inr (fq ad))))))) (hi : 0 ≤ i ∧ i.toNatClampNeg < n) (hp : fq E.2.1 i.toNatClampNeg = some (adr E p)) (d : decode cc pc = .ok (.aaload, 1)) (kk : G (pc + 1) lv (.ref (adr E p) :: st) M) : G pc lv (.int i :: .ref (adr E q0) :: st) M := by
  obtain ⟨p, e, s, m, args, below, meth, c, A, hx, hb, hml, hr, hlo, hown, hts, hK, hD, hA, hE, hc, rfl⟩ := h
  exact fun H locs hP hS ls hl => va_aldq hx hb hK hP q0 4 (wE_get E M hs) rfl (inb hi) d (by rw [hp]; exact kk H locs hP hS ls hl)
variable {y : MethodName} {yc : ByteArray} {nL2 fr lo q0 ci N index : Nat} {ret2 : Option FieldType} {As stk : List Value} {M2 : Mm} {e9 : Sk} {fs : List Value} {T : u_T}
theorem rx_cVi (h : RX l SK E own cc nL ret R kc ks v M' G) {r : Int32} (hct : Ct l SK E y yc nL2 ret2 fr lo (.ref (adr E q0) :: As) M (some (.int r)) M2) (hs : SK[q0]? = some e9) (he : e9 E.1 E.2.1 E.2.2.1 (M.1 q0) (M.2 q0) = .inr (ci, fs)) (hcl : vwCl[ci]? = some (y.cls, T, N)) (hw : CWV own index y yc nL2 ret2 As.length) (hR : fr + 1 ≤ R.frames ∧ 8 + (nL2 + 11) + lo ≤ R.locals) (hst : stk = As.reverse ++ .ref (adr E q0) :: st) (hrm : (st.map fun v => v.category).sum ≤ 8) (d : decode cc pc = .ok (.invokevirtual index, 3)) (kk : G (pc + 3) lv (.int r :: st) M2) : G pc lv stk M :=
  rx_callV h hct hs he hcl hw.1 hw.2.1 hw.2.2.1 hw.2.2.2.1 hw.2.2.2.2.1 hw.2.2.2.2.2 hR hst hrm d kk
theorem rx_cVl (h : RX l SK E own cc nL ret R kc ks v M' G) {r : Int64} (hct : Ct l SK E y yc nL2 ret2 fr lo (.ref (adr E q0) :: As) M (some (.long r)) M2) (hs : SK[q0]? = some e9) (he : e9 E.1 E.2.1 E.2.2.1 (M.1 q0) (M.2 q0) = .inr (ci, fs)) (hcl : vwCl[ci]? = some (y.cls, T, N)) (hw : CWV own index y yc nL2 ret2 As.length) (hR : fr + 1 ≤ R.frames ∧ 8 + (nL2 + 11) + lo ≤ R.locals) (hst : stk = As.reverse ++ .ref (adr E q0) :: st) (hrm : (st.map fun v => v.category).sum ≤ 8) (d : decode cc pc = .ok (.invokevirtual index, 3)) (kk : G (pc + 3) lv (.long r :: st) M2) : G pc lv stk M :=
  rx_callV h hct hs he hcl hw.1 hw.2.1 hw.2.2.1 hw.2.2.2.1 hw.2.2.2.2.1 hw.2.2.2.2.2 hR hst hrm d kk
theorem rx_cVv (h : RX l SK E own cc nL ret R kc ks v M' G) (hct : Ct l SK E y yc nL2 ret2 fr lo (.ref (adr E q0) :: As) M none M2) (hs : SK[q0]? = some e9) (he : e9 E.1 E.2.1 E.2.2.1 (M.1 q0) (M.2 q0) = .inr (ci, fs)) (hcl : vwCl[ci]? = some (y.cls, T, N)) (hw : CWV own index y yc nL2 ret2 As.length) (hR : fr + 1 ≤ R.frames ∧ 8 + (nL2 + 11) + lo ≤ R.locals) (hst : stk = As.reverse ++ .ref (adr E q0) :: st) (hrm : (st.map fun v => v.category).sum ≤ 8) (d : decode cc pc = .ok (.invokevirtual index, 3)) (kk : G (pc + 3) lv (st) M2) : G pc lv stk M :=
  rx_callV h hct hs he hcl hw.1 hw.2.1 hw.2.2.1 hw.2.2.2.1 hw.2.2.2.2.1 hw.2.2.2.2.2 hR hst hrm d kk
theorem rx_cSi (h : RX l SK E own cc nL ret R kc ks v M' G) {r : Int32} (hct : Ct l SK E y yc nL2 ret2 fr lo As M (some (.int r)) M2) (hw : CWS own index y yc nL2 ret2 As.length) (hR : fr + 1 ≤ R.frames ∧ 8 + (nL2 + 11) + lo ≤ R.locals) (hst : stk = As.reverse ++ st) (hrm : (st.map fun v => v.category).sum ≤ 8) (d : decode cc pc = .ok (.invokestatic index, 3)) (kk : G (pc + 3) lv (.int r :: st) M2) : G pc lv stk M :=
  rx_callS h hct hw.1 hw.2.1 hw.2.2.1 hw.2.2.2.1 hw.2.2.2.2 hR hst hrm d kk
theorem rx_cSl (h : RX l SK E own cc nL ret R kc ks v M' G) {r : Int64} (hct : Ct l SK E y yc nL2 ret2 fr lo As M (some (.long r)) M2) (hw : CWS own index y yc nL2 ret2 As.length) (hR : fr + 1 ≤ R.frames ∧ 8 + (nL2 + 11) + lo ≤ R.locals) (hst : stk = As.reverse ++ st) (hrm : (st.map fun v => v.category).sum ≤ 8) (d : decode cc pc = .ok (.invokestatic index, 3)) (kk : G (pc + 3) lv (.long r :: st) M2) : G pc lv stk M :=
  rx_callS h hct hw.1 hw.2.1 hw.2.2.1 hw.2.2.2.1 hw.2.2.2.2 hR hst hrm d kk
theorem rx_cSv (h : RX l SK E own cc nL ret R kc ks v M' G) (hct : Ct l SK E y yc nL2 ret2 fr lo As M none M2) (hw : CWS own index y yc nL2 ret2 As.length) (hR : fr + 1 ≤ R.frames ∧ 8 + (nL2 + 11) + lo ≤ R.locals) (hst : stk = As.reverse ++ st) (hrm : (st.map fun v => v.category).sum ≤ 8) (d : decode cc pc = .ok (.invokestatic index, 3)) (kk : G (pc + 3) lv (st) M2) : G pc lv stk M :=
  rx_callS h hct hw.1 hw.2.1 hw.2.2.1 hw.2.2.2.1 hw.2.2.2.2 hR hst hrm d kk
theorem rx_cNi (h : RX l SK E own cc nL ret R kc ks v M' G) {r : Int32} (hct : Ct l SK E y yc nL2 ret2 fr lo As M (some (.int r)) M2) (hw : CWN own index y yc nL2 ret2 As.length) (hR : fr + 1 ≤ R.frames ∧ 8 + (nL2 + 11) + lo ≤ R.locals) (hst : stk = As.reverse ++ st) (hrm : (st.map fun v => v.category).sum ≤ 8) (d : decode cc pc = .ok (.invokestatic index, 3)) (kk : G (pc + 3) lv (.int r :: st) M2) : G pc lv stk M :=
  rx_callSN h hct hw.1 hw.2.1 hw.2.2.1 hw.2.2.2.1 hw.2.2.2.2 hR hst hrm d kk
theorem rx_cNl (h : RX l SK E own cc nL ret R kc ks v M' G) {r : Int64} (hct : Ct l SK E y yc nL2 ret2 fr lo As M (some (.long r)) M2) (hw : CWN own index y yc nL2 ret2 As.length) (hR : fr + 1 ≤ R.frames ∧ 8 + (nL2 + 11) + lo ≤ R.locals) (hst : stk = As.reverse ++ st) (hrm : (st.map fun v => v.category).sum ≤ 8) (d : decode cc pc = .ok (.invokestatic index, 3)) (kk : G (pc + 3) lv (.long r :: st) M2) : G pc lv stk M :=
  rx_callSN h hct hw.1 hw.2.1 hw.2.2.1 hw.2.2.2.1 hw.2.2.2.2 hR hst hrm d kk
theorem rx_cNv (h : RX l SK E own cc nL ret R kc ks v M' G) (hct : Ct l SK E y yc nL2 ret2 fr lo As M none M2) (hw : CWN own index y yc nL2 ret2 As.length) (hR : fr + 1 ≤ R.frames ∧ 8 + (nL2 + 11) + lo ≤ R.locals) (hst : stk = As.reverse ++ st) (hrm : (st.map fun v => v.category).sum ≤ 8) (d : decode cc pc = .ok (.invokestatic index, 3)) (kk : G (pc + 3) lv (st) M2) : G pc lv stk M :=
  rx_callSN h hct hw.1 hw.2.1 hw.2.2.1 hw.2.2.2.1 hw.2.2.2.2 hR hst hrm d kk
end CALLS

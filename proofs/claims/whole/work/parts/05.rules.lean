/-- the String constants: class, place in its pool, text -/
def strs : List (String × Nat × String) := [("PullCards$Tokens", 62, "ware  bench setup rest  every cards order from  rule  first most  turn  "), ("PullCardsModel", 151, "ware"), ("PullCardsModel", 153, "bench"), ("PullCardsModel", 155, "setup"), ("PullCardsModel", 156, "rest"), ("PullCardsModel", 157, "every"), ("PullCardsModel", 158, "cards"), ("PullCardsModel", 160, "order"), ("PullCardsModel", 162, "from"), ("PullCardsModel", 164, "rule"), ("PullCardsModel", 166, "first"), ("PullCardsModel", 168, "most"), ("PullCardsModel", 170, "turn")]
def slen : List Nat := [72, 4, 5, 5, 4, 5, 5, 5, 4, 4, 5, 4, 4]
def sbyt : List (List Int32) := strs.map (fun q => q.2.2.toList.map (fun c => nI c.toNat))
def tysE (E : En) : List (ClassId × FieldType) := [(E.1 0, .int), (E.1 1, .byte), (E.1 2, .boolean), (E.1 3, .long), (E.1 4, .object "PullCards$Image")]
/-- calls of a nest mate's own methods -/
def nsts : List (String × Nat × MethodName) := [("PullCards$Reader", 112, ⟨"PullCards", "cell", "(II)I"⟩), ("PullCards$Line", 151, ⟨"PullCards", "cell", "(II)I"⟩), ("PullCards$Levers", 34, ⟨"PullCards", "cell", "(II)I"⟩), ("PullCards$Line", 128, ⟨"PullCards", "remainder", "(II)I"⟩), ("PullCards$Paper", 66, ⟨"PullCards", "cell", "(II)I"⟩)]
def strE (E : En) (A : Nat → Prop) (U : State) (H : Heap) : Prop := vk_S 13 slen sbyt E.2.2.2.2.1 E.2.2.2.2.2 A U H ∧ (∀ i q, strs[i]? = some q → vk_R q.1 q.2.1 q.2.2 (E.2.2.2.2.1 i) U) ∧ (∀ q ∈ nsts, va_Nw (.methodLinkNest q.1 q.2.1 q.2.2 "PullCards") U) ∧ va_Z "java/lang/String" "COMPACT_STRINGS" "Z" (.int 1) A U H ∧ va_Zq "jdk/internal/util/Preconditions" "SIOOBE_FORMATTER" "Ljava/util/function/BiFunction;" A U H
def Pic (SK : List Sk) (E : En) (M : Mm) (U : State) : Prop := va_P E.2.2.2.1 vwCl (wE SK E M) U.heap ∧ va_K E.2.2.2.1 vwCl (tysE E) U
/-- a method that makes nothing: from memory M with these arguments it answers v, memory is M' -/
def CtQ (SK : List Sk) (E : En) (v : Option Value) (M' : Mm) (A : Nat → Prop) : Array Value → State → Outcome → State → Prop := fun _ st oc t => (oc = .returned v ∧ Pic SK E M' t) ∧ va_F A st t
def CtP (SK : List Sk) (E : En) (M : Mm) (sz : Nat) (U : State) : Prop := U.heap.size = sz ∧ Pic SK E M U ∧ va_D (fun _ => True) (wE SK E M) ∧ strE E (va_A (wE SK E M) sz) U U.heap
def Ct (l : Launch) (SK : List Sk) (E : En) (y : MethodName) (cc : ByteArray) (nL : Nat) (ret : Option FieldType) (fr lo : Nat) (as : List Value) (M : Mm) (v : Option Value) (M' : Mm) : Prop :=
  ∀ sz, Met l y (Cond.code y cc nL ret :: TB) { frames := fr, cells := 0, slots := 0, locals := lo } (va_Pc as (CtP SK E M sz)) (CtQ SK E v M' (va_A (wE SK E M) sz)) 0 0 (va_A (wE SK E M) sz)
/-- G is the machine's way from a place of the method's code to its end (v, M') -/
def RX (l : Launch) (SK : List Sk) (E : En) (own : String) (cc : ByteArray) (nL : Nat) (ret : Option FieldType) (R : Room) (kc ks : Nat) (v : Option Value) (M' : Mm) (G : Nat → List (Nat × Value) → List Value → Mm → Prop) : Prop :=
  ∃ (p : Program) (e : Env) (s : State) (m : MethodId) (args : Array Value) (below : List Frame) (meth : Method) (c : Code) (A : Nat → Prop),
    p.tables.exec = Jvm.exec ∧ c.code = cc ∧ c.maxLocals = nL ∧ meth.sig.returnType = ret ∧ meth.locks = false ∧ s.vm.findClass own = some m.cls ∧ (∀ w ∈ TB, w.before args s = true) ∧ va_K E.2.2.2.1 vwCl (tysE E) s ∧ (∀ M, va_D A (wE SK E M)) ∧ (∀ q, s.heap.size ≤ q → A q) ∧ strE E A s s.heap ∧ (kc ≤ R.cells ∧ ks ≤ R.slots) ∧
    G = fun pc lv st M => ∀ (H : Heap) (locs : List Loc), va_P E.2.2.2.1 vwCl (wE SK E M) H → va_S A s.heap H locs → ∀ ls : Array Slot, lv_has ls nL lv → W p l e R s m args below meth c H locs kc ks (MQ below (CtQ SK E v M' A) args s kc ks A) (F0 m pc ls st)
section RULES
variable {l : Launch} {SK : List Sk} {E : En} {own : String} {cc : ByteArray} {nL : Nat} {ret : Option FieldType} {R : Room} {kc ks : Nat} {v : Option Value} {M' : Mm} {G : Nat → List (Nat × Value) → List Value → Mm → Prop}
variable {pc : Nat} {lv : List (Nat × Value)} {st : List Value} {M : Mm}
theorem ct_of {y : MethodName} {fr lo : Nat} {as : List Value} (hy : plainName y.cls = true) (hn : (lg_sl as).length ≤ nL)
    (body : ∀ G, RX l SK E y.cls cc nL ret { frames := fr, cells := 0, slots := 0, locals := lo } 0 0 v M' G → G 0 (lv_args 0 as) [] M) : Ct l SK E y cc nL ret fr lo as M v M' := by
  intro sz
  refine Met.ofW (cc := cc) (maxL := nL) (ret := ret) hy rfl ?_
  intro p e s m args below meth c s₁ B hml hv
  obtain ⟨rfl, hsz, ⟨hP, hK⟩, hD0, hE⟩ := hv
  have hts := atoms_spec (ws := Cond.code y cc nL ret :: TB) B.pre
  have hown : s.vm.findClass y.cls = some m.cls := findClass_of_methodNamed B.named
  subst hsz
  have hD := hD0.self (sz := s.heap.size)
  have hb := body _ ⟨p, e, s, m, as.toArray, below, meth, c, va_A (wE SK E M) s.heap.size, B.exec, B.bytes, hml, B.returns, B.notSynchronized, hown, fun w hw => hts w (List.mem_cons_of_mem _ hw), hK, wE_D hD, fun q h => Or.inr h, hE, ⟨Nat.zero_le _, Nat.zero_le _⟩, rfl⟩
  rw [lg_entry_eq]
  exact hb s.heap [] hP va_S.rf _ (lv_entry as hn)
theorem rx_sub (h : RX l SK E own cc nL ret R kc ks v M' G) (is : List Nat) {lv' : List (Nat × Value)} (hl : lv_pick lv is = lv') (k : G pc lv' st M) : G pc lv st M := by
  obtain ⟨p, e, s, m, args, below, meth, c, A, hx, hb, hml, hr, hlo, hown, hts, hK, hD, hA, hE, hc, rfl⟩ := h
  exact fun H locs hP hS ls h => k H locs hP hS ls (lv_sub h is hl)
theorem rx_iret {r : Int32} (h : RX l SK E own cc nL (some .int) R kc ks (some (.int r)) M' G) (d : decode cc pc = .ok (.ireturn, 1)) : G pc lv [.int r] M' := by
  obtain ⟨p, e, s, m, args, below, meth, c, A, hx, hb, hml, hr, hlo, hown, hts, hK, hD, hA, hE, hc, rfl⟩ := h
  exact fun H locs hP hS ls h => W.iret hx hb hr (fun t ht hW => ⟨⟨rfl, by rw [ht]; exact hP, va_K.moved hW.alike hK⟩, hS.F ht⟩) hS.2.2 d
theorem rx_zret {r x : Int32} (h : RX l SK E own cc nL (some .boolean) R kc ks (some (.int r)) M' G) (hz : zr x = some r) (d : decode cc pc = .ok (.ireturn, 1)) : G pc lv [.int x] M' := by
  obtain ⟨p, e, s, m, args, below, meth, c, A, hx, hb, hml, hr, hlo, hown, hts, hK, hD, hA, hE, hc, rfl⟩ := h
  have hz2 : (x = 0 ∨ x = 1) ∧ r = x := by
    unfold zr at hz
    split at hz
    · exact ⟨by assumption, (Option.some.inj hz).symm⟩
    · cases hz
  obtain ⟨h01, rfl⟩ := hz2
  exact fun H locs hP hS ls h => W.zret hx hb hr (by rcases h01 with rfl | rfl <;> rfl) (fun t ht hW => ⟨⟨rfl, by rw [ht]; exact hP, va_K.moved hW.alike hK⟩, hS.F ht⟩) hS.2.2 d
theorem rx_vret (h : RX l SK E own cc nL none R kc ks none M' G) (d : decode cc pc = .ok (.return_, 1)) : G pc lv [] M' := by
  obtain ⟨p, e, s, m, args, below, meth, c, A, hx, hb, hml, hr, hlo, hown, hts, hK, hD, hA, hE, hc, rfl⟩ := h
  exact fun H locs hP hS ls h => W.vret hx hb hr (fun t ht hW => ⟨⟨rfl, by rw [ht]; exact hP, va_K.moved hW.alike hK⟩, hS.F ht⟩) hS.2.2 d
theorem rx_lret {r : Int64} (h : RX l SK E own cc nL (some .long) R kc ks (some (.long r)) M' G) (d : decode cc pc = .ok (.lreturn, 1)) : G pc lv [.long r] M' := by
  obtain ⟨p, e, s, m, args, below, meth, c, A, hx, hb, hml, hr, hlo, hown, hts, hK, hD, hA, hE, hc, rfl⟩ := h
  exact fun H locs hP hS ls h => W.lret hx hb hr (fun t ht hW => ⟨⟨rfl, by rw [ht]; exact hP, va_K.moved hW.alike hK⟩, hS.F ht⟩) hS.2.2 d
theorem rx_iload_n (h : RX l SK E own cc nL ret R kc ks v M' G) {k : Fin 4} {x : Int32} (d : decode cc pc = .ok (.iload_n k, 1)) (j : Nat) (hj : lv[j]? = some ((k : Nat), .int x)) (kk : G (pc + 1) lv (.int x :: st) M) : G pc lv st M := by
  obtain ⟨p, e, s, m, args, below, meth, c, A, hx, hb, hml, hr, hlo, hown, hts, hK, hD, hA, hE, hc, rfl⟩ := h
  exact fun H locs hP hS ls hl => lv_iload_n hx hb d rfl (lv_at hl j hj) (kk H locs hP hS ls hl)
theorem rx_iload (h : RX l SK E own cc nL ret R kc ks v M' G) {k : Nat} {x : Int32} (d : decode cc pc = .ok (.iload k, 2)) (j : Nat) (hj : lv[j]? = some (k, .int x)) (kk : G (pc + 2) lv (.int x :: st) M) : G pc lv st M := by
  obtain ⟨p, e, s, m, args, below, meth, c, A, hx, hb, hml, hr, hlo, hown, hts, hK, hD, hA, hE, hc, rfl⟩ := h
  exact fun H locs hP hS ls hl => lv_iload hx hb d (lv_at hl j hj) (kk H locs hP hS ls hl)
theorem rx_istore_n (h : RX l SK E own cc nL ret R kc ks v M' G) {k : Fin 4} {x : Int32} {lv2 : List (Nat × Value)} (d : decode cc pc = .ok (.istore_n k, 1)) (hn : (k : Nat) < nL) (hl2 : ((k : Nat), Value.int x) :: lv.filter (fun q => !(q.1 == (k : Nat)) && !(q.1 + 1 == (k : Nat) && q.2.category == 2)) = lv2) (kk : G (pc + 1) lv2 st M) : G pc lv (.int x :: st) M := by
  obtain ⟨p, e, s, m, args, below, meth, c, A, hx, hb, hml, hr, hlo, hown, hts, hK, hD, hA, hE, hc, rfl⟩ := h
  exact fun H locs hP hS ls hl => lv_istore_n hx hb d rfl hl hn hl2 (fun ls hl => (kk H locs hP hS ls hl))
theorem rx_istore (h : RX l SK E own cc nL ret R kc ks v M' G) {k : Nat} {x : Int32} {lv2 : List (Nat × Value)} (d : decode cc pc = .ok (.istore k, 2)) (hn : k < nL) (hl2 : (k, Value.int x) :: lv.filter (fun q => !(q.1 == k) && !(q.1 + 1 == k && q.2.category == 2)) = lv2) (kk : G (pc + 2) lv2 st M) : G pc lv (.int x :: st) M := by
  obtain ⟨p, e, s, m, args, below, meth, c, A, hx, hb, hml, hr, hlo, hown, hts, hK, hD, hA, hE, hc, rfl⟩ := h
  exact fun H locs hP hS ls hl => lv_istore hx hb d hl hn hl2 (fun ls hl => (kk H locs hP hS ls hl))
theorem rx_lload_n (h : RX l SK E own cc nL ret R kc ks v M' G) {k : Fin 4} {x : Int64} (d : decode cc pc = .ok (.lload_n k, 1)) (j : Nat) (hj : lv[j]? = some ((k : Nat), .long x)) (kk : G (pc + 1) lv (.long x :: st) M) : G pc lv st M := by
  obtain ⟨p, e, s, m, args, below, meth, c, A, hx, hb, hml, hr, hlo, hown, hts, hK, hD, hA, hE, hc, rfl⟩ := h
  exact fun H locs hP hS ls hl => lv_lload_n hx hb d rfl (lv_at hl j hj) (kk H locs hP hS ls hl)
theorem rx_lload (h : RX l SK E own cc nL ret R kc ks v M' G) {k : Nat} {x : Int64} (d : decode cc pc = .ok (.lload k, 2)) (j : Nat) (hj : lv[j]? = some (k, .long x)) (kk : G (pc + 2) lv (.long x :: st) M) : G pc lv st M := by
  obtain ⟨p, e, s, m, args, below, meth, c, A, hx, hb, hml, hr, hlo, hown, hts, hK, hD, hA, hE, hc, rfl⟩ := h
  exact fun H locs hP hS ls hl => lv_lload hx hb d (lv_at hl j hj) (kk H locs hP hS ls hl)
theorem rx_lstore_n (h : RX l SK E own cc nL ret R kc ks v M' G) {k : Fin 4} {x : Int64} {lv2 : List (Nat × Value)} (d : decode cc pc = .ok (.lstore_n k, 1)) (hn : (k : Nat) + 1 < nL) (hl2 : ((k : Nat), Value.long x) :: lv.filter (fun q => !(q.1 == (k : Nat)) && (!(q.1 == (k : Nat) + 1) && !(q.1 + 1 == (k : Nat) && q.2.category == 2))) = lv2) (kk : G (pc + 1) lv2 st M) : G pc lv (.long x :: st) M := by
  obtain ⟨p, e, s, m, args, below, meth, c, A, hx, hb, hml, hr, hlo, hown, hts, hK, hD, hA, hE, hc, rfl⟩ := h
  exact fun H locs hP hS ls hl => lv_lstore_n hx hb d rfl hl hn hl2 (fun ls hl => (kk H locs hP hS ls hl))
theorem rx_lstore (h : RX l SK E own cc nL ret R kc ks v M' G) {k : Nat} {x : Int64} {lv2 : List (Nat × Value)} (d : decode cc pc = .ok (.lstore k, 2)) (hn : k + 1 < nL) (hl2 : (k, Value.long x) :: lv.filter (fun q => !(q.1 == k) && (!(q.1 == k + 1) && !(q.1 + 1 == k && q.2.category == 2))) = lv2) (kk : G (pc + 2) lv2 st M) : G pc lv (.long x :: st) M := by
  obtain ⟨p, e, s, m, args, below, meth, c, A, hx, hb, hml, hr, hlo, hown, hts, hK, hD, hA, hE, hc, rfl⟩ := h
  exact fun H locs hP hS ls hl => lv_lstore hx hb d hl hn hl2 (fun ls hl => (kk H locs hP hS ls hl))
theorem rx_aload_n (h : RX l SK E own cc nL ret R kc ks v M' G) {k : Fin 4} {x : Nat} (d : decode cc pc = .ok (.aload_n k, 1)) (j : Nat) (hj : lv[j]? = some ((k : Nat), .ref x)) (kk : G (pc + 1) lv (.ref x :: st) M) : G pc lv st M := by
  obtain ⟨p, e, s, m, args, below, meth, c, A, hx, hb, hml, hr, hlo, hown, hts, hK, hD, hA, hE, hc, rfl⟩ := h
  exact fun H locs hP hS ls hl => lv_aload_n hx hb d rfl (lv_at hl j hj) (kk H locs hP hS ls hl)
theorem rx_aload (h : RX l SK E own cc nL ret R kc ks v M' G) {k : Nat} {x : Nat} (d : decode cc pc = .ok (.aload k, 2)) (j : Nat) (hj : lv[j]? = some (k, .ref x)) (kk : G (pc + 2) lv (.ref x :: st) M) : G pc lv st M := by
  obtain ⟨p, e, s, m, args, below, meth, c, A, hx, hb, hml, hr, hlo, hown, hts, hK, hD, hA, hE, hc, rfl⟩ := h
  exact fun H locs hP hS ls hl => lv_aload hx hb d (lv_at hl j hj) (kk H locs hP hS ls hl)
theorem rx_astore_n (h : RX l SK E own cc nL ret R kc ks v M' G) {k : Fin 4} {x : Nat} {lv2 : List (Nat × Value)} (d : decode cc pc = .ok (.astore_n k, 1)) (hn : (k : Nat) < nL) (hl2 : ((k : Nat), Value.ref x) :: lv.filter (fun q => !(q.1 == (k : Nat)) && !(q.1 + 1 == (k : Nat) && q.2.category == 2)) = lv2) (kk : G (pc + 1) lv2 st M) : G pc lv (.ref x :: st) M := by
  obtain ⟨p, e, s, m, args, below, meth, c, A, hx, hb, hml, hr, hlo, hown, hts, hK, hD, hA, hE, hc, rfl⟩ := h
  exact fun H locs hP hS ls hl => lv_astore_n hx hb d rfl hl hn hl2 (fun ls hl => (kk H locs hP hS ls hl))
theorem rx_astore (h : RX l SK E own cc nL ret R kc ks v M' G) {k : Nat} {x : Nat} {lv2 : List (Nat × Value)} (d : decode cc pc = .ok (.astore k, 2)) (hn : k < nL) (hl2 : (k, Value.ref x) :: lv.filter (fun q => !(q.1 == k) && !(q.1 + 1 == k && q.2.category == 2)) = lv2) (kk : G (pc + 2) lv2 st M) : G pc lv (.ref x :: st) M := by
  obtain ⟨p, e, s, m, args, below, meth, c, A, hx, hb, hml, hr, hlo, hown, hts, hK, hD, hA, hE, hc, rfl⟩ := h
  exact fun H locs hP hS ls hl => lv_astore hx hb d hl hn hl2 (fun ls hl => (kk H locs hP hS ls hl))
theorem rx_iconst (h : RX l SK E own cc nL ret R kc ks v M' G) {n : Int} (x : Int32) (d : decode cc pc = .ok (.iconst n, 1)) (hv : Int32.ofInt n = x) (kk : G (pc + 1) lv (.int x :: st) M) : G pc lv st M := by
  obtain ⟨p, e, s, m, args, below, meth, c, A, hx, hb, hml, hr, hlo, hown, hts, hK, hD, hA, hE, hc, rfl⟩ := h
  exact fun H locs hP hS ls hl => lv_iconst hx hb d hv (kk H locs hP hS ls hl)
theorem rx_bipush (h : RX l SK E own cc nL ret R kc ks v M' G) {n : Int} (x : Int32) (d : decode cc pc = .ok (.bipush n, 2)) (hv : (Int8.ofInt n).toInt32 = x) (kk : G (pc + 2) lv (.int x :: st) M) : G pc lv st M := by
  obtain ⟨p, e, s, m, args, below, meth, c, A, hx, hb, hml, hr, hlo, hown, hts, hK, hD, hA, hE, hc, rfl⟩ := h
  exact fun H locs hP hS ls hl => lv_bipush hx hb d hv (kk H locs hP hS ls hl)
theorem rx_sipush (h : RX l SK E own cc nL ret R kc ks v M' G) {n : Int} (x : Int32) (d : decode cc pc = .ok (.sipush n, 3)) (hv : (Int16.ofInt n).toInt32 = x) (kk : G (pc + 3) lv (.int x :: st) M) : G pc lv st M := by
  obtain ⟨p, e, s, m, args, below, meth, c, A, hx, hb, hml, hr, hlo, hown, hts, hK, hD, hA, hE, hc, rfl⟩ := h
  exact fun H locs hP hS ls hl => lv_sipush hx hb d hv (kk H locs hP hS ls hl)
theorem rx_lconst (h : RX l SK E own cc nL ret R kc ks v M' G) {n : Fin 2} (x : Int64) (d : decode cc pc = .ok (.lconst n, 1)) (hv : Int64.ofNat (n : Nat) = x) (kk : G (pc + 1) lv (.long x :: st) M) : G pc lv st M := by
  obtain ⟨p, e, s, m, args, below, meth, c, A, hx, hb, hml, hr, hlo, hown, hts, hK, hD, hA, hE, hc, rfl⟩ := h
  exact fun H locs hP hS ls hl => lv_lconst hx hb d hv (kk H locs hP hS ls hl)
theorem rx_ldc2 (h : RX l SK E own cc nL ret R kc ks v M' G) {index : Nat} {x : Int64} (hw : Cond.constantLong own index x ∈ TB) (d : decode cc pc = .ok (.ldc2_w index, 3)) (kk : G (pc + 3) lv (.long x :: st) M) : G pc lv st M := by
  obtain ⟨p, e, s, m, args, below, meth, c, A, hx, hb, hml, hr, hlo, hown, hts, hK, hD, hA, hE, hc, rfl⟩ := h
  exact fun H locs hP hS ls hl => lv_ldc2 hx hb hown (hts _ hw) d (kk H locs hP hS ls hl)
theorem rx_ldcS (h : RX l SK E own cc nL ret R kc ks v M' G) {index : Nat} {tx : String} (i : Nat) (hi : strs[i]? = some (own, index, tx)) (d : decode cc pc = .ok (.ldc index, 2)) (kk : G (pc + 2) lv (.ref (E.2.2.2.2.1 i) :: st) M) : G pc lv st M := by
  obtain ⟨p, e, s, m, args, below, meth, c, A, hx, hb, hml, hr, hlo, hown, hts, hK, hD, hA, hE, hc, rfl⟩ := h
  exact fun H locs hP hS ls hl => va_ldcS hx hb hown (hE.2.1 i _ hi) d (kk H locs hP hS ls hl)
theorem rx_iadd (h : RX l SK E own cc nL ret R kc ks v M' G) {x y : Int32} (d : decode cc pc = .ok (.iadd, 1)) (kk : G (pc + 1) lv (.int (x + y) :: st) M) : G pc lv (.int y :: .int x :: st) M := by
  obtain ⟨p, e, s, m, args, below, meth, c, A, hx, hb, hml, hr, hlo, hown, hts, hK, hD, hA, hE, hc, rfl⟩ := h
  exact fun H locs hP hS ls hl => lv_iadd hx hb d (kk H locs hP hS ls hl)
theorem rx_isub (h : RX l SK E own cc nL ret R kc ks v M' G) {x y : Int32} (d : decode cc pc = .ok (.isub, 1)) (kk : G (pc + 1) lv (.int (x - y) :: st) M) : G pc lv (.int y :: .int x :: st) M := by
  obtain ⟨p, e, s, m, args, below, meth, c, A, hx, hb, hml, hr, hlo, hown, hts, hK, hD, hA, hE, hc, rfl⟩ := h
  exact fun H locs hP hS ls hl => lv_isub hx hb d (kk H locs hP hS ls hl)
theorem rx_imul (h : RX l SK E own cc nL ret R kc ks v M' G) {x y : Int32} (d : decode cc pc = .ok (.imul, 1)) (kk : G (pc + 1) lv (.int (x * y) :: st) M) : G pc lv (.int y :: .int x :: st) M := by
  obtain ⟨p, e, s, m, args, below, meth, c, A, hx, hb, hml, hr, hlo, hown, hts, hK, hD, hA, hE, hc, rfl⟩ := h
  exact fun H locs hP hS ls hl => lv_imul hx hb d (kk H locs hP hS ls hl)
theorem rx_iand (h : RX l SK E own cc nL ret R kc ks v M' G) {x y : Int32} (d : decode cc pc = .ok (.iand, 1)) (kk : G (pc + 1) lv (.int (x &&& y) :: st) M) : G pc lv (.int y :: .int x :: st) M := by
  obtain ⟨p, e, s, m, args, below, meth, c, A, hx, hb, hml, hr, hlo, hown, hts, hK, hD, hA, hE, hc, rfl⟩ := h
  exact fun H locs hP hS ls hl => lv_iand hx hb d (kk H locs hP hS ls hl)
theorem rx_ladd (h : RX l SK E own cc nL ret R kc ks v M' G) {x y : Int64} (d : decode cc pc = .ok (.ladd, 1)) (kk : G (pc + 1) lv (.long (x + y) :: st) M) : G pc lv (.long y :: .long x :: st) M := by
  obtain ⟨p, e, s, m, args, below, meth, c, A, hx, hb, hml, hr, hlo, hown, hts, hK, hD, hA, hE, hc, rfl⟩ := h
  exact fun H locs hP hS ls hl => lv_ladd hx hb d (kk H locs hP hS ls hl)
theorem rx_lsub (h : RX l SK E own cc nL ret R kc ks v M' G) {x y : Int64} (d : decode cc pc = .ok (.lsub, 1)) (kk : G (pc + 1) lv (.long (x - y) :: st) M) : G pc lv (.long y :: .long x :: st) M := by
  obtain ⟨p, e, s, m, args, below, meth, c, A, hx, hb, hml, hr, hlo, hown, hts, hK, hD, hA, hE, hc, rfl⟩ := h
  exact fun H locs hP hS ls hl => lv_lsub hx hb d (kk H locs hP hS ls hl)
theorem rx_lmul (h : RX l SK E own cc nL ret R kc ks v M' G) {x y : Int64} (d : decode cc pc = .ok (.lmul, 1)) (kk : G (pc + 1) lv (.long (x * y) :: st) M) : G pc lv (.long y :: .long x :: st) M := by
  obtain ⟨p, e, s, m, args, below, meth, c, A, hx, hb, hml, hr, hlo, hown, hts, hK, hD, hA, hE, hc, rfl⟩ := h
  exact fun H locs hP hS ls hl => lv_lmul hx hb d (kk H locs hP hS ls hl)
theorem rx_land (h : RX l SK E own cc nL ret R kc ks v M' G) {x y : Int64} (d : decode cc pc = .ok (.land, 1)) (kk : G (pc + 1) lv (.long (x &&& y) :: st) M) : G pc lv (.long y :: .long x :: st) M := by
  obtain ⟨p, e, s, m, args, below, meth, c, A, hx, hb, hml, hr, hlo, hown, hts, hK, hD, hA, hE, hc, rfl⟩ := h
  exact fun H locs hP hS ls hl => lv_land hx hb d (kk H locs hP hS ls hl)
theorem rx_lor (h : RX l SK E own cc nL ret R kc ks v M' G) {x y : Int64} (d : decode cc pc = .ok (.lor, 1)) (kk : G (pc + 1) lv (.long (x ||| y) :: st) M) : G pc lv (.long y :: .long x :: st) M := by
  obtain ⟨p, e, s, m, args, below, meth, c, A, hx, hb, hml, hr, hlo, hown, hts, hK, hD, hA, hE, hc, rfl⟩ := h
  exact fun H locs hP hS ls hl => lv_lor hx hb d (kk H locs hP hS ls hl)
theorem rx_lxor (h : RX l SK E own cc nL ret R kc ks v M' G) {x y : Int64} (d : decode cc pc = .ok (.lxor, 1)) (kk : G (pc + 1) lv (.long (x ^^^ y) :: st) M) : G pc lv (.long y :: .long x :: st) M := by
  obtain ⟨p, e, s, m, args, below, meth, c, A, hx, hb, hml, hr, hlo, hown, hts, hK, hD, hA, hE, hc, rfl⟩ := h
  exact fun H locs hP hS ls hl => lv_lxor hx hb d (kk H locs hP hS ls hl)
theorem rx_ishr (h : RX l SK E own cc nL ret R kc ks v M' G) {x y : Int32} (d : decode cc pc = .ok (.ishr, 1)) (kk : G (pc + 1) lv (.int (x >>> (y &&& 31)) :: st) M) : G pc lv (.int y :: .int x :: st) M := by
  obtain ⟨p, e, s, m, args, below, meth, c, A, hx, hb, hml, hr, hlo, hown, hts, hK, hD, hA, hE, hc, rfl⟩ := h
  exact fun H locs hP hS ls hl => lv_ishr hx hb d (kk H locs hP hS ls hl)
theorem rx_lshl (h : RX l SK E own cc nL ret R kc ks v M' G) {x : Int64} {y : Int32} (d : decode cc pc = .ok (.lshl, 1)) (kk : G (pc + 1) lv (.long (x <<< (y.toInt64 &&& 63)) :: st) M) : G pc lv (.int y :: .long x :: st) M := by
  obtain ⟨p, e, s, m, args, below, meth, c, A, hx, hb, hml, hr, hlo, hown, hts, hK, hD, hA, hE, hc, rfl⟩ := h
  exact fun H locs hP hS ls hl => lv_lshl hx hb d rfl (kk H locs hP hS ls hl)
theorem rx_lushr (h : RX l SK E own cc nL ret R kc ks v M' G) {x : Int64} {y : Int32} (d : decode cc pc = .ok (.lushr, 1)) (kk : G (pc + 1) lv (.long (x.toUInt64 >>> (y.toInt64.toUInt64 &&& Int64.toUInt64 63)).toInt64 :: st) M) : G pc lv (.int y :: .long x :: st) M := by
  obtain ⟨p, e, s, m, args, below, meth, c, A, hx, hb, hml, hr, hlo, hown, hts, hK, hD, hA, hE, hc, rfl⟩ := h
  exact fun H locs hP hS ls hl => lv_lushr hx hb d rfl (kk H locs hP hS ls hl)
theorem rx_lcmp (h : RX l SK E own cc nL ret R kc ks v M' G) {x y : Int64} (d : decode cc pc = .ok (.lcmp, 1)) (kk : G (pc + 1) lv (.int (lg_cmp x y) :: st) M) : G pc lv (.long y :: .long x :: st) M := by
  obtain ⟨p, e, s, m, args, below, meth, c, A, hx, hb, hml, hr, hlo, hown, hts, hK, hD, hA, hE, hc, rfl⟩ := h
  exact fun H locs hP hS ls hl => W.lcmp hx hb d (kk H locs hP hS ls hl)
theorem rx_i2l (h : RX l SK E own cc nL ret R kc ks v M' G) {x : Int32} (d : decode cc pc = .ok (.i2l, 1)) (kk : G (pc + 1) lv (.long x.toInt64 :: st) M) : G pc lv (.int x :: st) M := by
  obtain ⟨p, e, s, m, args, below, meth, c, A, hx, hb, hml, hr, hlo, hown, hts, hK, hD, hA, hE, hc, rfl⟩ := h
  exact fun H locs hP hS ls hl => lv_i2l hx hb d rfl (kk H locs hP hS ls hl)
theorem rx_l2i (h : RX l SK E own cc nL ret R kc ks v M' G) {x : Int64} (d : decode cc pc = .ok (.l2i, 1)) (kk : G (pc + 1) lv (.int x.toInt32 :: st) M) : G pc lv (.long x :: st) M := by
  obtain ⟨p, e, s, m, args, below, meth, c, A, hx, hb, hml, hr, hlo, hown, hts, hK, hD, hA, hE, hc, rfl⟩ := h
  exact fun H locs hP hS ls hl => lv_l2i hx hb d rfl (kk H locs hP hS ls hl)
theorem rx_i2b (h : RX l SK E own cc nL ret R kc ks v M' G) {x : Int32} (d : decode cc pc = .ok (.i2b, 1)) (kk : G (pc + 1) lv (.int x.toInt8.toInt32 :: st) M) : G pc lv (.int x :: st) M := by
  obtain ⟨p, e, s, m, args, below, meth, c, A, hx, hb, hml, hr, hlo, hown, hts, hK, hD, hA, hE, hc, rfl⟩ := h
  exact fun H locs hP hS ls hl => lv_i2b hx hb d rfl (kk H locs hP hS ls hl)
theorem rx_idiv (h : RX l SK E own cc nL ret R kc ks v M' G) {x y z : Int32} (hz : dvI x y = some z) (d : decode cc pc = .ok (.idiv, 1)) (kk : G (pc + 1) lv (.int z :: st) M) : G pc lv (.int y :: .int x :: st) M := by
  obtain ⟨p, e, s, m, args, below, meth, c, A, hx, hb, hml, hr, hlo, hown, hts, hK, hD, hA, hE, hc, rfl⟩ := h
  unfold dvI at hz
  split at hz
  · cases hz
  · cases hz
    exact fun H locs hP hS ls hl => lv_idiv hx hb d (by assumption) (kk H locs hP hS ls hl)
theorem rx_irem (h : RX l SK E own cc nL ret R kc ks v M' G) {x y z : Int32} (hz : rmI x y = some z) (d : decode cc pc = .ok (.irem, 1)) (kk : G (pc + 1) lv (.int z :: st) M) : G pc lv (.int y :: .int x :: st) M := by
  obtain ⟨p, e, s, m, args, below, meth, c, A, hx, hb, hml, hr, hlo, hown, hts, hK, hD, hA, hE, hc, rfl⟩ := h
  unfold rmI at hz
  split at hz
  · cases hz
  · cases hz
    exact fun H locs hP hS ls hl => lv_irem hx hb d (by assumption) (kk H locs hP hS ls hl)
theorem rx_ldiv (h : RX l SK E own cc nL ret R kc ks v M' G) {x y z : Int64} (hz : dvL x y = some z) (d : decode cc pc = .ok (.ldiv, 1)) (kk : G (pc + 1) lv (.long z :: st) M) : G pc lv (.long y :: .long x :: st) M := by
  obtain ⟨p, e, s, m, args, below, meth, c, A, hx, hb, hml, hr, hlo, hown, hts, hK, hD, hA, hE, hc, rfl⟩ := h
  unfold dvL at hz
  split at hz
  · cases hz
  · cases hz
    exact fun H locs hP hS ls hl => lv_ldiv hx hb d (by assumption) (kk H locs hP hS ls hl)
theorem rx_lrem (h : RX l SK E own cc nL ret R kc ks v M' G) {x y z : Int64} (hz : rmL x y = some z) (d : decode cc pc = .ok (.lrem, 1)) (kk : G (pc + 1) lv (.long z :: st) M) : G pc lv (.long y :: .long x :: st) M := by
  obtain ⟨p, e, s, m, args, below, meth, c, A, hx, hb, hml, hr, hlo, hown, hts, hK, hD, hA, hE, hc, rfl⟩ := h
  unfold rmL at hz
  split at hz
  · cases hz
  · cases hz
    exact fun H locs hP hS ls hl => lv_lrem hx hb d (by assumption) (kk H locs hP hS ls hl)
theorem rx_iinc (h : RX l SK E own cc nL ret R kc ks v M' G) {i : Nat} {n : Int} {x : Int32} {lv2 : List (Nat × Value)} (z : Int32) (d : decode cc pc = .ok (.iinc i n, 3)) (hz : Int32.ofInt n = z) (j : Nat) (hj : lv[j]? = some (i, .int x)) (hn : i < nL) (hl2 : (i, Value.int (x + z)) :: lv.filter (fun q => !(q.1 == i) && !(q.1 + 1 == i && q.2.category == 2)) = lv2) (kk : G (pc + 3) lv2 st M) : G pc lv st M := by
  obtain ⟨p, e, s, m, args, below, meth, c, A, hx, hb, hml, hr, hlo, hown, hts, hK, hD, hA, hE, hc, rfl⟩ := h
  exact fun H locs hP hS ls hl => lv_iinc hx hb d hl hj (by rw [hz]) hn hl2 (fun ls hl => (kk H locs hP hS ls hl))
theorem rx_dup (h : RX l SK E own cc nL ret R kc ks v M' G) {x : Value} (d : decode cc pc = .ok (.dup, 1)) (hc1 : x.category = 1) (kk : G (pc + 1) lv (x :: x :: st) M) : G pc lv (x :: st) M := by
  obtain ⟨p, e, s, m, args, below, meth, c, A, hx, hb, hml, hr, hlo, hown, hts, hK, hD, hA, hE, hc, rfl⟩ := h
  exact fun H locs hP hS ls hl => lv_dup hx hb d hc1 (kk H locs hP hS ls hl)
theorem rx_dup2 (h : RX l SK E own cc nL ret R kc ks v M' G) {x y : Value} (d : decode cc pc = .ok (.dup2, 1)) (hc1 : x.category = 1) (hc2 : y.category = 1) (kk : G (pc + 1) lv (x :: y :: x :: y :: st) M) : G pc lv (x :: y :: st) M := by
  obtain ⟨p, e, s, m, args, below, meth, c, A, hx, hb, hml, hr, hlo, hown, hts, hK, hD, hA, hE, hc, rfl⟩ := h
  exact fun H locs hP hS ls hl => lv_dup2_11 hx hb d hc1 hc2 (kk H locs hP hS ls hl)
theorem rx_pop (h : RX l SK E own cc nL ret R kc ks v M' G) {x : Value} (d : decode cc pc = .ok (.pop, 1)) (hc1 : x.category = 1) (kk : G (pc + 1) lv st M) : G pc lv (x :: st) M := by
  obtain ⟨p, e, s, m, args, below, meth, c, A, hx, hb, hml, hr, hlo, hown, hts, hK, hD, hA, hE, hc, rfl⟩ := h
  exact fun H locs hP hS ls hl => lv_pop hx hb d hc1 (kk H locs hP hS ls hl)
theorem rx_if_eq (h : RX l SK E own cc nL ret R kc ks v M' G) {x : Int32} {off : Int} (tgt : Nat) (d : decode cc pc = .ok (.ifCond .eq off, 3)) (ht : (pc : Int) + off = (tgt : Int)) (kt : x = 0 → G tgt lv st M) (kf : ¬ (x = 0) → G (pc + 3) lv st M) : G pc lv (.int x :: st) M := by
  obtain ⟨p, e, s, m, args, below, meth, c, A, hx, hb, hml, hr, hlo, hown, hts, hK, hD, hA, hE, hc, rfl⟩ := h
  exact fun H locs hP hS ls hl => lv_if_eq hx hb d ht (fun q => kt q H locs hP hS ls hl) (fun q => kf q H locs hP hS ls hl)
theorem rx_if_ne (h : RX l SK E own cc nL ret R kc ks v M' G) {x : Int32} {off : Int} (tgt : Nat) (d : decode cc pc = .ok (.ifCond .ne off, 3)) (ht : (pc : Int) + off = (tgt : Int)) (kt : ¬ x = 0 → G tgt lv st M) (kf : x = 0 → G (pc + 3) lv st M) : G pc lv (.int x :: st) M := by
  obtain ⟨p, e, s, m, args, below, meth, c, A, hx, hb, hml, hr, hlo, hown, hts, hK, hD, hA, hE, hc, rfl⟩ := h
  exact fun H locs hP hS ls hl => lv_if_ne hx hb d ht (fun q => kt q H locs hP hS ls hl) (fun q => kf q H locs hP hS ls hl)
theorem rx_if_lt (h : RX l SK E own cc nL ret R kc ks v M' G) {x : Int32} {off : Int} (tgt : Nat) (d : decode cc pc = .ok (.ifCond .lt off, 3)) (ht : (pc : Int) + off = (tgt : Int)) (kt : x < 0 → G tgt lv st M) (kf : ¬ (x < 0) → G (pc + 3) lv st M) : G pc lv (.int x :: st) M := by
  obtain ⟨p, e, s, m, args, below, meth, c, A, hx, hb, hml, hr, hlo, hown, hts, hK, hD, hA, hE, hc, rfl⟩ := h
  exact fun H locs hP hS ls hl => lv_if_lt hx hb d ht (fun q => kt q H locs hP hS ls hl) (fun q => kf q H locs hP hS ls hl)
theorem rx_if_ge (h : RX l SK E own cc nL ret R kc ks v M' G) {x : Int32} {off : Int} (tgt : Nat) (d : decode cc pc = .ok (.ifCond .ge off, 3)) (ht : (pc : Int) + off = (tgt : Int)) (kt : 0 ≤ x → G tgt lv st M) (kf : ¬ (0 ≤ x) → G (pc + 3) lv st M) : G pc lv (.int x :: st) M := by
  obtain ⟨p, e, s, m, args, below, meth, c, A, hx, hb, hml, hr, hlo, hown, hts, hK, hD, hA, hE, hc, rfl⟩ := h
  exact fun H locs hP hS ls hl => lv_if_ge hx hb d ht (fun q => kt q H locs hP hS ls hl) (fun q => kf q H locs hP hS ls hl)
theorem rx_if_gt (h : RX l SK E own cc nL ret R kc ks v M' G) {x : Int32} {off : Int} (tgt : Nat) (d : decode cc pc = .ok (.ifCond .gt off, 3)) (ht : (pc : Int) + off = (tgt : Int)) (kt : 0 < x → G tgt lv st M) (kf : ¬ (0 < x) → G (pc + 3) lv st M) : G pc lv (.int x :: st) M := by
  obtain ⟨p, e, s, m, args, below, meth, c, A, hx, hb, hml, hr, hlo, hown, hts, hK, hD, hA, hE, hc, rfl⟩ := h
  exact fun H locs hP hS ls hl => lv_if_gt hx hb d ht (fun q => kt q H locs hP hS ls hl) (fun q => kf q H locs hP hS ls hl)
theorem rx_if_le (h : RX l SK E own cc nL ret R kc ks v M' G) {x : Int32} {off : Int} (tgt : Nat) (d : decode cc pc = .ok (.ifCond .le off, 3)) (ht : (pc : Int) + off = (tgt : Int)) (kt : x ≤ 0 → G tgt lv st M) (kf : ¬ (x ≤ 0) → G (pc + 3) lv st M) : G pc lv (.int x :: st) M := by
  obtain ⟨p, e, s, m, args, below, meth, c, A, hx, hb, hml, hr, hlo, hown, hts, hK, hD, hA, hE, hc, rfl⟩ := h
  exact fun H locs hP hS ls hl => lv_if_le hx hb d ht (fun q => kt q H locs hP hS ls hl) (fun q => kf q H locs hP hS ls hl)
theorem rx_icmp_eq (h : RX l SK E own cc nL ret R kc ks v M' G) {x y : Int32} {off : Int} (tgt : Nat) (d : decode cc pc = .ok (.if_icmp .eq off, 3)) (ht : (pc : Int) + off = (tgt : Int)) (kt : x = y → G tgt lv st M) (kf : ¬ (x = y) → G (pc + 3) lv st M) : G pc lv (.int y :: .int x :: st) M := by
  obtain ⟨p, e, s, m, args, below, meth, c, A, hx, hb, hml, hr, hlo, hown, hts, hK, hD, hA, hE, hc, rfl⟩ := h
  exact fun H locs hP hS ls hl => lv_icmp_eq hx hb d ht (fun q => kt q H locs hP hS ls hl) (fun q => kf q H locs hP hS ls hl)
theorem rx_icmp_ne (h : RX l SK E own cc nL ret R kc ks v M' G) {x y : Int32} {off : Int} (tgt : Nat) (d : decode cc pc = .ok (.if_icmp .ne off, 3)) (ht : (pc : Int) + off = (tgt : Int)) (kt : ¬ x = y → G tgt lv st M) (kf : x = y → G (pc + 3) lv st M) : G pc lv (.int y :: .int x :: st) M := by
  obtain ⟨p, e, s, m, args, below, meth, c, A, hx, hb, hml, hr, hlo, hown, hts, hK, hD, hA, hE, hc, rfl⟩ := h
  exact fun H locs hP hS ls hl => lv_icmp_ne hx hb d ht (fun q => kt q H locs hP hS ls hl) (fun q => kf q H locs hP hS ls hl)
theorem rx_icmp_lt (h : RX l SK E own cc nL ret R kc ks v M' G) {x y : Int32} {off : Int} (tgt : Nat) (d : decode cc pc = .ok (.if_icmp .lt off, 3)) (ht : (pc : Int) + off = (tgt : Int)) (kt : x < y → G tgt lv st M) (kf : ¬ (x < y) → G (pc + 3) lv st M) : G pc lv (.int y :: .int x :: st) M := by
  obtain ⟨p, e, s, m, args, below, meth, c, A, hx, hb, hml, hr, hlo, hown, hts, hK, hD, hA, hE, hc, rfl⟩ := h
  exact fun H locs hP hS ls hl => lv_icmp_lt hx hb d ht (fun q => kt q H locs hP hS ls hl) (fun q => kf q H locs hP hS ls hl)
theorem rx_icmp_ge (h : RX l SK E own cc nL ret R kc ks v M' G) {x y : Int32} {off : Int} (tgt : Nat) (d : decode cc pc = .ok (.if_icmp .ge off, 3)) (ht : (pc : Int) + off = (tgt : Int)) (kt : y ≤ x → G tgt lv st M) (kf : ¬ (y ≤ x) → G (pc + 3) lv st M) : G pc lv (.int y :: .int x :: st) M := by
  obtain ⟨p, e, s, m, args, below, meth, c, A, hx, hb, hml, hr, hlo, hown, hts, hK, hD, hA, hE, hc, rfl⟩ := h
  exact fun H locs hP hS ls hl => lv_icmp_ge hx hb d ht (fun q => kt q H locs hP hS ls hl) (fun q => kf q H locs hP hS ls hl)
theorem rx_icmp_gt (h : RX l SK E own cc nL ret R kc ks v M' G) {x y : Int32} {off : Int} (tgt : Nat) (d : decode cc pc = .ok (.if_icmp .gt off, 3)) (ht : (pc : Int) + off = (tgt : Int)) (kt : y < x → G tgt lv st M) (kf : ¬ (y < x) → G (pc + 3) lv st M) : G pc lv (.int y :: .int x :: st) M := by
  obtain ⟨p, e, s, m, args, below, meth, c, A, hx, hb, hml, hr, hlo, hown, hts, hK, hD, hA, hE, hc, rfl⟩ := h
  exact fun H locs hP hS ls hl => lv_icmp_gt hx hb d ht (fun q => kt q H locs hP hS ls hl) (fun q => kf q H locs hP hS ls hl)
theorem rx_icmp_le (h : RX l SK E own cc nL ret R kc ks v M' G) {x y : Int32} {off : Int} (tgt : Nat) (d : decode cc pc = .ok (.if_icmp .le off, 3)) (ht : (pc : Int) + off = (tgt : Int)) (kt : x ≤ y → G tgt lv st M) (kf : ¬ (x ≤ y) → G (pc + 3) lv st M) : G pc lv (.int y :: .int x :: st) M := by
  obtain ⟨p, e, s, m, args, below, meth, c, A, hx, hb, hml, hr, hlo, hown, hts, hK, hD, hA, hE, hc, rfl⟩ := h
  exact fun H locs hP hS ls hl => lv_icmp_le hx hb d ht (fun q => kt q H locs hP hS ls hl) (fun q => kf q H locs hP hS ls hl)
theorem rx_goto (h : RX l SK E own cc nL ret R kc ks v M' G) {off : Int} (tgt : Nat) (d : decode cc pc = .ok (.goto off, 3)) (ht : (pc : Int) + off = (tgt : Int)) (kk : G tgt lv st M) : G pc lv st M := by
  obtain ⟨p, e, s, m, args, below, meth, c, A, hx, hb, hml, hr, hlo, hown, hts, hK, hD, hA, hE, hc, rfl⟩ := h
  exact fun H locs hP hS ls hl => lv_goto hx hb d ht (kk H locs hP hS ls hl)
theorem rx_ifnonnull (h : RX l SK E own cc nL ret R kc ks v M' G) {x : Nat} {off : Int} (tgt : Nat) (d : decode cc pc = .ok (.ifnonnull off, 3)) (ht : (pc : Int) + off = (tgt : Int)) (kk : G tgt lv st M) : G pc lv (.ref x :: st) M := by
  obtain ⟨p, e, s, m, args, below, meth, c, A, hx, hb, hml, hr, hlo, hown, hts, hK, hD, hA, hE, hc, rfl⟩ := h
  exact fun H locs hP hS ls hl => lv_ifnonnull hx hb d ht (kk H locs hP hS ls hl)
theorem rx_tableIn (h : RX l SK E own cc nL ret R kc ks v M' G) {dflt lo hi : Int} {offs : Array Int} {len : Nat} {x : Int32} {off : Int} (tgt : Nat) (z : Int) (hz : x.toInt = z) (d : decode cc pc = .ok (.tableswitch dflt lo hi offs, len)) (h1 : ¬ z < lo) (h2 : ¬ hi < z) (ho : offs[(z - lo).toNat]? = some off) (ht : (pc : Int) + off = (tgt : Int)) (kk : G tgt lv st M) : G pc lv (.int x :: st) M := by
  obtain ⟨p, e, s, m, args, below, meth, c, A, hx, hb, hml, hr, hlo, hown, hts, hK, hD, hA, hE, hc, rfl⟩ := h
  exact fun H locs hP hS ls hl => lv_tableIn hx hb d (by rw [hz]; exact h1) (by rw [hz]; exact h2) (by rw [hz]; exact ho) ht (kk H locs hP hS ls hl)
theorem rx_tableOut (h : RX l SK E own cc nL ret R kc ks v M' G) {dflt lo hi : Int} {offs : Array Int} {len : Nat} {x : Int32} (tgt : Nat) (d : decode cc pc = .ok (.tableswitch dflt lo hi offs, len)) (hz : x.toInt < lo ∨ hi < x.toInt) (ht : (pc : Int) + dflt = (tgt : Int)) (kk : G tgt lv st M) : G pc lv (.int x :: st) M := by
  obtain ⟨p, e, s, m, args, below, meth, c, A, hx, hb, hml, hr, hlo, hown, hts, hK, hD, hA, hE, hc, rfl⟩ := h
  exact fun H locs hP hS ls hl => lv_tableOut hx hb d hz ht (kk H locs hP hS ls hl)
theorem rx_lookup (h : RX l SK E own cc nL ret R kc ks v M' G) {dflt : Int} {ps : Array (Int × Int)} {len : Nat} {x : Int32} {off : Int} (tgt : Nat) (d : decode cc pc = .ok (.lookupswitch dflt ps, len)) (hp : (ps.toList.zip (ps.toList.drop 1)).all (fun (a, next) => a.1 < next.1) = true) (ho : Op.lookupswitch.offset ps.toList dflt x.toInt = off) (ht : (pc : Int) + off = (tgt : Int)) (kk : G tgt lv st M) : G pc lv (.int x :: st) M := by
  obtain ⟨p, e, s, m, args, below, meth, c, A, hx, hb, hml, hr, hlo, hown, hts, hK, hD, hA, hE, hc, rfl⟩ := h
  exact fun H locs hP hS ls hl => lv_lookup hx hb d hp ho ht (kk H locs hP hS ls hl)
theorem rx_iald (h : RX l SK E own cc nL ret R kc ks v M' G) {q0 n : Nat} {i : Int32} {z : Int32} (hs : SK[q0]? = some (fun cy ad tr s l => .inl (cy 0, n, .inl s))) (hz : rd (M.1 q0) n i = some z) (d : decode cc pc = .ok (.iaload, 1)) (kk : G (pc + 1) lv (.int z :: st) M) : G pc lv (.int i :: .ref (adr E q0) :: st) M := by
  obtain ⟨p, e, s, m, args, below, meth, c, A, hx, hb, hml, hr, hlo, hown, hts, hK, hD, hA, hE, hc, rfl⟩ := h
  unfold rd at hz
  split at hz
  · cases hz
    exact fun H locs hP hS ls hl => va_iald hx hb hK hP q0 0 (wE_get E M hs) rfl (inb (by assumption)) d (kk H locs hP hS ls hl)
  · cases hz
theorem rx_bald (h : RX l SK E own cc nL ret R kc ks v M' G) {q0 n : Nat} {i : Int32} {z : Int32} (hs : SK[q0]? = some (fun cy ad tr s l => .inl (cy 1, n, .inl s))) (hz : rd (M.1 q0) n i = some z) (d : decode cc pc = .ok (.baload, 1)) (kk : G (pc + 1) lv (.int z :: st) M) : G pc lv (.int i :: .ref (adr E q0) :: st) M := by
  obtain ⟨p, e, s, m, args, below, meth, c, A, hx, hb, hml, hr, hlo, hown, hts, hK, hD, hA, hE, hc, rfl⟩ := h
  unfold rd at hz
  split at hz
  · cases hz
    exact fun H locs hP hS ls hl => va_bald hx hb hK hP q0 1 (wE_get E M hs) rfl (inb (by assumption)) d (kk H locs hP hS ls hl)
  · cases hz
theorem rx_zald (h : RX l SK E own cc nL ret R kc ks v M' G) {q0 n : Nat} {i : Int32} {z : Int32} (hs : SK[q0]? = some (fun cy ad tr s l => .inl (cy 2, n, .inl s))) (hz : rd (M.1 q0) n i = some z) (d : decode cc pc = .ok (.baload, 1)) (kk : G (pc + 1) lv (.int z :: st) M) : G pc lv (.int i :: .ref (adr E q0) :: st) M := by
  obtain ⟨p, e, s, m, args, below, meth, c, A, hx, hb, hml, hr, hlo, hown, hts, hK, hD, hA, hE, hc, rfl⟩ := h
  unfold rd at hz
  split at hz
  · cases hz
    exact fun H locs hP hS ls hl => va_zald hx hb hK hP q0 2 (wE_get E M hs) rfl (inb (by assumption)) d (kk H locs hP hS ls hl)
  · cases hz
theorem rx_lald (h : RX l SK E own cc nL ret R kc ks v M' G) {q0 n : Nat} {i : Int32} {z : Int64} (hs : SK[q0]? = some (fun cy ad tr s l => .inl (cy 3, n, .inr (.inl l)))) (hz : rdL (M.2 q0) n i = some z) (d : decode cc pc = .ok (.laload, 1)) (kk : G (pc + 1) lv (.long z :: st) M) : G pc lv (.int i :: .ref (adr E q0) :: st) M := by
  obtain ⟨p, e, s, m, args, below, meth, c, A, hx, hb, hml, hr, hlo, hown, hts, hK, hD, hA, hE, hc, rfl⟩ := h
  unfold rdL at hz
  split at hz
  · cases hz
    exact fun H locs hP hS ls hl => va_lald hx hb hK hP q0 3 (wE_get E M hs) rfl (inb (by assumption)) d (kk H locs hP hS ls hl)
  · cases hz
theorem rx_iast (h : RX l SK E own cc nL ret R kc ks v M' G) {q0 n : Nat} {i : Int32} {x : Int32} {M2 : Mm} (hs : SK[q0]? = some (fun cy ad tr s l => .inl (cy 0, n, .inl s))) (hz : wr M q0 n i x = some M2) (d : decode cc pc = .ok (.iastore, 1)) (kk : G (pc + 1) lv st M2) : G pc lv (.int x :: .int i :: .ref (adr E q0) :: st) M := by
  obtain ⟨p, e, s, m, args, below, meth, c, A, hx, hb, hml, hr, hlo, hown, hts, hK, hD, hA, hE, hc, rfl⟩ := h
  unfold wr at hz
  split at hz
  · cases hz
    exact fun H locs hP hS ls hl => va_iast hx hb hK hP (hD M) hS q0 0 (wE_get E M hs) rfl (inb (by assumption)) d (fun H locs hP hD hS => kk H locs (by rw [wE_set1 E M hs] at hP; exact hP) hS ls hl)
  · cases hz
theorem rx_bast (h : RX l SK E own cc nL ret R kc ks v M' G) {q0 n : Nat} {i : Int32} {x : Int32} {M2 : Mm} (hs : SK[q0]? = some (fun cy ad tr s l => .inl (cy 1, n, .inl s))) (hz : wrB M q0 n i x = some M2) (d : decode cc pc = .ok (.bastore, 1)) (kk : G (pc + 1) lv st M2) : G pc lv (.int x :: .int i :: .ref (adr E q0) :: st) M := by
  obtain ⟨p, e, s, m, args, below, meth, c, A, hx, hb, hml, hr, hlo, hown, hts, hK, hD, hA, hE, hc, rfl⟩ := h
  unfold wrB at hz
  split at hz
  · cases hz
    exact fun H locs hP hS ls hl => va_bast hx hb hK hP (hD M) hS q0 1 (wE_get E M hs) rfl (inb (by assumption)) d (fun H locs hP hD hS => kk H locs (by rw [wE_set1 E M hs] at hP; exact hP) hS ls hl)
  · cases hz
theorem rx_zast (h : RX l SK E own cc nL ret R kc ks v M' G) {q0 n : Nat} {i : Int32} {x : Int32} {M2 : Mm} (hs : SK[q0]? = some (fun cy ad tr s l => .inl (cy 2, n, .inl s))) (hz : wrZ M q0 n i x = some M2) (d : decode cc pc = .ok (.bastore, 1)) (kk : G (pc + 1) lv st M2) : G pc lv (.int x :: .int i :: .ref (adr E q0) :: st) M := by
  obtain ⟨p, e, s, m, args, below, meth, c, A, hx, hb, hml, hr, hlo, hown, hts, hK, hD, hA, hE, hc, rfl⟩ := h
  unfold wrZ at hz
  split at hz
  · cases hz
    exact fun H locs hP hS ls hl => va_zast hx hb hK hP (hD M) hS q0 2 (wE_get E M hs) rfl (inb (by assumption)) d (fun H locs hP hD hS => kk H locs (by rw [wE_set1 E M hs] at hP; exact hP) hS ls hl)
  · cases hz
theorem rx_last (h : RX l SK E own cc nL ret R kc ks v M' G) {q0 n : Nat} {i : Int32} {x : Int64} {M2 : Mm} (hs : SK[q0]? = some (fun cy ad tr s l => .inl (cy 3, n, .inr (.inl l)))) (hz : wrL M q0 n i x = some M2) (d : decode cc pc = .ok (.lastore, 1)) (kk : G (pc + 1) lv st M2) : G pc lv (.long x :: .int i :: .ref (adr E q0) :: st) M := by
  obtain ⟨p, e, s, m, args, below, meth, c, A, hx, hb, hml, hr, hlo, hown, hts, hK, hD, hA, hE, hc, rfl⟩ := h
  unfold wrL at hz
  split at hz
  · cases hz
    exact fun H locs hP hS ls hl => va_last hx hb hK hP (hD M) hS q0 3 (wE_get E M hs) rfl (inb (by assumption)) d (fun H locs hP hD hS => kk H locs (by rw [wE_set2 E M hs] at hP; exact hP) hS ls hl)
  · cases hz
theorem rx_get (h : RX l SK E own cc nL ret R kc ks v M' G) {ci k index q0 N : Nat} {C ref : String} {T : u_T} {e9 : Sk} {fs : List Value} {x : Value} (hs : SK[q0]? = some e9) (he : e9 E.1 E.2.1 E.2.2.1 (M.1 q0) (M.2 q0) = .inr (ci, fs)) (hcl : vwCl[ci]? = some (C, T, N)) (hin : ∀ w ∈ u_ws C T N, w ∈ TB) (hk : k < N) (hw : Cond.fieldLink own index ref (T k).2.1 (T k).2.2.1 ∈ TB) (href : (T k).1 = ref) (hv : fs[k]? = some x) (d : decode cc pc = .ok (.getfield index, 3)) (kk : G (pc + 3) lv (x :: st) M) : G pc lv (.ref (adr E q0) :: st) M := by
  obtain ⟨p, e, s, m, args, below, meth, c, A, hx, hb, hml, hr, hlo, hown, hts, hK, hD, hA, hE, hc, rfl⟩ := h
  exact fun H locs hP hS ls hl => va_get hx hb hts hin hown hK hP q0 ((wE_get E M hs).trans (by rw [he])) hcl k hk (hts _ hw) (fun _ h9 => by rw [← href]; exact h9) hv d (kk H locs hP hS ls hl)
theorem rx_putI (h : RX l SK E own cc nL ret R kc ks v M' G) {ci k index q0 N : Nat} {C ref : String} {T : u_T} {e9 : Sk} {fs : List Value} {x : Int32} {ty : FieldType} (ty0 : Nat → FieldType) (hs : SK[q0]? = some e9) (he : e9 E.1 E.2.1 E.2.2.1 (M.1 q0) (M.2 q0) = .inr (ci, fs)) (hcl : vwCl[ci]? = some (C, T, N)) (hin : ∀ w ∈ u_ws C T N, w ∈ TB) (hty : ∀ k, k < N → parseFieldDescriptor (T k).2.2.1 = some (ty0 k)) (hnm : ∀ a, a < N → ∀ b, b < N → a ≠ b → (T a).2.1 ≠ (T b).2.1) (hk : k < N) (hw : Cond.fieldLink own index ref (T k).2.1 (T k).2.2.1 ∈ TB) (href : (T k).1 = ref) (hfin : (T k).2.2.2 = false) (hd : parseFieldDescriptor (T k).2.2.1 = some ty) (hlt : k < fs.length) (hset : e9 E.1 E.2.1 E.2.2.1 (upd (M.1 q0) k x) (M.2 q0) = .inr (ci, fs.set k (.int x))) (hn : narrow ty (.int x) = .int x) (hfit : fits ty (.int x) = true) (d : decode cc pc = .ok (.putfield index, 3)) (kk : G (pc + 3) lv st (u1 M q0 k x)) : G pc lv (.int x :: .ref (adr E q0) :: st) M := by
  obtain ⟨p, e, s, m, args, below, meth, c, A, hx, hb, hml, hr, hlo, hown, hts, hK, hD, hA, hE, hc, rfl⟩ := h
  exact fun H locs hP hS ls hl => va_put hx hb hts hin ty0 hty hnm hown hK hP (hD M) hS q0 ((wE_get E M hs).trans (by rw [he])) hcl k hk (hts _ hw) (fun _ h9 => by rw [← href]; exact h9) hfin hd hn hfit hlt d (fun H locs hP hD hS => kk H locs (by rw [← hset, wE_set1 E M hs] at hP; exact hP) hS ls hl)
theorem rx_putL (h : RX l SK E own cc nL ret R kc ks v M' G) {ci k index q0 N : Nat} {C ref : String} {T : u_T} {e9 : Sk} {fs : List Value} {x : Int64} {ty : FieldType} (ty0 : Nat → FieldType) (hs : SK[q0]? = some e9) (he : e9 E.1 E.2.1 E.2.2.1 (M.1 q0) (M.2 q0) = .inr (ci, fs)) (hcl : vwCl[ci]? = some (C, T, N)) (hin : ∀ w ∈ u_ws C T N, w ∈ TB) (hty : ∀ k, k < N → parseFieldDescriptor (T k).2.2.1 = some (ty0 k)) (hnm : ∀ a, a < N → ∀ b, b < N → a ≠ b → (T a).2.1 ≠ (T b).2.1) (hk : k < N) (hw : Cond.fieldLink own index ref (T k).2.1 (T k).2.2.1 ∈ TB) (href : (T k).1 = ref) (hfin : (T k).2.2.2 = false) (hd : parseFieldDescriptor (T k).2.2.1 = some ty) (hlt : k < fs.length) (hset : e9 E.1 E.2.1 E.2.2.1 (M.1 q0) (vp_updL (M.2 q0) k x) = .inr (ci, fs.set k (.long x))) (hn : narrow ty (.long x) = .long x) (hfit : fits ty (.long x) = true) (d : decode cc pc = .ok (.putfield index, 3)) (kk : G (pc + 3) lv st (u2 M q0 k x)) : G pc lv (.long x :: .ref (adr E q0) :: st) M := by
  obtain ⟨p, e, s, m, args, below, meth, c, A, hx, hb, hml, hr, hlo, hown, hts, hK, hD, hA, hE, hc, rfl⟩ := h
  exact fun H locs hP hS ls hl => va_put hx hb hts hin ty0 hty hnm hown hK hP (hD M) hS q0 ((wE_get E M hs).trans (by rw [he])) hcl k hk (hts _ hw) (fun _ h9 => by rw [← href]; exact h9) hfin hd hn hfit hlt d (fun H locs hP hD hS => kk H locs (by rw [← hset, wE_set2 E M hs] at hP; exact hP) hS ls hl)
end RULES

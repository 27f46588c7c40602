/-! methods that make cells: the world stands open as a list, with the counts of cells and slots made so far -/
abbrev NW : Type := va_W × Nat × Nat
abbrev XFt : Type := State → Array Value → List Frame → Method → (Nat → Prop) → (State → Prop) → Prop
def NX (l : Launch) (E : En) (own : String) (cc : ByteArray) (nL : Nat) (ret : Option FieldType) (R : Room) (XF : XFt) (G : Nat → List (Nat × Value) → List Value → NW → Prop) : Prop :=
  ∃ (p : Program) (e : Env) (s : State) (m : MethodId) (args : Array Value) (below : List Frame) (meth : Method) (c : Code) (A : Nat → Prop) (Q : State → Prop),
    p.tables.exec = Jvm.exec ∧ c.code = cc ∧ c.maxLocals = nL ∧ meth.sig.returnType = ret ∧ meth.locks = false ∧ s.vm.findClass own = some m.cls ∧ (∀ w ∈ TB, w.before args s = true) ∧ va_K E.2.2.2.1 vwCl (tysE E) s ∧ (∀ q, s.heap.size ≤ q → A q) ∧ va_AO "PullCards$Image" s ∧ XF s args below meth A Q ∧
    G = fun pc lv st N => ∀ (H : Heap) (locs : List Loc), va_P E.2.2.2.1 vwCl N.1 H → va_D A N.1 → va_S A s.heap H locs → ∀ ls : Array Slot, lv_has ls nL lv → W p l e R s m args below meth c H locs N.2.1 N.2.2 Q (F0 m pc ls st)
theorem va_P.spl {D : va_G} {cl : List vw_C} {w1 w2 : va_W} {H : Heap} (h : va_P D cl (w1 ++ w2) H) : va_P D cl w1 H ∧ va_P D cl w2 H := by
  have key : ∀ q ∈ w1 ++ w2, va_at D cl q H := fun q hq => by
    obtain ⟨k, hk⟩ := List.getElem?_of_mem hq
    exact h k q hk
  exact ⟨fun k q hk => key q (List.mem_append_left _ (List.mem_of_getElem? hk)), fun k q hk => key q (List.mem_append_right _ (List.mem_of_getElem? hk))⟩
theorem va_D.spl {A : Nat → Prop} {w1 w2 : va_W} (h : va_D A (w1 ++ w2)) : va_D A w1 ∧ va_D A w2 ∧ ∀ (i j : Nat) (p q : Nat × va_E), w1[i]? = some p → w2[j]? = some q → p.1 ≠ q.1 := by
  have e1 : ∀ (i : Nat) (p : Nat × va_E), w1[i]? = some p → (w1 ++ w2)[i]? = some p ∧ i < w1.length := fun i p hp => by
    have hl := (List.getElem?_eq_some_iff.mp hp).1
    exact ⟨by rw [List.getElem?_append_left hl]; exact hp, hl⟩
  have e2 : ∀ (i : Nat) (p : Nat × va_E), w2[i]? = some p → (w1 ++ w2)[w1.length + i]? = some p := fun i p hp => by
    rw [List.getElem?_append_right (by omega), show w1.length + i - w1.length = i by omega]; exact hp
  refine ⟨⟨fun i j p q hp hq e => h.1 i j p q (e1 i p hp).1 (e1 j q hq).1 e, fun k q hk => h.2 k q (e1 k q hk).1⟩, ⟨fun i j p q hp hq e => ?_, fun k q hk => h.2 _ q (e2 k q hk)⟩, fun i j p q hp hq e => ?_⟩
  · have := h.1 _ _ p q (e2 i p hp) (e2 j q hq) e
    omega
  · have := h.1 _ _ p q (e1 i p hp).1 (e2 j q hq) e
    have := (e1 i p hp).2
    omega
/-- behind a call on the part wc of the world: w1 in its place -/
theorem join3 {A0 : Nat → Prop} {D : va_G} {cl : List vw_C} {wa wc wb w1 : va_W} {H H1 : Heap} (hP : va_P D cl (wa ++ (wc ++ wb)) H) (hD : va_D A0 (wa ++ (wc ++ wb)))
    (hk : ∀ q : Nat, q < H.size → ¬ va_A wc H.size q → H1[q]? = H[q]?) (hF : ∀ q, va_A wc H.size q → A0 q) (hP1 : va_P D cl w1 H1) (hD1 : va_D (va_A wc H.size) w1) : va_P D cl (wa ++ (w1 ++ wb)) H1 ∧ va_D A0 (wa ++ (w1 ++ wb)) := by
  obtain ⟨pa, pcb⟩ := hP.spl
  obtain ⟨pc, pb⟩ := pcb.spl
  obtain ⟨da, dcb, xa⟩ := hD.spl
  obtain ⟨dc, db, xc⟩ := dcb.spl
  have na : ∀ (k : Nat) (q : Nat × va_E), wa[k]? = some q → q.1 < H.size ∧ ¬ va_A wc H.size q.1 := fun k q hq => by
    have hl := (pa k q hq).lt
    refine ⟨hl, ?_⟩
    rintro (⟨k2, e, h⟩ | h)
    · have hl2 := (List.getElem?_eq_some_iff.mp h).1
      exact xa k k2 q (q.1, e) hq (by rw [List.getElem?_append_left hl2]; exact h) rfl
    · omega
  have nb : ∀ (k : Nat) (q : Nat × va_E), wb[k]? = some q → q.1 < H.size ∧ ¬ va_A wc H.size q.1 := fun k q hq => by
    have hl := (pb k q hq).lt
    refine ⟨hl, ?_⟩
    rintro (⟨k2, e, h⟩ | h)
    · exact xc k2 k (q.1, e) q h hq rfl
    · omega
  have ka : va_P D cl wa H1 := fun k q hq => (pa k q hq).kept (hk _ (na k q hq).1 (na k q hq).2)
  have kb : va_P D cl wb H1 := fun k q hq => (pb k q hq).kept (hk _ (nb k q hq).1 (nb k q hq).2)
  have d1 : va_D A0 w1 := hD1.weaken (fun k q _ h => hF q.1 h)
  refine ⟨ka.app (hP1.app kb), va_D.app da (va_D.app d1 db (fun i j p q hp hq e => (nb j q hq).2 (by rw [← e]; exact hD1.2 i p hp))) (fun i j p q hp hq e => ?_)⟩
  rcases List.mem_append.mp (List.mem_of_getElem? hq) with h | h
  · obtain ⟨k, hk⟩ := List.getElem?_of_mem h
    exact (na i p hp).2 (by rw [e]; exact hD1.2 k q hk)
  · obtain ⟨k, hk⟩ := List.getElem?_of_mem h
    have h2 := (List.getElem?_eq_some_iff.mp hk).1
    exact xa i (wc.length + k) p q hp (by rw [List.getElem?_append_right (by omega), show wc.length + k - wc.length = k by omega]; exact hk) e
theorem ra_eq {U : State} {c1 c2 : ClassId} {ty : FieldType} (h1 : va_RA U c1 ty) (h2 : va_RA U c2 ty) : c1 = c2 := by
  cases ty with
  | object C =>
    obtain ⟨_, _, _, _, _, h1⟩ := h1
    obtain ⟨_, _, _, _, _, h2⟩ := h2
    exact Option.some.inj (h1.symm.trans h2)
  | _ => exact Option.some.inj (Eq.trans (Eq.symm h1) h2)
theorem wfree {A : Nat → Prop} {w : va_W} {s : State} {H : Heap} {locs : List Loc} (hD : va_D A w) (hS : va_S A s.heap H locs) (hA : ∀ q, s.heap.size ≤ q → A q) : ∀ q, va_A w H.size q → A q := by
  rintro q (⟨k, e, hk⟩ | h)
  · exact hD.2 k _ hk
  · exact hA q (Nat.le_trans hS.1 h)
section NRULES
variable {l : Launch} {E : En} {own : String} {cc : ByteArray} {nL : Nat} {ret : Option FieldType} {R : Room} {XF : XFt} {G : Nat → List (Nat × Value) → List Value → NW → Prop}
variable {pc : Nat} {lv : List (Nat × Value)} {st : List Value} {M : NW}
theorem nx_iload_n (h : NX l E own cc nL ret R XF G) {k : Fin 4} {x : Int32} (d : decode cc pc = .ok (.iload_n k, 1)) (j : Nat) (hj : lv[j]? = some ((k : Nat), .int x)) (kk : G (pc + 1) lv (.int x :: st) M) : G pc lv st M := by
  obtain ⟨p, e, s, m, args, below, meth, c, A, Q, hx, hb, hml, hr, hlo, hown, hts, hK, hA, hO, hX, rfl⟩ := h
  exact fun H locs hP hD hS ls hl => lv_iload_n hx hb d rfl (lv_at hl j hj) (kk H locs hP hD hS ls hl)
theorem nx_iload (h : NX l E own cc nL ret R XF G) {k : Nat} {x : Int32} (d : decode cc pc = .ok (.iload k, 2)) (j : Nat) (hj : lv[j]? = some (k, .int x)) (kk : G (pc + 2) lv (.int x :: st) M) : G pc lv st M := by
  obtain ⟨p, e, s, m, args, below, meth, c, A, Q, hx, hb, hml, hr, hlo, hown, hts, hK, hA, hO, hX, rfl⟩ := h
  exact fun H locs hP hD hS ls hl => lv_iload hx hb d (lv_at hl j hj) (kk H locs hP hD hS ls hl)
theorem nx_istore_n (h : NX l E own cc nL ret R XF G) {k : Fin 4} {x : Int32} {lv2 : List (Nat × Value)} (d : decode cc pc = .ok (.istore_n k, 1)) (hn : (k : Nat) < nL) (hl2 : ((k : Nat), Value.int x) :: lv.filter (fun q => !(q.1 == (k : Nat)) && !(q.1 + 1 == (k : Nat) && q.2.category == 2)) = lv2) (kk : G (pc + 1) lv2 st M) : G pc lv (.int x :: st) M := by
  obtain ⟨p, e, s, m, args, below, meth, c, A, Q, hx, hb, hml, hr, hlo, hown, hts, hK, hA, hO, hX, rfl⟩ := h
  exact fun H locs hP hD hS ls hl => lv_istore_n hx hb d rfl hl hn hl2 (fun ls hl => (kk H locs hP hD hS ls hl))
theorem nx_istore (h : NX l E own cc nL ret R XF G) {k : Nat} {x : Int32} {lv2 : List (Nat × Value)} (d : decode cc pc = .ok (.istore k, 2)) (hn : k < nL) (hl2 : (k, Value.int x) :: lv.filter (fun q => !(q.1 == k) && !(q.1 + 1 == k && q.2.category == 2)) = lv2) (kk : G (pc + 2) lv2 st M) : G pc lv (.int x :: st) M := by
  obtain ⟨p, e, s, m, args, below, meth, c, A, Q, hx, hb, hml, hr, hlo, hown, hts, hK, hA, hO, hX, rfl⟩ := h
  exact fun H locs hP hD hS ls hl => lv_istore hx hb d hl hn hl2 (fun ls hl => (kk H locs hP hD hS ls hl))
theorem nx_lload_n (h : NX l E own cc nL ret R XF G) {k : Fin 4} {x : Int64} (d : decode cc pc = .ok (.lload_n k, 1)) (j : Nat) (hj : lv[j]? = some ((k : Nat), .long x)) (kk : G (pc + 1) lv (.long x :: st) M) : G pc lv st M := by
  obtain ⟨p, e, s, m, args, below, meth, c, A, Q, hx, hb, hml, hr, hlo, hown, hts, hK, hA, hO, hX, rfl⟩ := h
  exact fun H locs hP hD hS ls hl => lv_lload_n hx hb d rfl (lv_at hl j hj) (kk H locs hP hD hS ls hl)
theorem nx_lload (h : NX l E own cc nL ret R XF G) {k : Nat} {x : Int64} (d : decode cc pc = .ok (.lload k, 2)) (j : Nat) (hj : lv[j]? = some (k, .long x)) (kk : G (pc + 2) lv (.long x :: st) M) : G pc lv st M := by
  obtain ⟨p, e, s, m, args, below, meth, c, A, Q, hx, hb, hml, hr, hlo, hown, hts, hK, hA, hO, hX, rfl⟩ := h
  exact fun H locs hP hD hS ls hl => lv_lload hx hb d (lv_at hl j hj) (kk H locs hP hD hS ls hl)
theorem nx_lstore_n (h : NX l E own cc nL ret R XF G) {k : Fin 4} {x : Int64} {lv2 : List (Nat × Value)} (d : decode cc pc = .ok (.lstore_n k, 1)) (hn : (k : Nat) + 1 < nL) (hl2 : ((k : Nat), Value.long x) :: lv.filter (fun q => !(q.1 == (k : Nat)) && (!(q.1 == (k : Nat) + 1) && !(q.1 + 1 == (k : Nat) && q.2.category == 2))) = lv2) (kk : G (pc + 1) lv2 st M) : G pc lv (.long x :: st) M := by
  obtain ⟨p, e, s, m, args, below, meth, c, A, Q, hx, hb, hml, hr, hlo, hown, hts, hK, hA, hO, hX, rfl⟩ := h
  exact fun H locs hP hD hS ls hl => lv_lstore_n hx hb d rfl hl hn hl2 (fun ls hl => (kk H locs hP hD hS ls hl))
theorem nx_lstore (h : NX l E own cc nL ret R XF G) {k : Nat} {x : Int64} {lv2 : List (Nat × Value)} (d : decode cc pc = .ok (.lstore k, 2)) (hn : k + 1 < nL) (hl2 : (k, Value.long x) :: lv.filter (fun q => !(q.1 == k) && (!(q.1 == k + 1) && !(q.1 + 1 == k && q.2.category == 2))) = lv2) (kk : G (pc + 2) lv2 st M) : G pc lv (.long x :: st) M := by
  obtain ⟨p, e, s, m, args, below, meth, c, A, Q, hx, hb, hml, hr, hlo, hown, hts, hK, hA, hO, hX, rfl⟩ := h
  exact fun H locs hP hD hS ls hl => lv_lstore hx hb d hl hn hl2 (fun ls hl => (kk H locs hP hD hS ls hl))
theorem nx_aload_n (h : NX l E own cc nL ret R XF G) {k : Fin 4} {x : Nat} (d : decode cc pc = .ok (.aload_n k, 1)) (j : Nat) (hj : lv[j]? = some ((k : Nat), .ref x)) (kk : G (pc + 1) lv (.ref x :: st) M) : G pc lv st M := by
  obtain ⟨p, e, s, m, args, below, meth, c, A, Q, hx, hb, hml, hr, hlo, hown, hts, hK, hA, hO, hX, rfl⟩ := h
  exact fun H locs hP hD hS ls hl => lv_aload_n hx hb d rfl (lv_at hl j hj) (kk H locs hP hD hS ls hl)
theorem nx_aload (h : NX l E own cc nL ret R XF G) {k : Nat} {x : Nat} (d : decode cc pc = .ok (.aload k, 2)) (j : Nat) (hj : lv[j]? = some (k, .ref x)) (kk : G (pc + 2) lv (.ref x :: st) M) : G pc lv st M := by
  obtain ⟨p, e, s, m, args, below, meth, c, A, Q, hx, hb, hml, hr, hlo, hown, hts, hK, hA, hO, hX, rfl⟩ := h
  exact fun H locs hP hD hS ls hl => lv_aload hx hb d (lv_at hl j hj) (kk H locs hP hD hS ls hl)
theorem nx_astore_n (h : NX l E own cc nL ret R XF G) {k : Fin 4} {x : Nat} {lv2 : List (Nat × Value)} (d : decode cc pc = .ok (.astore_n k, 1)) (hn : (k : Nat) < nL) (hl2 : ((k : Nat), Value.ref x) :: lv.filter (fun q => !(q.1 == (k : Nat)) && !(q.1 + 1 == (k : Nat) && q.2.category == 2)) = lv2) (kk : G (pc + 1) lv2 st M) : G pc lv (.ref x :: st) M := by
  obtain ⟨p, e, s, m, args, below, meth, c, A, Q, hx, hb, hml, hr, hlo, hown, hts, hK, hA, hO, hX, rfl⟩ := h
  exact fun H locs hP hD hS ls hl => lv_astore_n hx hb d rfl hl hn hl2 (fun ls hl => (kk H locs hP hD hS ls hl))
theorem nx_astore (h : NX l E own cc nL ret R XF G) {k : Nat} {x : Nat} {lv2 : List (Nat × Value)} (d : decode cc pc = .ok (.astore k, 2)) (hn : k < nL) (hl2 : (k, Value.ref x) :: lv.filter (fun q => !(q.1 == k) && !(q.1 + 1 == k && q.2.category == 2)) = lv2) (kk : G (pc + 2) lv2 st M) : G pc lv (.ref x :: st) M := by
  obtain ⟨p, e, s, m, args, below, meth, c, A, Q, hx, hb, hml, hr, hlo, hown, hts, hK, hA, hO, hX, rfl⟩ := h
  exact fun H locs hP hD hS ls hl => lv_astore hx hb d hl hn hl2 (fun ls hl => (kk H locs hP hD hS ls hl))
theorem nx_iconst (h : NX l E own cc nL ret R XF G) {n : Int} (x : Int32) (d : decode cc pc = .ok (.iconst n, 1)) (hv : Int32.ofInt n = x) (kk : G (pc + 1) lv (.int x :: st) M) : G pc lv st M := by
  obtain ⟨p, e, s, m, args, below, meth, c, A, Q, hx, hb, hml, hr, hlo, hown, hts, hK, hA, hO, hX, rfl⟩ := h
  exact fun H locs hP hD hS ls hl => lv_iconst hx hb d hv (kk H locs hP hD hS ls hl)
theorem nx_bipush (h : NX l E own cc nL ret R XF G) {n : Int} (x : Int32) (d : decode cc pc = .ok (.bipush n, 2)) (hv : (Int8.ofInt n).toInt32 = x) (kk : G (pc + 2) lv (.int x :: st) M) : G pc lv st M := by
  obtain ⟨p, e, s, m, args, below, meth, c, A, Q, hx, hb, hml, hr, hlo, hown, hts, hK, hA, hO, hX, rfl⟩ := h
  exact fun H locs hP hD hS ls hl => lv_bipush hx hb d hv (kk H locs hP hD hS ls hl)
theorem nx_sipush (h : NX l E own cc nL ret R XF G) {n : Int} (x : Int32) (d : decode cc pc = .ok (.sipush n, 3)) (hv : (Int16.ofInt n).toInt32 = x) (kk : G (pc + 3) lv (.int x :: st) M) : G pc lv st M := by
  obtain ⟨p, e, s, m, args, below, meth, c, A, Q, hx, hb, hml, hr, hlo, hown, hts, hK, hA, hO, hX, rfl⟩ := h
  exact fun H locs hP hD hS ls hl => lv_sipush hx hb d hv (kk H locs hP hD hS ls hl)
theorem nx_lconst (h : NX l E own cc nL ret R XF G) {n : Fin 2} (x : Int64) (d : decode cc pc = .ok (.lconst n, 1)) (hv : Int64.ofNat (n : Nat) = x) (kk : G (pc + 1) lv (.long x :: st) M) : G pc lv st M := by
  obtain ⟨p, e, s, m, args, below, meth, c, A, Q, hx, hb, hml, hr, hlo, hown, hts, hK, hA, hO, hX, rfl⟩ := h
  exact fun H locs hP hD hS ls hl => lv_lconst hx hb d hv (kk H locs hP hD hS ls hl)
theorem nx_ldc2 (h : NX l E own cc nL ret R XF G) {index : Nat} {x : Int64} (hw : Cond.constantLong own index x ∈ TB) (d : decode cc pc = .ok (.ldc2_w index, 3)) (kk : G (pc + 3) lv (.long x :: st) M) : G pc lv st M := by
  obtain ⟨p, e, s, m, args, below, meth, c, A, Q, hx, hb, hml, hr, hlo, hown, hts, hK, hA, hO, hX, rfl⟩ := h
  exact fun H locs hP hD hS ls hl => lv_ldc2 hx hb hown (hts _ hw) d (kk H locs hP hD hS ls hl)
theorem nx_iadd (h : NX l E own cc nL ret R XF G) {x y : Int32} (d : decode cc pc = .ok (.iadd, 1)) (kk : G (pc + 1) lv (.int (x + y) :: st) M) : G pc lv (.int y :: .int x :: st) M := by
  obtain ⟨p, e, s, m, args, below, meth, c, A, Q, hx, hb, hml, hr, hlo, hown, hts, hK, hA, hO, hX, rfl⟩ := h
  exact fun H locs hP hD hS ls hl => lv_iadd hx hb d (kk H locs hP hD hS ls hl)
theorem nx_isub (h : NX l E own cc nL ret R XF G) {x y : Int32} (d : decode cc pc = .ok (.isub, 1)) (kk : G (pc + 1) lv (.int (x - y) :: st) M) : G pc lv (.int y :: .int x :: st) M := by
  obtain ⟨p, e, s, m, args, below, meth, c, A, Q, hx, hb, hml, hr, hlo, hown, hts, hK, hA, hO, hX, rfl⟩ := h
  exact fun H locs hP hD hS ls hl => lv_isub hx hb d (kk H locs hP hD hS ls hl)
theorem nx_imul (h : NX l E own cc nL ret R XF G) {x y : Int32} (d : decode cc pc = .ok (.imul, 1)) (kk : G (pc + 1) lv (.int (x * y) :: st) M) : G pc lv (.int y :: .int x :: st) M := by
  obtain ⟨p, e, s, m, args, below, meth, c, A, Q, hx, hb, hml, hr, hlo, hown, hts, hK, hA, hO, hX, rfl⟩ := h
  exact fun H locs hP hD hS ls hl => lv_imul hx hb d (kk H locs hP hD hS ls hl)
theorem nx_iand (h : NX l E own cc nL ret R XF G) {x y : Int32} (d : decode cc pc = .ok (.iand, 1)) (kk : G (pc + 1) lv (.int (x &&& y) :: st) M) : G pc lv (.int y :: .int x :: st) M := by
  obtain ⟨p, e, s, m, args, below, meth, c, A, Q, hx, hb, hml, hr, hlo, hown, hts, hK, hA, hO, hX, rfl⟩ := h
  exact fun H locs hP hD hS ls hl => lv_iand hx hb d (kk H locs hP hD hS ls hl)
theorem nx_ladd (h : NX l E own cc nL ret R XF G) {x y : Int64} (d : decode cc pc = .ok (.ladd, 1)) (kk : G (pc + 1) lv (.long (x + y) :: st) M) : G pc lv (.long y :: .long x :: st) M := by
  obtain ⟨p, e, s, m, args, below, meth, c, A, Q, hx, hb, hml, hr, hlo, hown, hts, hK, hA, hO, hX, rfl⟩ := h
  exact fun H locs hP hD hS ls hl => lv_ladd hx hb d (kk H locs hP hD hS ls hl)
theorem nx_lsub (h : NX l E own cc nL ret R XF G) {x y : Int64} (d : decode cc pc = .ok (.lsub, 1)) (kk : G (pc + 1) lv (.long (x - y) :: st) M) : G pc lv (.long y :: .long x :: st) M := by
  obtain ⟨p, e, s, m, args, below, meth, c, A, Q, hx, hb, hml, hr, hlo, hown, hts, hK, hA, hO, hX, rfl⟩ := h
  exact fun H locs hP hD hS ls hl => lv_lsub hx hb d (kk H locs hP hD hS ls hl)
theorem nx_lmul (h : NX l E own cc nL ret R XF G) {x y : Int64} (d : decode cc pc = .ok (.lmul, 1)) (kk : G (pc + 1) lv (.long (x * y) :: st) M) : G pc lv (.long y :: .long x :: st) M := by
  obtain ⟨p, e, s, m, args, below, meth, c, A, Q, hx, hb, hml, hr, hlo, hown, hts, hK, hA, hO, hX, rfl⟩ := h
  exact fun H locs hP hD hS ls hl => lv_lmul hx hb d (kk H locs hP hD hS ls hl)
theorem nx_land (h : NX l E own cc nL ret R XF G) {x y : Int64} (d : decode cc pc = .ok (.land, 1)) (kk : G (pc + 1) lv (.long (x &&& y) :: st) M) : G pc lv (.long y :: .long x :: st) M := by
  obtain ⟨p, e, s, m, args, below, meth, c, A, Q, hx, hb, hml, hr, hlo, hown, hts, hK, hA, hO, hX, rfl⟩ := h
  exact fun H locs hP hD hS ls hl => lv_land hx hb d (kk H locs hP hD hS ls hl)
theorem nx_lor (h : NX l E own cc nL ret R XF G) {x y : Int64} (d : decode cc pc = .ok (.lor, 1)) (kk : G (pc + 1) lv (.long (x ||| y) :: st) M) : G pc lv (.long y :: .long x :: st) M := by
  obtain ⟨p, e, s, m, args, below, meth, c, A, Q, hx, hb, hml, hr, hlo, hown, hts, hK, hA, hO, hX, rfl⟩ := h
  exact fun H locs hP hD hS ls hl => lv_lor hx hb d (kk H locs hP hD hS ls hl)
theorem nx_lxor (h : NX l E own cc nL ret R XF G) {x y : Int64} (d : decode cc pc = .ok (.lxor, 1)) (kk : G (pc + 1) lv (.long (x ^^^ y) :: st) M) : G pc lv (.long y :: .long x :: st) M := by
  obtain ⟨p, e, s, m, args, below, meth, c, A, Q, hx, hb, hml, hr, hlo, hown, hts, hK, hA, hO, hX, rfl⟩ := h
  exact fun H locs hP hD hS ls hl => lv_lxor hx hb d (kk H locs hP hD hS ls hl)
theorem nx_ishr (h : NX l E own cc nL ret R XF G) {x y : Int32} (d : decode cc pc = .ok (.ishr, 1)) (kk : G (pc + 1) lv (.int (x >>> (y &&& 31)) :: st) M) : G pc lv (.int y :: .int x :: st) M := by
  obtain ⟨p, e, s, m, args, below, meth, c, A, Q, hx, hb, hml, hr, hlo, hown, hts, hK, hA, hO, hX, rfl⟩ := h
  exact fun H locs hP hD hS ls hl => lv_ishr hx hb d (kk H locs hP hD hS ls hl)
theorem nx_lshl (h : NX l E own cc nL ret R XF G) {x : Int64} {y : Int32} (d : decode cc pc = .ok (.lshl, 1)) (kk : G (pc + 1) lv (.long (x <<< (y.toInt64 &&& 63)) :: st) M) : G pc lv (.int y :: .long x :: st) M := by
  obtain ⟨p, e, s, m, args, below, meth, c, A, Q, hx, hb, hml, hr, hlo, hown, hts, hK, hA, hO, hX, rfl⟩ := h
  exact fun H locs hP hD hS ls hl => lv_lshl hx hb d rfl (kk H locs hP hD hS ls hl)
theorem nx_lushr (h : NX l E own cc nL ret R XF G) {x : Int64} {y : Int32} (d : decode cc pc = .ok (.lushr, 1)) (kk : G (pc + 1) lv (.long (x.toUInt64 >>> (y.toInt64.toUInt64 &&& Int64.toUInt64 63)).toInt64 :: st) M) : G pc lv (.int y :: .long x :: st) M := by
  obtain ⟨p, e, s, m, args, below, meth, c, A, Q, hx, hb, hml, hr, hlo, hown, hts, hK, hA, hO, hX, rfl⟩ := h
  exact fun H locs hP hD hS ls hl => lv_lushr hx hb d rfl (kk H locs hP hD hS ls hl)
theorem nx_lcmp (h : NX l E own cc nL ret R XF G) {x y : Int64} (d : decode cc pc = .ok (.lcmp, 1)) (kk : G (pc + 1) lv (.int (lg_cmp x y) :: st) M) : G pc lv (.long y :: .long x :: st) M := by
  obtain ⟨p, e, s, m, args, below, meth, c, A, Q, hx, hb, hml, hr, hlo, hown, hts, hK, hA, hO, hX, rfl⟩ := h
  exact fun H locs hP hD hS ls hl => W.lcmp hx hb d (kk H locs hP hD hS ls hl)
theorem nx_i2l (h : NX l E own cc nL ret R XF G) {x : Int32} (d : decode cc pc = .ok (.i2l, 1)) (kk : G (pc + 1) lv (.long x.toInt64 :: st) M) : G pc lv (.int x :: st) M := by
  obtain ⟨p, e, s, m, args, below, meth, c, A, Q, hx, hb, hml, hr, hlo, hown, hts, hK, hA, hO, hX, rfl⟩ := h
  exact fun H locs hP hD hS ls hl => lv_i2l hx hb d rfl (kk H locs hP hD hS ls hl)
theorem nx_l2i (h : NX l E own cc nL ret R XF G) {x : Int64} (d : decode cc pc = .ok (.l2i, 1)) (kk : G (pc + 1) lv (.int x.toInt32 :: st) M) : G pc lv (.long x :: st) M := by
  obtain ⟨p, e, s, m, args, below, meth, c, A, Q, hx, hb, hml, hr, hlo, hown, hts, hK, hA, hO, hX, rfl⟩ := h
  exact fun H locs hP hD hS ls hl => lv_l2i hx hb d rfl (kk H locs hP hD hS ls hl)
theorem nx_i2b (h : NX l E own cc nL ret R XF G) {x : Int32} (d : decode cc pc = .ok (.i2b, 1)) (kk : G (pc + 1) lv (.int x.toInt8.toInt32 :: st) M) : G pc lv (.int x :: st) M := by
  obtain ⟨p, e, s, m, args, below, meth, c, A, Q, hx, hb, hml, hr, hlo, hown, hts, hK, hA, hO, hX, rfl⟩ := h
  exact fun H locs hP hD hS ls hl => lv_i2b hx hb d rfl (kk H locs hP hD hS ls hl)
theorem nx_idiv (h : NX l E own cc nL ret R XF G) {x y z : Int32} (hz : dvI x y = some z) (d : decode cc pc = .ok (.idiv, 1)) (kk : G (pc + 1) lv (.int z :: st) M) : G pc lv (.int y :: .int x :: st) M := by
  obtain ⟨p, e, s, m, args, below, meth, c, A, Q, hx, hb, hml, hr, hlo, hown, hts, hK, hA, hO, hX, rfl⟩ := h
  unfold dvI at hz
  split at hz
  · cases hz
  · cases hz
    exact fun H locs hP hD hS ls hl => lv_idiv hx hb d (by assumption) (kk H locs hP hD hS ls hl)
theorem nx_irem (h : NX l E own cc nL ret R XF G) {x y z : Int32} (hz : rmI x y = some z) (d : decode cc pc = .ok (.irem, 1)) (kk : G (pc + 1) lv (.int z :: st) M) : G pc lv (.int y :: .int x :: st) M := by
  obtain ⟨p, e, s, m, args, below, meth, c, A, Q, hx, hb, hml, hr, hlo, hown, hts, hK, hA, hO, hX, rfl⟩ := h
  unfold rmI at hz
  split at hz
  · cases hz
  · cases hz
    exact fun H locs hP hD hS ls hl => lv_irem hx hb d (by assumption) (kk H locs hP hD hS ls hl)
theorem nx_ldiv (h : NX l E own cc nL ret R XF G) {x y z : Int64} (hz : dvL x y = some z) (d : decode cc pc = .ok (.ldiv, 1)) (kk : G (pc + 1) lv (.long z :: st) M) : G pc lv (.long y :: .long x :: st) M := by
  obtain ⟨p, e, s, m, args, below, meth, c, A, Q, hx, hb, hml, hr, hlo, hown, hts, hK, hA, hO, hX, rfl⟩ := h
  unfold dvL at hz
  split at hz
  · cases hz
  · cases hz
    exact fun H locs hP hD hS ls hl => lv_ldiv hx hb d (by assumption) (kk H locs hP hD hS ls hl)
theorem nx_lrem (h : NX l E own cc nL ret R XF G) {x y z : Int64} (hz : rmL x y = some z) (d : decode cc pc = .ok (.lrem, 1)) (kk : G (pc + 1) lv (.long z :: st) M) : G pc lv (.long y :: .long x :: st) M := by
  obtain ⟨p, e, s, m, args, below, meth, c, A, Q, hx, hb, hml, hr, hlo, hown, hts, hK, hA, hO, hX, rfl⟩ := h
  unfold rmL at hz
  split at hz
  · cases hz
  · cases hz
    exact fun H locs hP hD hS ls hl => lv_lrem hx hb d (by assumption) (kk H locs hP hD hS ls hl)
theorem nx_iinc (h : NX l E own cc nL ret R XF G) {i : Nat} {n : Int} {x : Int32} {lv2 : List (Nat × Value)} (z : Int32) (d : decode cc pc = .ok (.iinc i n, 3)) (hz : Int32.ofInt n = z) (j : Nat) (hj : lv[j]? = some (i, .int x)) (hn : i < nL) (hl2 : (i, Value.int (x + z)) :: lv.filter (fun q => !(q.1 == i) && !(q.1 + 1 == i && q.2.category == 2)) = lv2) (kk : G (pc + 3) lv2 st M) : G pc lv st M := by
  obtain ⟨p, e, s, m, args, below, meth, c, A, Q, hx, hb, hml, hr, hlo, hown, hts, hK, hA, hO, hX, rfl⟩ := h
  exact fun H locs hP hD hS ls hl => lv_iinc hx hb d hl hj (by rw [hz]) hn hl2 (fun ls hl => (kk H locs hP hD hS ls hl))
theorem nx_dup (h : NX l E own cc nL ret R XF G) {x : Value} (d : decode cc pc = .ok (.dup, 1)) (hc1 : x.category = 1) (kk : G (pc + 1) lv (x :: x :: st) M) : G pc lv (x :: st) M := by
  obtain ⟨p, e, s, m, args, below, meth, c, A, Q, hx, hb, hml, hr, hlo, hown, hts, hK, hA, hO, hX, rfl⟩ := h
  exact fun H locs hP hD hS ls hl => lv_dup hx hb d hc1 (kk H locs hP hD hS ls hl)
theorem nx_dup2 (h : NX l E own cc nL ret R XF G) {x y : Value} (d : decode cc pc = .ok (.dup2, 1)) (hc1 : x.category = 1) (hc2 : y.category = 1) (kk : G (pc + 1) lv (x :: y :: x :: y :: st) M) : G pc lv (x :: y :: st) M := by
  obtain ⟨p, e, s, m, args, below, meth, c, A, Q, hx, hb, hml, hr, hlo, hown, hts, hK, hA, hO, hX, rfl⟩ := h
  exact fun H locs hP hD hS ls hl => lv_dup2_11 hx hb d hc1 hc2 (kk H locs hP hD hS ls hl)
theorem nx_pop (h : NX l E own cc nL ret R XF G) {x : Value} (d : decode cc pc = .ok (.pop, 1)) (hc1 : x.category = 1) (kk : G (pc + 1) lv st M) : G pc lv (x :: st) M := by
  obtain ⟨p, e, s, m, args, below, meth, c, A, Q, hx, hb, hml, hr, hlo, hown, hts, hK, hA, hO, hX, rfl⟩ := h
  exact fun H locs hP hD hS ls hl => lv_pop hx hb d hc1 (kk H locs hP hD hS ls hl)
theorem nx_if_eq (h : NX l E own cc nL ret R XF G) {x : Int32} {off : Int} (tgt : Nat) (d : decode cc pc = .ok (.ifCond .eq off, 3)) (ht : (pc : Int) + off = (tgt : Int)) (kt : x = 0 → G tgt lv st M) (kf : ¬ (x = 0) → G (pc + 3) lv st M) : G pc lv (.int x :: st) M := by
  obtain ⟨p, e, s, m, args, below, meth, c, A, Q, hx, hb, hml, hr, hlo, hown, hts, hK, hA, hO, hX, rfl⟩ := h
  exact fun H locs hP hD hS ls hl => lv_if_eq hx hb d ht (fun q => kt q H locs hP hD hS ls hl) (fun q => kf q H locs hP hD hS ls hl)
theorem nx_if_ne (h : NX l E own cc nL ret R XF G) {x : Int32} {off : Int} (tgt : Nat) (d : decode cc pc = .ok (.ifCond .ne off, 3)) (ht : (pc : Int) + off = (tgt : Int)) (kt : ¬ x = 0 → G tgt lv st M) (kf : x = 0 → G (pc + 3) lv st M) : G pc lv (.int x :: st) M := by
  obtain ⟨p, e, s, m, args, below, meth, c, A, Q, hx, hb, hml, hr, hlo, hown, hts, hK, hA, hO, hX, rfl⟩ := h
  exact fun H locs hP hD hS ls hl => lv_if_ne hx hb d ht (fun q => kt q H locs hP hD hS ls hl) (fun q => kf q H locs hP hD hS ls hl)
theorem nx_if_lt (h : NX l E own cc nL ret R XF G) {x : Int32} {off : Int} (tgt : Nat) (d : decode cc pc = .ok (.ifCond .lt off, 3)) (ht : (pc : Int) + off = (tgt : Int)) (kt : x < 0 → G tgt lv st M) (kf : ¬ (x < 0) → G (pc + 3) lv st M) : G pc lv (.int x :: st) M := by
  obtain ⟨p, e, s, m, args, below, meth, c, A, Q, hx, hb, hml, hr, hlo, hown, hts, hK, hA, hO, hX, rfl⟩ := h
  exact fun H locs hP hD hS ls hl => lv_if_lt hx hb d ht (fun q => kt q H locs hP hD hS ls hl) (fun q => kf q H locs hP hD hS ls hl)
theorem nx_if_ge (h : NX l E own cc nL ret R XF G) {x : Int32} {off : Int} (tgt : Nat) (d : decode cc pc = .ok (.ifCond .ge off, 3)) (ht : (pc : Int) + off = (tgt : Int)) (kt : 0 ≤ x → G tgt lv st M) (kf : ¬ (0 ≤ x) → G (pc + 3) lv st M) : G pc lv (.int x :: st) M := by
  obtain ⟨p, e, s, m, args, below, meth, c, A, Q, hx, hb, hml, hr, hlo, hown, hts, hK, hA, hO, hX, rfl⟩ := h
  exact fun H locs hP hD hS ls hl => lv_if_ge hx hb d ht (fun q => kt q H locs hP hD hS ls hl) (fun q => kf q H locs hP hD hS ls hl)
theorem nx_if_gt (h : NX l E own cc nL ret R XF G) {x : Int32} {off : Int} (tgt : Nat) (d : decode cc pc = .ok (.ifCond .gt off, 3)) (ht : (pc : Int) + off = (tgt : Int)) (kt : 0 < x → G tgt lv st M) (kf : ¬ (0 < x) → G (pc + 3) lv st M) : G pc lv (.int x :: st) M := by
  obtain ⟨p, e, s, m, args, below, meth, c, A, Q, hx, hb, hml, hr, hlo, hown, hts, hK, hA, hO, hX, rfl⟩ := h
  exact fun H locs hP hD hS ls hl => lv_if_gt hx hb d ht (fun q => kt q H locs hP hD hS ls hl) (fun q => kf q H locs hP hD hS ls hl)
theorem nx_if_le (h : NX l E own cc nL ret R XF G) {x : Int32} {off : Int} (tgt : Nat) (d : decode cc pc = .ok (.ifCond .le off, 3)) (ht : (pc : Int) + off = (tgt : Int)) (kt : x ≤ 0 → G tgt lv st M) (kf : ¬ (x ≤ 0) → G (pc + 3) lv st M) : G pc lv (.int x :: st) M := by
  obtain ⟨p, e, s, m, args, below, meth, c, A, Q, hx, hb, hml, hr, hlo, hown, hts, hK, hA, hO, hX, rfl⟩ := h
  exact fun H locs hP hD hS ls hl => lv_if_le hx hb d ht (fun q => kt q H locs hP hD hS ls hl) (fun q => kf q H locs hP hD hS ls hl)
theorem nx_icmp_eq (h : NX l E own cc nL ret R XF G) {x y : Int32} {off : Int} (tgt : Nat) (d : decode cc pc = .ok (.if_icmp .eq off, 3)) (ht : (pc : Int) + off = (tgt : Int)) (kt : x = y → G tgt lv st M) (kf : ¬ (x = y) → G (pc + 3) lv st M) : G pc lv (.int y :: .int x :: st) M := by
  obtain ⟨p, e, s, m, args, below, meth, c, A, Q, hx, hb, hml, hr, hlo, hown, hts, hK, hA, hO, hX, rfl⟩ := h
  exact fun H locs hP hD hS ls hl => lv_icmp_eq hx hb d ht (fun q => kt q H locs hP hD hS ls hl) (fun q => kf q H locs hP hD hS ls hl)
theorem nx_icmp_ne (h : NX l E own cc nL ret R XF G) {x y : Int32} {off : Int} (tgt : Nat) (d : decode cc pc = .ok (.if_icmp .ne off, 3)) (ht : (pc : Int) + off = (tgt : Int)) (kt : ¬ x = y → G tgt lv st M) (kf : x = y → G (pc + 3) lv st M) : G pc lv (.int y :: .int x :: st) M := by
  obtain ⟨p, e, s, m, args, below, meth, c, A, Q, hx, hb, hml, hr, hlo, hown, hts, hK, hA, hO, hX, rfl⟩ := h
  exact fun H locs hP hD hS ls hl => lv_icmp_ne hx hb d ht (fun q => kt q H locs hP hD hS ls hl) (fun q => kf q H locs hP hD hS ls hl)
theorem nx_icmp_lt (h : NX l E own cc nL ret R XF G) {x y : Int32} {off : Int} (tgt : Nat) (d : decode cc pc = .ok (.if_icmp .lt off, 3)) (ht : (pc : Int) + off = (tgt : Int)) (kt : x < y → G tgt lv st M) (kf : ¬ (x < y) → G (pc + 3) lv st M) : G pc lv (.int y :: .int x :: st) M := by
  obtain ⟨p, e, s, m, args, below, meth, c, A, Q, hx, hb, hml, hr, hlo, hown, hts, hK, hA, hO, hX, rfl⟩ := h
  exact fun H locs hP hD hS ls hl => lv_icmp_lt hx hb d ht (fun q => kt q H locs hP hD hS ls hl) (fun q => kf q H locs hP hD hS ls hl)
theorem nx_icmp_ge (h : NX l E own cc nL ret R XF G) {x y : Int32} {off : Int} (tgt : Nat) (d : decode cc pc = .ok (.if_icmp .ge off, 3)) (ht : (pc : Int) + off = (tgt : Int)) (kt : y ≤ x → G tgt lv st M) (kf : ¬ (y ≤ x) → G (pc + 3) lv st M) : G pc lv (.int y :: .int x :: st) M := by
  obtain ⟨p, e, s, m, args, below, meth, c, A, Q, hx, hb, hml, hr, hlo, hown, hts, hK, hA, hO, hX, rfl⟩ := h
  exact fun H locs hP hD hS ls hl => lv_icmp_ge hx hb d ht (fun q => kt q H locs hP hD hS ls hl) (fun q => kf q H locs hP hD hS ls hl)
theorem nx_icmp_gt (h : NX l E own cc nL ret R XF G) {x y : Int32} {off : Int} (tgt : Nat) (d : decode cc pc = .ok (.if_icmp .gt off, 3)) (ht : (pc : Int) + off = (tgt : Int)) (kt : y < x → G tgt lv st M) (kf : ¬ (y < x) → G (pc + 3) lv st M) : G pc lv (.int y :: .int x :: st) M := by
  obtain ⟨p, e, s, m, args, below, meth, c, A, Q, hx, hb, hml, hr, hlo, hown, hts, hK, hA, hO, hX, rfl⟩ := h
  exact fun H locs hP hD hS ls hl => lv_icmp_gt hx hb d ht (fun q => kt q H locs hP hD hS ls hl) (fun q => kf q H locs hP hD hS ls hl)
theorem nx_icmp_le (h : NX l E own cc nL ret R XF G) {x y : Int32} {off : Int} (tgt : Nat) (d : decode cc pc = .ok (.if_icmp .le off, 3)) (ht : (pc : Int) + off = (tgt : Int)) (kt : x ≤ y → G tgt lv st M) (kf : ¬ (x ≤ y) → G (pc + 3) lv st M) : G pc lv (.int y :: .int x :: st) M := by
  obtain ⟨p, e, s, m, args, below, meth, c, A, Q, hx, hb, hml, hr, hlo, hown, hts, hK, hA, hO, hX, rfl⟩ := h
  exact fun H locs hP hD hS ls hl => lv_icmp_le hx hb d ht (fun q => kt q H locs hP hD hS ls hl) (fun q => kf q H locs hP hD hS ls hl)
theorem nx_goto (h : NX l E own cc nL ret R XF G) {off : Int} (tgt : Nat) (d : decode cc pc = .ok (.goto off, 3)) (ht : (pc : Int) + off = (tgt : Int)) (kk : G tgt lv st M) : G pc lv st M := by
  obtain ⟨p, e, s, m, args, below, meth, c, A, Q, hx, hb, hml, hr, hlo, hown, hts, hK, hA, hO, hX, rfl⟩ := h
  exact fun H locs hP hD hS ls hl => lv_goto hx hb d ht (kk H locs hP hD hS ls hl)
theorem nx_ifnonnull (h : NX l E own cc nL ret R XF G) {x : Nat} {off : Int} (tgt : Nat) (d : decode cc pc = .ok (.ifnonnull off, 3)) (ht : (pc : Int) + off = (tgt : Int)) (kk : G tgt lv st M) : G pc lv (.ref x :: st) M := by
  obtain ⟨p, e, s, m, args, below, meth, c, A, Q, hx, hb, hml, hr, hlo, hown, hts, hK, hA, hO, hX, rfl⟩ := h
  exact fun H locs hP hD hS ls hl => lv_ifnonnull hx hb d ht (kk H locs hP hD hS ls hl)
theorem nx_tableIn (h : NX l E own cc nL ret R XF G) {dflt lo hi : Int} {offs : Array Int} {len : Nat} {x : Int32} {off : Int} (tgt : Nat) (z : Int) (hz : x.toInt = z) (d : decode cc pc = .ok (.tableswitch dflt lo hi offs, len)) (h1 : ¬ z < lo) (h2 : ¬ hi < z) (ho : offs[(z - lo).toNat]? = some off) (ht : (pc : Int) + off = (tgt : Int)) (kk : G tgt lv st M) : G pc lv (.int x :: st) M := by
  obtain ⟨p, e, s, m, args, below, meth, c, A, Q, hx, hb, hml, hr, hlo, hown, hts, hK, hA, hO, hX, rfl⟩ := h
  exact fun H locs hP hD hS ls hl => lv_tableIn hx hb d (by rw [hz]; exact h1) (by rw [hz]; exact h2) (by rw [hz]; exact ho) ht (kk H locs hP hD hS ls hl)
theorem nx_tableOut (h : NX l E own cc nL ret R XF G) {dflt lo hi : Int} {offs : Array Int} {len : Nat} {x : Int32} (tgt : Nat) (d : decode cc pc = .ok (.tableswitch dflt lo hi offs, len)) (hz : x.toInt < lo ∨ hi < x.toInt) (ht : (pc : Int) + dflt = (tgt : Int)) (kk : G tgt lv st M) : G pc lv (.int x :: st) M := by
  obtain ⟨p, e, s, m, args, below, meth, c, A, Q, hx, hb, hml, hr, hlo, hown, hts, hK, hA, hO, hX, rfl⟩ := h
  exact fun H locs hP hD hS ls hl => lv_tableOut hx hb d hz ht (kk H locs hP hD hS ls hl)
theorem nx_lookup (h : NX l E own cc nL ret R XF G) {dflt : Int} {ps : Array (Int × Int)} {len : Nat} {x : Int32} {off : Int} (tgt : Nat) (d : decode cc pc = .ok (.lookupswitch dflt ps, len)) (hp : (ps.toList.zip (ps.toList.drop 1)).all (fun (a, next) => a.1 < next.1) = true) (ho : Op.lookupswitch.offset ps.toList dflt x.toInt = off) (ht : (pc : Int) + off = (tgt : Int)) (kk : G tgt lv st M) : G pc lv (.int x :: st) M := by
  obtain ⟨p, e, s, m, args, below, meth, c, A, Q, hx, hb, hml, hr, hlo, hown, hts, hK, hA, hO, hX, rfl⟩ := h
  exact fun H locs hP hD hS ls hl => lv_lookup hx hb d hp ho ht (kk H locs hP hD hS ls hl)
theorem nx_ldcI (h : NX l E own cc nL ret R XF G) {index : Nat} {x : Int32} (hw : Cond.constant own index x ∈ TB) (d : decode cc pc = .ok (.ldc index, 2)) (kk : G (pc + 2) lv (.int x :: st) M) : G pc lv st M := by
  obtain ⟨p, e, s, m, args, below, meth, c, A, Q, hx, hb, hml, hr, hlo, hown, hts, hK, hA, hO, hX, rfl⟩ := h
  exact fun H locs hP hD hS ls hl => lv_ldc hx hb hown (hts _ hw) d (kk H locs hP hD hS ls hl)
theorem nx_sub (h : NX l E own cc nL ret R XF G) (is : List Nat) {lv' : List (Nat × Value)} (hl : lv_pick lv is = lv') (k : G pc lv' st M) : G pc lv st M := by
  obtain ⟨p, e, s, m, args, below, meth, c, A, Q, hx, hb, hml, hr, hlo, hown, hts, hK, hA, hO, hX, rfl⟩ := h
  exact fun H locs hP hD hS ls h => k H locs hP hD hS ls (lv_sub h is hl)
theorem nx_widen (h : NX l E own cc nL ret R XF G) {w : va_W} {k n k2 n2 : Nat} (h1 : k ≤ k2) (h2 : n ≤ n2) (kk : G pc lv st (w, k2, n2)) : G pc lv st (w, k, n) := by
  obtain ⟨p, e, s, m, args, below, meth, c, A, Q, hx, hb, hml, hr, hlo, hown, hts, hK, hA, hO, hX, rfl⟩ := h
  exact fun H locs hP hD hS ls hl => W.widen h1 h2 (kk H locs hP hD hS ls hl)
theorem nx_re (_h : NX l E own cc nL ret R XF G) {w w2 : va_W} {k n : Nat} (hw : w = w2) (kk : G pc lv st (w2, k, n)) : G pc lv st (w, k, n) := by cases hw; exact kk
theorem nx_obj (h : NX l E own cc nL ret R XF G) {index a : Nat} (hw : Cond.methodLink own index Lib.objectInit ∈ TB) (hw2 : Cond.instanceMethod Lib.objectInit ∈ TB) (hw3 : Cond.code Lib.objectInit ⟨#[0xb1]⟩ 1 none ∈ TB) (hR : 1 ≤ R.frames ∧ 20 ≤ R.locals) (hrm : (st.map fun v => v.category).sum ≤ 8) (d : decode cc pc = .ok (.invokespecial index, 3)) (kk : G (pc + 3) lv st M) : G pc lv (.ref a :: st) M := by
  obtain ⟨p, e, s, m, args, below, meth, c, A, Q, hx, hb, hml, hr, hlo, hown, hts, hK, hA, hO, hX, rfl⟩ := h
  exact fun H locs hP hD hS ls hl => W.objInit hx hb hown (hts _ hw) (hts _ hw2) (hts _ hw3) rfl (hl.1.trans hml.symm) rfl d hR.1 (by have h1 := lv_room (m := m) (pc := pc) (ls := ls) (rest := .ref a :: st) hrm; have := hR.2; omega) (kk H locs hP hD hS ls hl)
theorem nx_new (h : NX l E own cc nL ret R XF G) {C : String} {T : u_T} {N ci index : Nat} {o : Nat × va_E} {r : va_W} {k n k2 n2 : Nat} (ty : Nat → FieldType) {fs : List Value} (hin : ∀ w ∈ u_ws C T N, w ∈ TB) (hty : ∀ k, k < N → parseFieldDescriptor (T k).2.2.1 = some (ty k)) (hw1 : Cond.classLink own index C ∈ TB) (hw2 : Cond.instantiable C N ∈ TB) (hw3 : Cond.initialized C ∈ TB) (hc : vwCl[ci]? = some (C, T, N)) (hfs : ∀ j, j < N → defaultValue (ty j) = vp_V fs j) (hk : k + 1 = k2) (hn : n + N = n2) (hR : k2 ≤ R.cells ∧ n2 ≤ R.slots) (d : decode cc pc = .ok (.new index, 3)) (kk : ∀ q : Nat, G (pc + 3) lv (.ref q :: st) (o :: (r ++ [(q, .inr (ci, fs))]), k2, n2)) : G pc lv st (o :: r, k, n) := by
  obtain ⟨p, e, s, m, args, below, meth, c, A, Q, hx, hb, hml, hr, hlo, hown, hts, hK, hA, hO, hX, rfl⟩ := h
  subst hk hn
  exact fun H locs hP hD hS ls hl => va_new hx hb hts hin ty hty hown (hts _ hw1) (hts _ hw2) (hts _ hw3) hK hP hD hS hA hc hfs hR.1 hR.2 d (fun q H1 hP hD hS => kk q H1 locs hP hD hS ls hl)
theorem nx_newa (h : NX l E own cc nL ret R XF G) {atype : ArrayType} {ty : FieldType} {x : Int32} {N i : Nat} {a0 : vp_A} {o : Nat × va_E} {r : va_W} {k n k2 n2 : Nat} (hw : Cond.arrayClass (newarray.typeOf atype) ∈ TB) (hty : newarray.typeOf atype = ty) (hi : (tysE E)[i]? = some (E.1 i, ty)) (ha : ∀ cA : ClassId, vp_cell cA a0 = arrV cA N (fun _ => defaultValue ty)) (h0 : ¬ x < 0) (hN : x.toNatClampNeg = N) (hby : N * componentBytes ty ≤ 536870912) (hk : k + 1 = k2) (hn : n + N = n2) (hR : k2 ≤ R.cells ∧ n2 ≤ R.slots) (d : decode cc pc = .ok (.newarray atype, 2)) (kk : ∀ q : Nat, G (pc + 2) lv (.ref q :: st) (o :: (r ++ [(q, .inl (E.1 i, a0))]), k2, n2)) : G pc lv (.int x :: st) (o :: r, k, n) := by
  obtain ⟨p, e, s, m, args, below, meth, c, A, Q, hx, hb, hml, hr, hlo, hown, hts, hK, hA, hO, hX, rfl⟩ := h
  subst hk hn
  refine fun H locs hP hD hS ls hl => va_newa hx hb (hts _ hw) hty hK hP hD hS hA ha h0 hN hby hR.1 hR.2 d (fun q cA H1 hK2 hP hD hS => ?_)
  have hc : cA = E.1 i := ra_eq (hK2.2 (tysE E).length (cA, ty) (by rw [List.getElem?_append_right (Nat.le_refl _), Nat.sub_self]; rfl)).2 (hK.2 i _ hi).2
  subst hc
  exact kk q H1 locs hP hD hS ls hl
theorem nx_newq (h : NX l E own cc nL ret R XF G) {index : Nat} {x : Int32} {N : Nat} {o : Nat × va_E} {r : va_W} {k n k2 n2 : Nat} (hw : Cond.classLink own index "PullCards$Image" ∈ TB) (h0 : ¬ x < 0) (hN : x.toNatClampNeg = N) (hby : N * 4 ≤ 536870912) (hk : k + 1 = k2) (hn : n + N = n2) (hR : k2 ≤ R.cells ∧ n2 ≤ R.slots) (d : decode cc pc = .ok (.anewarray index, 3)) (kk : ∀ q : Nat, G (pc + 3) lv (.ref q :: st) (o :: (r ++ [(q, .inl (E.1 4, N, .inr (.inr (.inr (.inr (fun _ => none))))))]), k2, n2)) : G pc lv (.int x :: st) (o :: r, k, n) := by
  obtain ⟨p, e, s, m, args, below, meth, c, A, Q, hx, hb, hml, hr, hlo, hown, hts, hK, hA, hO, hX, rfl⟩ := h
  subst hk hn
  refine fun H locs hP hD hS ls hl => va_newq hx hb hown (hts _ hw) hO hK hP hD hS hA h0 hN hby hR.1 hR.2 d (fun q cA H1 hK2 hP hD hS => ?_)
  have hc : cA = E.1 4 := ra_eq (hK2.2 (tysE E).length (cA, .object "PullCards$Image") (by rw [List.getElem?_append_right (Nat.le_refl _), Nat.sub_self]; rfl)).2 (hK.2 4 (E.1 4, .object "PullCards$Image") rfl).2
  subst hc
  exact kk q H1 locs hP hD hS ls hl
theorem nx_get (h : NX l E own cc nL ret R XF G) {ref C : String} {T : u_T} {N ci index a : Nat} {r : va_W} {kn : Nat × Nat} {fs : List Value} {v : Value} (j : Nat) (hin : ∀ w ∈ u_ws C T N, w ∈ TB) (hc : vwCl[ci]? = some (C, T, N)) (hj : j < N) (hw : Cond.fieldLink own index ref (T j).2.1 (T j).2.2.1 ∈ TB) (hsame : (T j).1 = ref) (hv : fs[j]? = some v) (d : decode cc pc = .ok (.getfield index, 3)) (kk : G (pc + 3) lv (v :: st) ((a, .inr (ci, fs)) :: r, kn)) : G pc lv (.ref a :: st) ((a, .inr (ci, fs)) :: r, kn) := by
  obtain ⟨p, e, s, m, args, below, meth, c, A, Q, hx, hb, hml, hr, hlo, hown, hts, hK, hA, hO, hX, rfl⟩ := h
  exact fun H locs hP hD hS ls hl => va_get hx hb hts hin hown hK hP 0 rfl hc j hj (hts _ hw) (fun x hx => by rw [← hsame]; exact hx) hv d (kk H locs hP hD hS ls hl)
theorem nx_put (h : NX l E own cc nL ret R XF G) {ref C : String} {T : u_T} {N ci index a : Nat} {r : va_W} {kn : Nat × Nat} {fs fs2 : List Value} {v : Value} {ty : FieldType} (j : Nat) (ty0 : Nat → FieldType) (hin : ∀ w ∈ u_ws C T N, w ∈ TB) (hty : ∀ k, k < N → parseFieldDescriptor (T k).2.2.1 = some (ty0 k)) (hnm : ∀ a, a < N → ∀ b, b < N → a ≠ b → (T a).2.1 ≠ (T b).2.1) (hc : vwCl[ci]? = some (C, T, N)) (hj : j < N) (hw : Cond.fieldLink own index ref (T j).2.1 (T j).2.2.1 ∈ TB) (hsame : (T j).1 = ref) (hfin : (T j).2.2.2 = false) (hd : parseFieldDescriptor (T j).2.2.1 = some ty) (hnw : narrow ty v = v) (hfit : fits ty v = true) (hl0 : j < fs.length) (hf2 : fs.set j v = fs2) (d : decode cc pc = .ok (.putfield index, 3)) (kk : G (pc + 3) lv st ((a, .inr (ci, fs2)) :: r, kn)) : G pc lv (v :: .ref a :: st) ((a, .inr (ci, fs)) :: r, kn) := by
  obtain ⟨p, e, s, m, args, below, meth, c, A, Q, hx, hb, hml, hr, hlo, hown, hts, hK, hA, hO, hX, rfl⟩ := h
  subst hf2
  exact fun H locs hP hD hS ls hl => va_put hx hb hts hin ty0 hty hnm hown hK hP hD hS 0 rfl hc j hj (hts _ hw) (fun x hx => by rw [← hsame]; exact hx) hfin hd hnw hfit hl0 d (fun H1 locs1 hP hD hS => kk H1 locs1 hP hD hS ls hl)
theorem nx_putF (h : NX l E own cc nL ret R XF G) (hini : ∀ s args below meth A Q, XF s args below meth A Q → meth.name = "<init>") {ref C : String} {T : u_T} {N ci index a : Nat} {r : va_W} {kn : Nat × Nat} {fs fs2 : List Value} {v : Value} {ty : FieldType} (j : Nat) (ty0 : Nat → FieldType) (hin : ∀ w ∈ u_ws C T N, w ∈ TB) (hty : ∀ k, k < N → parseFieldDescriptor (T k).2.2.1 = some (ty0 k)) (hnm : ∀ a, a < N → ∀ b, b < N → a ≠ b → (T a).2.1 ≠ (T b).2.1) (hc : vwCl[ci]? = some (C, T, N)) (hj : j < N) (hw : Cond.fieldLink own index ref (T j).2.1 (T j).2.2.1 ∈ TB) (hsame : (T j).1 = ref) (hfin : (T j).2.2.2 = true) (hdc : (T j).1 = own) (hd : parseFieldDescriptor (T j).2.2.1 = some ty) (hnw : narrow ty v = v) (hfit : fits ty v = true) (hl0 : j < fs.length) (hf2 : fs.set j v = fs2) (d : decode cc pc = .ok (.putfield index, 3)) (kk : G (pc + 3) lv st ((a, .inr (ci, fs2)) :: r, kn)) : G pc lv (v :: .ref a :: st) ((a, .inr (ci, fs)) :: r, kn) := by
  obtain ⟨p, e, s, m, args, below, meth, c, A, Q, hx, hb, hml, hr, hlo, hown, hts, hK, hA, hO, hX, rfl⟩ := h
  subst hf2
  exact fun H locs hP hD hS ls hl => va_putF hx hb hts hin ty0 hty hnm hown hK hP hD hS 0 rfl hc j hj (hts _ hw) (fun x hx => by rw [← hsame]; exact hx) hfin (hini _ _ _ _ _ _ hX) hdc hd hnw hfit hl0 d (fun H1 locs1 hP hD hS => kk H1 locs1 hP hD hS ls hl)
theorem nx_astq (h : NX l E own cc nL ret R XF G) {q0 qk ci n v a : Nat} {w w2 : va_W} {kn : Nat × Nat} {T : u_T} {N : Nat} {vs : List Value} {f : Nat → Option Nat} {i : Int32} (ha : w[q0]? = some (a, .inl (E.1 4, n, .inr (.inr (.inr (.inr f)))))) (hv : w[qk]? = some (v, .inr (ci, vs))) (hc : vwCl[ci]? = some ("PullCards$Image", T, N)) (hi : 0 ≤ i ∧ i.toNatClampNeg < n) (hs : w.set q0 (a, .inl (E.1 4, n, .inr (.inr (.inr (.inr (va_up f i.toNatClampNeg (some v))))))) = w2) (d : decode cc pc = .ok (.aastore, 1)) (kk : G (pc + 1) lv st (w2, kn)) : G pc lv (.ref v :: .int i :: .ref a :: st) (w, kn) := by
  obtain ⟨p, e, s, m, args, below, meth, c, A, Q, hx, hb, hml, hr, hlo, hown, hts, hK, hA, hO, hX, rfl⟩ := h
  subst hs
  exact fun H locs hP hD hS ls hl => va_astq hx hb hK hP hD hS q0 4 qk ci ha rfl hv hc (inb hi) d (fun H1 locs1 hP hD hS => kk H1 locs1 hP hD hS ls hl)
/-- a constructor's promise: out of the raw cell at h0, the world Wf f, f naming the cells that it made -/
def CiP (E : En) (w0 : va_W) (sz : Nat) (U : State) : Prop := U.heap.size = sz ∧ va_P E.2.2.2.1 vwCl w0 U.heap ∧ va_K E.2.2.2.1 vwCl (tysE E) U ∧ va_D (fun _ => True) w0 ∧ va_AO "PullCards$Image" U
def CiQ (E : En) (Wf : (Nat → Nat) → va_W) (w0 : va_W) (sz : Nat) : Array Value → State → Outcome → State → Prop := va_Qv (fun _ : Nat → Nat => True) (fun f t => va_P E.2.2.2.1 vwCl (Wf f) t.heap ∧ va_D (va_A w0 sz) (Wf f)) (va_A w0 sz)
def Ci (l : Launch) (E : En) (y : MethodName) (cc : ByteArray) (nL fr lo kC kS : Nat) (w0 : va_W) (as : List Value) (Wf : (Nat → Nat) → va_W) : Prop :=
  ∀ sz, Met l y (Cond.code y cc nL none :: TB) { frames := fr, cells := kC, slots := kS, locals := lo } (va_Pc as (CiP E w0 sz)) (CiQ E Wf w0 sz) kC kS (va_A w0 sz)
def XFi (E : En) (kC kS : Nat) (Wf : (Nat → Nat) → va_W) : XFt := fun s args below meth A Q => meth.name = "<init>" ∧ ∃ w0, A = va_A w0 s.heap.size ∧ Q = MQ below (CiQ E Wf w0 s.heap.size) args s kC kS A
theorem xfi_n {E : En} {kC kS : Nat} {Wf : (Nat → Nat) → va_W} : ∀ s args below meth A Q, XFi E kC kS Wf s args below meth A Q → meth.name = "<init>" := fun _ _ _ _ _ _ h => h.1
theorem ci_of {y : MethodName} {fr lo kC kS : Nat} {w0 : va_W} {as : List Value} {Wf : (Nat → Nat) → va_W} (hy : plainName y.cls = true) (hyn : y.name = "<init>") (hn : (lg_sl as).length ≤ nL)
    (body : ∀ G, NX l E y.cls cc nL none { frames := fr, cells := kC, slots := kS, locals := lo } (XFi E kC kS Wf) G → G 0 (lv_args 0 as) [] (w0, 0, 0)) : Ci l E y cc nL fr lo kC kS w0 as Wf := by
  intro sz
  refine Met.ofW (cc := cc) (maxL := nL) (ret := none) hy rfl ?_
  intro p e s m args below meth c s₁ B hml hv
  obtain ⟨rfl, hsz, hP, hK, hD0, hO⟩ := hv
  have hts := atoms_spec (ws := Cond.code y cc nL none :: TB) B.pre
  have hown : s.vm.findClass y.cls = some m.cls := findClass_of_methodNamed B.named
  have hin : meth.name = y.name := (name_of_methodNamed B.named B.method).1
  subst hsz
  have hD := hD0.self (sz := s.heap.size)
  have hb := body _ ⟨p, e, s, m, as.toArray, below, meth, c, va_A w0 s.heap.size, _, B.exec, B.bytes, hml, B.returns, B.notSynchronized, hown, fun w hw => hts w (List.mem_cons_of_mem _ hw), hK, fun q h => Or.inr h, hO, ⟨hin.trans hyn, w0, rfl, rfl⟩, rfl⟩
  rw [lg_entry_eq]
  exact hb s.heap [] hP hD va_S.rf _ (lv_entry as hn)
theorem nx_ciret {kC kS : Nat} {Wf : (Nat → Nat) → va_W} (h : NX l E own cc nL none R (XFi E kC kS Wf) G) (f : Nat → Nat) {w : va_W} (hw : w = Wf f) (d : decode cc pc = .ok (.return_, 1)) : G pc lv [] (w, kC, kS) := by
  obtain ⟨p, e, s, m, args, below, meth, c, A, Q, hx, hb, hml, hr, hlo, hown, hts, hK, hA, hO, ⟨hX, w0, rfl, rfl⟩, rfl⟩ := h
  subst hw
  exact fun H locs hP hD hS ls hl => W.vret hx hb hr (fun t ht hW => ⟨⟨f, rfl, trivial, by rw [ht]; exact hP, hD⟩, hS.F ht⟩) hS.2.2 d
theorem CiP_blind {w0 : va_W} {sz : Nat} {as : List Value} : FrameBlind (va_Pc as (CiP E w0 sz)) := by
  intro a U g mk q
  obtain ⟨q0, q1, qP, qK, qD, qO⟩ := q
  exact ⟨q0, q1, qP, va_K.moved (u := U) (U := U.calling g mk a) (Vm.Alike.refl U.vm) qK, qD, va_AO.moved (u := U) (U := U.calling g mk a) (Vm.Alike.refl U.vm) qO⟩
/-- new C(..): the constructor's call on the raw cell made last -/
theorem nx_ctor (h : NX l E own cc nL ret R XF G) {y : MethodName} {yc : ByteArray} {nL2 fr lo kC kS index q : Nat} {x : va_E} {o : Nat × va_E} {r : va_W} {k n k2 n2 : Nat} {As stk : List Value} {Wf : (Nat → Nat) → va_W} (hct : Ci l E y yc nL2 fr lo kC kS [(q, x)] (.ref q :: As) Wf)
    (hcode : Cond.code y yc nL2 none ∈ TB) (hw1 : Cond.methodLink own index y ∈ TB) (hw2 : Cond.instanceMethod y ∈ TB) (hw4 : Cond.initialized y.cls ∈ TB) (hyn : y.name = "<init>")
    (hd : y.cls ≠ "java/lang/invoke/MethodHandle" ∧ y.cls ≠ "java/lang/invoke/VarHandle" ∧ (parseMethodDescriptor y.desc).map (fun d => d.parameters.length) = some As.length) (hRm : fr + 1 ≤ R.frames ∧ 8 + (nL2 + 11) + lo ≤ R.locals)
    (hst : stk = As.reverse ++ .ref q :: st) (hrm : (st.map fun v => v.category).sum ≤ 8) (hk : k + kC = k2) (hn : n + kS = n2) (hR : k2 ≤ R.cells ∧ n2 ≤ R.slots) (d : decode cc pc = .ok (.invokespecial index, 3)) (kk : ∀ f : Nat → Nat, G (pc + 3) lv st (o :: (r ++ Wf f), k2, n2)) : G pc lv stk (o :: (r ++ [(q, x)]), k, n) := by
  obtain ⟨p, e, s, m, args, below, meth, c, A, Q, hx, hb, hml, hr, hlo, hown, hts, hK, hA, hO, hX, rfl⟩ := h
  subst hk hn
  intro H locs hP hD hS ls hl
  have hP0 : va_P E.2.2.2.1 vwCl ((o :: r) ++ ([(q, x)] ++ [])) H := by rw [List.append_nil]; exact hP
  have hD0 : va_D A ((o :: r) ++ ([(q, x)] ++ [])) := by rw [List.append_nil]; exact hD
  have hPc := hP0.spl.2.spl.1
  have hDc := hD0.spl.2.1.spl.1
  have hFc := wfree hDc hS hA
  refine va_callv (va_runI (As := As) (rest := st) (b := q) (g := F0 m pc ls stk) ⟨hx, hb, hml, hown, hts⟩ (hct H.size) ⟨callB_of As.length hts (TB_in hcode) rfl rfl rfl (hts _ hw4) (hts _ hw1) hd hRm, hyn, hts _ hw2⟩ ⟨CiP_blind, fun U hU hW => ⟨rfl, by rw [hU], by rw [hU]; exact hPc, va_K.moved hW.alike hK, hDc.weaken (fun _ _ _ _ => trivial), va_AO.moved hW.alike hO⟩⟩ rfl rfl hl.1 hst (lv_room hrm) d ⟨hR.1, hR.2⟩) hS (fun q _ h => hFc q h) hFc (fun f t H1 locs1 ht hvm _ hB hz1 hk1 hS1 => ?_)
  obtain ⟨hP1, hD1⟩ := hB
  rw [ht] at hP1
  obtain ⟨hP2, hD2⟩ := join3 hP0 hD0 hk1 hFc hP1 hD1
  rw [List.append_nil] at hP2 hD2
  exact kk f H1 locs1 hP2 hD2 hS1 ls hl
end NRULES

theorem c_letX (l : Launch) (hst : l.stackTraces = false) (E : En) (ad : Nat → Nat) (tr : Value) (T : List Sk) {p0 p1 p2 : Int32} {X : Mm} (hL : LT p0 p1 p2 X) : ∀ sz, vx_Met l yX9_letter (Cond.code yX9_letter cX9_letter 5 (some .int) :: TB) { frames := 6, cells := 1, slots := 6, locals := 81 } (va_Pc [.ref (ad 0), .int p0, .int p1, .int p2] (LtP [] E (wE (SKX ++ T) (EX E ad tr) X) sz))
    (va_Qi (fun _ (_ : Unit) => False) (fun _ _ => True) (va_A (wE (SKX ++ T) (EX E ad tr) X) sz)) (vx_X (fun _ : Unit => True) (fun Ex _ t => Ex = exN ∧ va_P E.2.2.2.1 vwCl (wE (SKX ++ T) (EX E ad tr) X) t.heap) (va_A (wE (SKX ++ T) (EX E ad tr) X) sz)) 1 6 (va_A (wE (SKX ++ T) (EX E ad tr) X) sz) := by
  intro sz
  refine vx_ofW (cc := cX9_letter) (maxL := 5) (ret := some .int) (by decide +kernel) rfl ?_
  intro p e s m args below meth c s₁ B hml hno hv
  obtain ⟨rfl, hsz, hP, hK, hD0, hE, hO, hXs⟩ := hv
  have hts := atoms_spec (ws := Cond.code yX9_letter cX9_letter 5 (some .int) :: TB) B.pre
  have hts2 : ∀ w ∈ TB, w.before ([.ref (ad 0), .int p0, .int p1, .int p2] : List Value).toArray s = true := fun w hw => hts w (List.mem_cons_of_mem _ hw)
  have hown : s.vm.findClass RX9 = some m.cls := findClass_of_methodNamed B.named
  subst hsz
  have hD := hD0.self (sz := s.heap.size)
  have hat : ∀ w ∈ exW, w.before ([.ref (ad 0), .int p0, .int p1, .int p2] : List Value).toArray s = true := by
    intro w hw
    by_cases g : goodWord w = true
    · exact hts2 w (ex_good w (List.mem_filter.mpr ⟨hw, g⟩))
    · have hm : w ∈ exB := List.mem_cons_of_mem _ (List.mem_filter.mpr ⟨hw, by cases hg : goodWord w <;> simp_all⟩)
      exact va_Nw.use (exK_on (ex_kind w hm)) (hXs.1 w hm)
  have thr : ∀ pc0, decode cX9_letter pc0 = .ok (.new 292, 3) → decode cX9_letter (pc0 + 3) = .ok (.dup, 1) → decode cX9_letter (pc0 + 4) = .ok (.invokespecial 294, 3) → decode cX9_letter (pc0 + 7) = .ok (.athrow, 1) → ∀ (lv : List (Nat × Value)) (H : Heap) (locs : List Loc), va_P E.2.2.2.1 vwCl (wE (SKX ++ T) (EX E ad tr) X ++ []) H → va_D (va_A (wE (SKX ++ T) (EX E ad tr) X) s.heap.size) (wE (SKX ++ T) (EX E ad tr) X ++ []) → va_S (va_A (wE (SKX ++ T) (EX E ad tr) X) s.heap.size) s.heap H locs → ∀ ls : Array Slot, lv_has ls 5 lv → W p l e { frames := 6, cells := 1, slots := 6, locals := 81 } s m ([.ref (ad 0), .int p0, .int p1, .int p2] : List Value).toArray below meth c H locs 0 0 (vx_MQ below (va_Qi (fun _ (_ : Unit) => False) (fun _ _ => True) (va_A (wE (SKX ++ T) (EX E ad tr) X) s.heap.size)) (vx_X (fun _ : Unit => True) (fun Ex _ t => Ex = exN ∧ va_P E.2.2.2.1 vwCl (wE (SKX ++ T) (EX E ad tr) X) t.heap) (va_A (wE (SKX ++ T) (EX E ad tr) X) s.heap.size)) ([.ref (ad 0), .int p0, .int p1, .int p2] : List Value).toArray s 1 6 (va_A (wE (SKX ++ T) (EX E ad tr) X) s.heap.size)) (F0 m pc0 ls []) := by
    intro pc0 d0 d3 d4 d7 lv H locs hP hD hS ls hl
    rw [List.append_nil] at hP hD
    refine vx_throw0 (names := exS2) B.exec B.bytes hst hown ex_fit ex_fits (hts2 _ ex_w1) (hts2 _ ex_w2) hat ex_ot hXs.2.1 hXs.2.2 hS (hl.1.trans hml.symm) d0 d3 d4 d7 (fun x hx => absurd hx (fun z => hno x z)) (by decide) (Nat.le_of_ble_eq_true rfl) (Nat.le_refl _) (Nat.le_refl _) B.notSynchronized (fun t hvm hz hq => ?_) hS.2.2 (Nat.le_refl _) (Nat.le_refl _)
    exact ⟨(), trivial, ⟨rfl, fun k q hk => (hP k q hk).kept (hq q.1 (hP k q hk).lt)⟩, Nat.le_trans hS.1 hz, fun q h1 h2 => (hq q (Nat.lt_of_lt_of_le h1 hS.1)).trans (hS.2.1 q h1 h2)⟩
  have hb := let_walk (l := l) (E := E) (ad := ad) (tr := tr) (T := T) (X := X) (p0 := p0) (p1 := p1) (p2 := p2) (XF := fun s _ _ _ A _ => strE E A s s.heap) ⟨p, e, s, m, _, below, meth, c, va_A (wE (SKX ++ T) (EX E ad tr) X) s.heap.size, _, B.exec, B.bytes, hml, B.returns, B.notSynchronized, hown, hts2, hK, fun q h => Or.inr h, hO, hE, rfl⟩ (fun _ _ _ _ _ _ h => h) ⟨by decide, by decide⟩ hL
    (fun lv => thr 23 dX9_letter_23 dX9_letter_26 dX9_letter_27 dX9_letter_30 lv) (fun lv => thr 63 dX9_letter_63 dX9_letter_66 dX9_letter_67 dX9_letter_70 lv)
  rw [lg_entry_eq]
  exact hb s.heap [] (by rw [List.append_nil]; exact hP) (by rw [List.append_nil]; exact hD) va_S.rf _ (lv_entry _ (Nat.le_of_ble_eq_true rfl))
theorem met_ofWH {l : Launch} {y : MethodName} {ws ws' : List Cond} {rm : Room} {Pc : Array Value → State → Prop} {Qc : Array Value → State → Outcome → State → Prop} {mc ms : Nat} {free : Addr → Prop} {cc : ByteArray} {maxL : Nat} {ret : Option FieldType} {hh : List (Nat × Nat × Nat × Nat)}
    (hy : plainName y.cls = true) (hw : ws = Cond.codeWith y cc maxL ret hh :: ws')
    (body : ∀ p e s m args below meth c s₁, BodyLoose p l y (headSpec ws rm) cc maxL ret e s m args below meth c s₁ → c.maxLocals = maxL → Pc args s →
      W p l e (headSpec ws rm).room s m args below meth c s.heap [] 0 0 (MQ below Qc args s mc ms free) (entryFrame m args maxL)) : Met l y ws rm Pc Qc mc ms free := by
  refine MetFree.of_bodyS (code := cc) (maxLocals := maxL) (ret := ret) hy ?_ ?_
  · intro args s m h hn
    obtain ⟨m9, meth, c, hn9, h1, h2, h3, h4, -, h5, h6, -⟩ := Cond.codeWith_spec (atoms_spec (ws := ws) h _ (by rw [hw]; exact List.mem_cons_self))
    cases hn.symm.trans hn9
    exact ⟨meth, c, h1, h2, h3, h4, h5, h6⟩
  · intro p e s m args below meth c s₁ B hml hP _
    have hh0 : s₁.heap = s.heap := by rw [B.state]; rfl
    obtain ⟨t, a1, o, b1, b2, b3⟩ := body p e s m args below meth c s₁ B hml hP s₁ hh0 (Stand.of_body B)
    exact ⟨t, o, a1, b1, b2, b3⟩
theorem gl_last {a : va_W} {x : Nat × va_E} : (a ++ [x])[a.length]? = some x := by simp
theorem st_last {a : va_W} {x y : Nat × va_E} : (a ++ [x]).set a.length y = a ++ [y] := by simp
def LcQ (E : En) (wX : va_W) (oa : Nat) (P : Int32 → (Nat → Int64) → Prop) (A : Nat → Prop) : Array Value → State → Outcome → State → Prop := va_Qi P (fun g t => va_P E.2.2.2.1 vwCl (wX ++ [ou E oa g]) t.heap ∧ va_D A (wX ++ [ou E oa g])) A
theorem c_Llet (l : Launch) (hst : l.stackTraces = false) (E : En) (ad : Nat → Nat) (tr : Value) (T : List Sk) (p0 p1 p2 : Int32) (X : Mm) (oa : Nat) (g : Nat → Int64) (P : Int32 → (Nat → Int64) → Prop) (hc : (∃ r, f_P_letter_0 p0 p1 p2 X = some r ∧ ∀ g', g' 0 = r.toInt64 → P 0 g') ∨ (LT p0 p1 p2 X ∧ P 1 g)) :
    ∀ sz, Met l yL_letter (Cond.codeWith yL_letter cL_letter 6 (some .int) [(0, 12, 15, 13)] :: TB) { frames := 7, cells := 1, slots := 6, locals := 105 } (va_Pc [.ref (ad 0), .int p0, .int p1, .int p2, .ref oa] (LtP [] E (wE (SKX ++ T) (EX E ad tr) X ++ [ou E oa g]) sz)) (LcQ E (wE (SKX ++ T) (EX E ad tr) X) oa P (va_A (wE (SKX ++ T) (EX E ad tr) X ++ [ou E oa g]) sz)) 1 6 (va_A (wE (SKX ++ T) (EX E ad tr) X ++ [ou E oa g]) sz) := by
  intro sz
  refine met_ofWH (cc := cL_letter) (maxL := 6) (ret := some .int) (by decide +kernel) rfl ?_
  intro p e s m args below meth c s₁ B hml hv
  obtain ⟨rfl, hsz, hP, hK, hD0, hE, hO, hXs⟩ := hv
  have hts := atoms_spec (ws := Cond.codeWith yL_letter cL_letter 6 (some .int) [(0, 12, 15, 13)] :: TB) B.pre
  have hts2 : ∀ w ∈ TB, w.before ([.ref (ad 0), .int p0, .int p1, .int p2, .ref oa] : List Value).toArray s = true := fun w hw => hts w (List.mem_cons_of_mem _ hw)
  have htab : c.exceptionTable.toList = tableOf [(0, 12, 15, 13)] := vx_table (x := yL_letter) B (hts _ List.mem_cons_self)
  have hown : s.vm.findClass RL = some m.cls := findClass_of_methodNamed B.named
  have hx := B.exec
  have hb := B.bytes
  have hr := B.returns
  have hlo := B.notSynchronized
  subst hsz
  have hD := hD0.self (sz := s.heap.size)
  generalize hAe : va_A (wE (SKX ++ T) (EX E ad tr) X ++ [ou E oa g]) s.heap.size = A at hD hE hXs ⊢
  have hA : ∀ q, s.heap.size ≤ q → A q := fun q h => by rw [← hAe]; exact Or.inr h
  obtain ⟨G, hG⟩ : ∃ G : Nat → List (Nat × Value) → List Value → NW → Prop, G = fun pc lv st N => ∀ (H : Heap) (locs : List Loc), va_P E.2.2.2.1 vwCl N.1 H → va_D A N.1 → va_S A s.heap H locs → ∀ ls : Array Slot, lv_has ls 6 lv → W p l e { frames := 7, cells := 1, slots := 6, locals := 105 } s m ([.ref (ad 0), .int p0, .int p1, .int p2, .ref oa] : List Value).toArray below meth c H locs N.2.1 N.2.2 (MQ below (LcQ E (wE (SKX ++ T) (EX E ad tr) X) oa P A) ([.ref (ad 0), .int p0, .int p1, .int p2, .ref oa] : List Value).toArray s 1 6 A) (F0 m pc ls st) := ⟨_, rfl⟩
  have h : NX l E RL cL_letter 6 (some .int) { frames := 7, cells := 1, slots := 6, locals := 105 } (fun s _ _ _ A _ => strE E A s s.heap) G := ⟨p, e, s, m, _, below, meth, c, A, _, hx, hb, hml, hr, hlo, hown, hts2, hK, hA, hO, hE, hG⟩
  have fin : ∀ (k : Int32) (g' : Nat → Int64) (pc0 : Nat) (lv : List (Nat × Value)) (kc ks : Nat), P k g' → decode cL_letter pc0 = .ok (.ireturn, 1) → kc ≤ 1 → ks ≤ 6 → G pc0 lv [.int k] (wE (SKX ++ T) (EX E ad tr) X ++ [ou E oa g'], kc, ks) := by
    intro k g' pc0 lv kc ks hp d h1 h2
    refine nx_widen h h1 h2 ?_
    rw [hG]
    exact fun H locs hP hD hS ls hl => W.iret hx hb hr (fun t ht hW => ⟨⟨k, g', rfl, hp, by rw [ht]; exact hP, hD⟩, hS.F ht⟩) hS.2.2 d
  have goal : G 0 [(0, .ref (ad 0)), (1, .int p0), (2, .int p1), (3, .int p2), (4, .ref oa)] [] (wE (SKX ++ T) (EX E ad tr) X ++ [ou E oa g], 0, 0) := by
    refine nx_aload h dL_letter_0 4 rfl ?_
    refine nx_iconst h 0 dL_letter_2 rfl ?_
    refine nx_aload_n h dL_letter_3 0 rfl ?_
    refine nx_iload_n h dL_letter_4 1 rfl ?_
    refine nx_iload_n h dL_letter_5 2 rfl ?_
    refine nx_iload_n h dL_letter_6 3 rfl ?_
    rcases hc with ⟨r, hf, hp⟩ | ⟨hL, hp⟩
    · refine nx_cG h (fun _ _ _ _ _ _ h => h) (wa := []) (ci := 9) (T := TX9) (N := 13) (As := [.int p0, .int p1, .int p2]) (c_P_letter_0 l (EX E ad tr) T p0 p1 p2 hf) (skX0 T) rfl rfl ex_lw7 ⟨by decide, by decide⟩ ⟨Nat.zero_le _, Nat.zero_le _⟩ rfl (Nat.le_of_ble_eq_true rfl) dL_letter_7 ?_
      refine nx_i2l h dL_letter_10 ?_
      refine nx_lastW h (n := 1) (i := 0) (f := g) (a := oa) (q0 := (wE (SKX ++ T) (EX E ad tr) X).length) (w2 := wE (SKX ++ T) (EX E ad tr) X ++ [ou E oa (vp_updL g 0 r.toInt64)]) gl_last ⟨by decide, by decide⟩ st_last dL_letter_11 ?_
      refine nx_goto h 19 dL_letter_12 rfl ?_
      refine nx_iconst h 0 dL_letter_19 rfl ?_
      exact fin 0 _ _ _ _ _ (hp _ (by simp [vp_updL])) dL_letter_20 (Nat.zero_le _) (Nat.zero_le _)
    · have h15 : ∀ q9 : Nat, G 15 [(0, .ref (ad 0)), (1, .int p0), (2, .int p1), (3, .int p2), (4, .ref oa)] [.ref q9] (wE (SKX ++ T) (EX E ad tr) X ++ [ou E oa g], 1, 6) := by
        intro q9
        refine nx_astore (lv2 := [(5, .ref q9), (0, .ref (ad 0)), (1, .int p0), (2, .int p1), (3, .int p2), (4, .ref oa)]) h dL_letter_15 (by decide) rfl ?_
        refine nx_iconst h 1 dL_letter_17 rfl ?_
        exact fin 1 g _ _ _ _ hp dL_letter_18 (Nat.le_refl _) (Nat.le_refl _)
      rw [hG] at h15 ⊢
      intro H locs hP hD hS ls hl
      have hP0 : va_P E.2.2.2.1 vwCl ([] ++ (wE (SKX ++ T) (EX E ad tr) X ++ [ou E oa g])) H := hP
      have hD0 : va_D A ([] ++ (wE (SKX ++ T) (EX E ad tr) X ++ [ou E oa g])) := hD
      have hPc := hP0.spl.2.spl.1
      have hDc := hD0.spl.2.1.spl.1
      have hF := wfree hDc hS hA
      obtain ⟨w1, w2, w3, w4, w5, w6⟩ := ex_lw7
      refine vx_calli (vx_runV (As := [.int p0, .int p1, .int p2]) (rest := [.int 0, .ref oa]) (b := ad 0) (C := RX9) ⟨hx, hb, hml, hown, hts2⟩ (c_letX l hst E ad tr T hL H.size) ⟨callB_of 3 hts2 (TB_in w1) rfl rfl rfl (hts2 _ w5) (hts2 _ w2) w6 ⟨by decide, by decide⟩, hts2 _ w3, hts2 _ w4⟩ ⟨LtP_blind, va_recv hK hPc (ci := 9) (q0 := 0) rfl (wE_get (EX E ad tr) X (skX0 T)), fun U hU hW => ⟨rfl, by rw [hU], by rw [hU]; exact hPc, va_K.moved hW.alike hK, hDc.weaken (fun _ _ _ _ => trivial), strE_use (E := EX E ad tr) hE hS hW hU hF, va_AO.moved hW.alike hO, exS_use hXs hS hW hU hF⟩⟩ rfl rfl hl.1 rfl (lv_room (Nat.le_of_ble_eq_true rfl)) dL_letter_7 ⟨Nat.le_refl _, Nat.le_refl _⟩) hS (fun q _ h => hF q h) hF (fun q _ h => hF q h) (fun Ex ce q9 u t H1 locs1 ht hvm _ hB hz1 hk1 hS1 hcell hvn hcl => ?_) (fun r u t H1 locs1 ht hvm hpost _ _ _ _ => hpost.elim)
      obtain ⟨rfl, hP1⟩ := hB
      rw [ht] at hP1
      obtain ⟨hP2, hD2⟩ := join3 hP0 hD0 hk1 hF hP1 (va_D.self (sz := H.size) hDc)
      exact vx_catch hown [] ⟨0, 12, 15, 13⟩ [] htab (fun z hz => absurd hz List.not_mem_nil) rfl (by decide) (hts2 _ ex_w3) (va_Nw.use rfl (hXs.1 _ List.mem_cons_self)) hcell hvn hcl (h15 q9 H1 locs1 hP2 hD2 hS1 ls hl)
  rw [lg_entry_eq]
  rw [hG] at goal
  exact goal s.heap [] hP hD va_S.rf _ (lv_entry _ (Nat.le_of_ble_eq_true rfl))

def exN : String := "java/util/NoSuchElementException"
def exS2 : List String := ["java/lang/RuntimeException", "java/lang/Exception"]
def exW : List Cond := vx_at0 RX9 294 exN exS2
def exB : List Cond := .castable exN exN :: exW.filter (fun w => !goodWord w)
def exK (w : Cond) : Bool := match w with | .declares _ => true | .castable _ _ => true | _ => false
theorem ex_good : ∀ w ∈ exW.filter goodWord, w ∈ TB := by decide +kernel
theorem ex_kind : ∀ w ∈ exB, exK w = true := by decide +kernel
theorem ex_tab : ∀ w ∈ exB, w ∈ lw_tbl := by decide +kernel
theorem ex_ot : ∀ w ∈ Cond.classLink RX9 292 exN :: Cond.initialized exN :: exW, vx_ot w = true := by decide +kernel
theorem ex_fit : Bundle.fit exN = true := by decide +kernel
theorem ex_fits : ∀ n ∈ exS2, Bundle.fit n = true := by decide +kernel
theorem ex_w1 : Cond.classLink RX9 292 exN ∈ TB := by decide +kernel
theorem ex_w2 : Cond.initialized exN ∈ TB := by decide +kernel
theorem ex_w3 : Cond.classLink RL 13 exN ∈ TB := by decide +kernel
theorem ex_w4 : Cond.codeWith yL_letter cL_letter 6 (some .int) [(0, 12, 15, 13)] ∈ TB := by decide +kernel
theorem ex_w5 : Cond.static yL_letter ∈ TB := by decide +kernel
theorem ex_w6 : Cond.methodLink RL 159 yL_letter ∈ TB := by decide +kernel
theorem ex_w7 : Cond.initialized RL ∈ TB := by decide +kernel
theorem ex_lw7 : CWV RL 7 yX9_letter cX9_letter 5 (some .int) 3 := ⟨by decide +kernel, by decide +kernel, by decide +kernel, by decide +kernel, by decide +kernel, by decide +kernel⟩
theorem exK_on {w : Cond} (h : exK w = true) : w.onTables = true := by
  cases w <;> first | rfl | (exact absurd h (by decide)) | cases h
theorem exK_warm {w : Cond} (h : exK w = true) {s U : State} (hW : s.WarmedH U.vm) (hZ : va_Nw w s) : va_Nw w U := by
  cases w <;> first | exact va_Nw.warmD hW hZ | exact va_Nw.warmC hW hZ | cases h
/-- what a throw needs of the state -/
def exS (A : Nat → Prop) (U : State) (H : Heap) : Prop := (∀ w ∈ exB, va_Nw w U) ∧ vx_Zq Bundle.tN "UNASSIGNED_STACK" Bundle.steD A U H ∧ vx_Zq Bundle.tN "SUPPRESSED_SENTINEL" Bundle.listD A U H
theorem exS_use {A B : Nat → Prop} {s U : State} {H : Heap} {locs : List Loc} (hE : exS A s s.heap) (hS : va_S A s.heap H locs) (hW : s.WarmedH U.vm) (hU : U.heap = H) (hAB : ∀ q, B q → A q) : exS B U U.heap := by
  rw [hU]
  exact ⟨fun w hw => exK_warm (ex_kind w hw) hW (hE.1 w hw), ((hE.2.1.kept hS.2.1).narrow hAB).moved hW.alike, ((hE.2.2.kept hS.2.1).narrow hAB).moved hW.alike⟩
theorem exS_same {A : Nat → Prop} {U V : State} {H : Heap} (h : exS A U H) (hv : U.vm = V.vm) : exS A V H :=
  ⟨fun w hw => va_Nw.same (exK_on (ex_kind w hw)) hv (h.1 w hw), h.2.1.moved (by rw [hv]; exact Vm.Alike.refl _), h.2.2.moved (by rw [hv]; exact Vm.Alike.refl _)⟩
def LtP (SK : List Sk) (E : En) (w0 : va_W) (sz : Nat) (U : State) : Prop := U.heap.size = sz ∧ va_P E.2.2.2.1 vwCl w0 U.heap ∧ va_K E.2.2.2.1 vwCl (tysE E) U ∧ va_D (fun _ => True) w0 ∧ strE E (va_A w0 sz) U U.heap ∧ va_AO "PullCards$Image" U ∧ exS (va_A w0 sz) U U.heap
theorem LtP_blind {SK : List Sk} {E : En} {w0 : va_W} {sz : Nat} {as : List Value} : FrameBlind (va_Pc as (LtP SK E w0 sz)) := by
  intro a U g mk q
  obtain ⟨q0, q1, qP, qK, qD, qE, qO, qX⟩ := q
  exact ⟨q0, q1, qP, va_K.moved (u := U) (U := U.calling g mk a) (Vm.Alike.refl U.vm) qK, qD, ⟨qE.1.moved (Vm.Alike.refl U.vm), fun i q hq => (qE.2.1 i q hq).same rfl, fun q hq => (qE.2.2.1 q hq).same rfl rfl, qE.2.2.2.1.moved (Vm.Alike.refl U.vm), qE.2.2.2.2.moved (Vm.Alike.refl U.vm)⟩, va_AO.moved (u := U) (U := U.calling g mk a) (Vm.Alike.refl U.vm) qO, exS_same (V := U.calling g mk a) qX rfl⟩
section LET
variable {l : Launch} {E : En} {ad : Nat → Nat} {tr : Value} {T : List Sk} {G : Nat → List (Nat × Value) → List Value → NW → Prop} {nL : Nat} {own : String} {cc : ByteArray} {ret : Option FieldType} {R : Room} {XF : XFt}
variable {pc : Nat} {lv : List (Nat × Value)} {st : List Value} {X : Mm}
theorem nx_ialdW (h : NX l E own cc nL ret R XF G) {ws : va_W} {kn : Nat × Nat} {q0 n a : Nat} {f : Nat → Int32} {i z : Int32} (hq : ws[q0]? = some (a, .inl (E.1 0, n, .inl f))) (hz : rd f n i = some z) (d : decode cc pc = .ok (.iaload, 1)) (kk : G (pc + 1) lv (.int z :: st) (ws, kn)) : G pc lv (.int i :: .ref a :: st) (ws, kn) := by
  obtain ⟨p, e, s, m, args, below, meth, c, A, Q, hx, hb, hml, hr, hlo, hown, hts, hK, hA, hO, hX, rfl⟩ := h
  unfold rd at hz
  split at hz
  · cases hz
    exact fun H locs hP hD hS ls hl => va_iald hx hb hK hP q0 0 hq rfl (inb (by assumption)) d (kk H locs hP hD hS ls hl)
  · cases hz
theorem nx_laldW (h : NX l E own cc nL ret R XF G) {ws : va_W} {kn : Nat × Nat} {q0 n a : Nat} {f : Nat → Int64} {i : Int32} (hq : ws[q0]? = some (a, .inl (E.1 3, n, .inr (.inl f)))) (hi : 0 ≤ i ∧ i.toNatClampNeg < n) (d : decode cc pc = .ok (.laload, 1)) (kk : G (pc + 1) lv (.long (f i.toNatClampNeg) :: st) (ws, kn)) : G pc lv (.int i :: .ref a :: st) (ws, kn) := by
  obtain ⟨p, e, s, m, args, below, meth, c, A, Q, hx, hb, hml, hr, hlo, hown, hts, hK, hA, hO, hX, rfl⟩ := h
  exact fun H locs hP hD hS ls hl => va_lald hx hb hK hP q0 3 hq rfl (inb hi) d (kk H locs hP hD hS ls hl)
theorem nx_lastW (h : NX l E own cc nL ret R XF G) {ws w2 : va_W} {kn : Nat × Nat} {q0 n a : Nat} {f : Nat → Int64} {i : Int32} {x : Int64} (hq : ws[q0]? = some (a, .inl (E.1 3, n, .inr (.inl f)))) (hi : 0 ≤ i ∧ i.toNatClampNeg < n) (hw2 : ws.set q0 (a, .inl (E.1 3, n, .inr (.inl (vp_updL f i.toNatClampNeg x)))) = w2) (d : decode cc pc = .ok (.lastore, 1)) (kk : G (pc + 1) lv st (w2, kn)) : G pc lv (.long x :: .int i :: .ref a :: st) (ws, kn) := by
  obtain ⟨p, e, s, m, args, below, meth, c, A, Q, hx, hb, hml, hr, hlo, hown, hts, hK, hA, hO, hX, rfl⟩ := h
  subst hw2
  exact fun H locs hP hD hS ls hl => va_last hx hb hK hP hD hS q0 3 hq rfl (inb hi) d (fun H1 locs1 hP hD hS => kk H1 locs1 hP hD hS ls hl)
theorem let_mid (h : NX l E RX9 cX9_letter 5 (some .int) R XF G) (hXE : ∀ s args below meth A Q, XF s args below meth A Q → strE E A s s.heap) (hR : 2 ≤ R.frames ∧ 60 ≤ R.locals) {p0 p1 p2 z : Int32} (hz : rd (X.1 10) 9 (if p0 = 0 then 3 + p1 else p1) = some z) (hw : f_P_within p2 (z - 1) = some 0)
    (h63 : ∀ lv, G 63 lv [] (wE (SKX ++ T) (EX E ad tr) X ++ [], 0, 0)) : G 31 [(0, .ref (ad 0)), (1, .int p0), (2, .int p1), (3, .int p2)] [] (wE (SKX ++ T) (EX E ad tr) X ++ [], 0, 0) := by
  have key : ∀ v, rd (X.1 10) 9 v = some z → G 42 [(0, .ref (ad 0)), (1, .int p0), (2, .int p1), (3, .int p2)] [.int v] (wE (SKX ++ T) (EX E ad tr) X ++ [], 0, 0) := by
    intro v hv
    refine nx_istore (lv2 := [(4, .int v), (0, .ref (ad 0)), (1, .int p0), (2, .int p1), (3, .int p2)]) h dX9_letter_42 (by decide) rfl ?_
    refine nx_iload_n h dX9_letter_44 4 rfl ?_
    refine nx_aload_n h dX9_letter_45 1 rfl ?_
    refine nx_getW (C := RX9) (T := TX9) (N := 13) (v := .ref (ad 2)) h 0 1 (wEa (EX E ad tr) X [] (skX0 T)) inT9 rfl (Nat.le_of_ble_eq_true rfl) q_444 rfl rfl dX9_letter_46 ?_
    refine nx_getW (C := RX5) (T := TX5) (N := 12) (v := .ref (ad 10)) h 2 10 (wEa (EX E ad tr) X [] (skX2 T)) inT5 rfl (Nat.le_of_ble_eq_true rfl) q_210 rfl rfl dX9_letter_49 ?_
    refine nx_iload h dX9_letter_52 0 rfl ?_
    refine nx_ialdW h (wEa (EX E ad tr) X [] (skX10 T)) hv dX9_letter_54 ?_
    refine nx_iconst h 1 dX9_letter_55 rfl ?_
    refine nx_isub h dX9_letter_56 ?_
    refine nx_cS (st := []) (ci := 0) (N := 0) h hXE (wa := []) (wb := []) (As := [.int p2, .int (z - 1)]) (c_P_within l (EX E ad tr) (SKX ++ T) p2 (z - 1) (M := X) hw) kw_P_128 ⟨by omega, by omega⟩ ⟨Nat.zero_le _, Nat.zero_le _⟩ rfl (Nat.le_of_ble_eq_true rfl) dX9_letter_57 ?_
    refine nx_if_ne h 71 dX9_letter_60 rfl (fun c4 => absurd rfl c4) (fun _ => ?_)
    exact h63 _
  refine nx_iload_n h dX9_letter_31 1 rfl ?_
  refine nx_if_eq h 39 dX9_letter_32 rfl (fun c1 => ?_) (fun c1 => ?_)
  · rw [if_pos c1] at hz
    refine nx_iconst h 3 dX9_letter_39 rfl ?_
    refine nx_iload_n h dX9_letter_40 2 rfl ?_
    refine nx_iadd h dX9_letter_41 ?_
    exact key _ hz
  · rw [if_neg c1] at hz
    refine nx_iload_n h dX9_letter_35 2 rfl ?_
    refine nx_goto h 42 dX9_letter_36 rfl ?_
    exact key _ hz
theorem let_walk (h : NX l E RX9 cX9_letter 5 (some .int) R XF G) (hXE : ∀ s args below meth A Q, XF s args below meth A Q → strE E A s s.heap) (hR : 2 ≤ R.frames ∧ 60 ≤ R.locals) {p0 p1 p2 : Int32} (hL : LT p0 p1 p2 X)
    (h23 : ∀ lv, G 23 lv [] (wE (SKX ++ T) (EX E ad tr) X ++ [], 0, 0)) (h63 : ∀ lv, G 63 lv [] (wE (SKX ++ T) (EX E ad tr) X ++ [], 0, 0)) : G 0 [(0, .ref (ad 0)), (1, .int p0), (2, .int p1), (3, .int p2)] [] (wE (SKX ++ T) (EX E ad tr) X ++ [], 0, 0) := by
  refine nx_iload_n h dX9_letter_0 1 rfl ?_
  unfold LT at hL
  refine nx_if_eq h 15 dX9_letter_1 rfl (fun c1 => ?_) (fun c1 => ?_)
  · rw [if_pos c1] at hL
    refine nx_aload_n h dX9_letter_15 0 rfl ?_
    refine nx_iload_n h dX9_letter_16 2 rfl ?_
    rcases hL with hv | ⟨hv, z, hz, hw⟩
    · refine nx_cG h hXE (wa := []) (wb := []) (ci := 9) (T := TX9) (N := 13) (As := [.int p1]) (c_P_isBench_0 l (EX E ad tr) T p1 hv) (skX0 T) rfl rfl kw_P_150 ⟨by omega, by omega⟩ ⟨Nat.zero_le _, Nat.zero_le _⟩ rfl (Nat.le_of_ble_eq_true rfl) dX9_letter_17 ?_
      exact nx_if_ne h 31 dX9_letter_20 rfl (fun c4 => absurd rfl c4) (fun _ => h23 _)
    · refine nx_cG h hXE (wa := []) (wb := []) (ci := 9) (T := TX9) (N := 13) (As := [.int p1]) (c_P_isBench_0 l (EX E ad tr) T p1 hv) (skX0 T) rfl rfl kw_P_150 ⟨by omega, by omega⟩ ⟨Nat.zero_le _, Nat.zero_le _⟩ rfl (Nat.le_of_ble_eq_true rfl) dX9_letter_17 ?_
      exact nx_if_ne h 31 dX9_letter_20 rfl (fun _ => let_mid h hXE hR hz hw h63) (fun c4 => absurd c4 (show ¬ (1 : Int32) = 0 by decide))
  · rw [if_neg c1] at hL
    refine nx_aload_n h dX9_letter_4 0 rfl ?_
    refine nx_iload_n h dX9_letter_5 2 rfl ?_
    rcases hL with hv | ⟨hv, z, hz, hw⟩
    · refine nx_cG h hXE (wa := []) (wb := []) (ci := 9) (T := TX9) (N := 13) (As := [.int p1]) (c_P_isKind_0 l (EX E ad tr) T p1 hv) (skX0 T) rfl rfl kw_P_167 ⟨by omega, by omega⟩ ⟨Nat.zero_le _, Nat.zero_le _⟩ rfl (Nat.le_of_ble_eq_true rfl) dX9_letter_6 ?_
      exact nx_if_eq h 23 dX9_letter_9 rfl (fun _ => h23 _) (fun c4 => absurd rfl c4)
    · refine nx_cG h hXE (wa := []) (wb := []) (ci := 9) (T := TX9) (N := 13) (As := [.int p1]) (c_P_isKind_0 l (EX E ad tr) T p1 hv) (skX0 T) rfl rfl kw_P_167 ⟨by omega, by omega⟩ ⟨Nat.zero_le _, Nat.zero_le _⟩ rfl (Nat.le_of_ble_eq_true rfl) dX9_letter_6 ?_
      refine nx_if_eq h 23 dX9_letter_9 rfl (fun c4 => absurd c4 (show ¬ (1 : Int32) = 0 by decide)) (fun _ => ?_)
      exact nx_goto h 31 dX9_letter_12 rfl (let_mid h hXE hR hz hw h63)
end LET

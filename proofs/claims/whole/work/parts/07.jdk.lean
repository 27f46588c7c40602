section JDKROWS
variable {l : Launch} {SK : List Sk} {E : En} {own : String} {cc : ByteArray} {nL : Nat} {ret : Option FieldType} {R : Room} {kc ks : Nat} {v : Option Value} {M' : Mm} {G : Nat → List (Nat × Value) → List Value → Mm → Prop}
variable {pc : Nat} {lv : List (Nat × Value)} {st : List Value} {M : Mm}
theorem rx_alen (h : RX l SK E own cc nL ret R kc ks v M' G) {q0 n : Nat} (hs : SK[q0]? = some (fun cy _ _ s _ => .inl (cy 0, n, .inl s))) (d : decode cc pc = .ok (.arraylength, 1)) (kk : G (pc + 1) lv (.int (nI n) :: st) M) : G pc lv (.ref (adr E q0) :: st) M := by
  obtain ⟨p, e, s, m, args, below, meth, c, A, hx, hb, hml, hr, hlo, hown, hts, hK, hD, hA, hE, hc, rfl⟩ := h
  exact fun H locs hP hS ls hl => va_alen hx hb hK hP q0 0 (wE_get E M hs) rfl rfl d (kk H locs hP hS ls hl)
theorem s1_same (M : Mm) (k : Nat) (f : Nat → Int32) : (s1 M k f).1 k = f := by show (if k = k then f else M.1 k) = f; rw [if_pos rfl]
theorem s1_s1 (M : Mm) (k : Nat) (f g : Nat → Int32) : s1 (s1 M k f) k g = s1 M k g := by
  show ((fun q => if q = k then g else (if q = k then f else M.1 q)), M.2) = ((fun q => if q = k then g else M.1 q), M.2)
  congr 1
  funext q
  by_cases h : q = k
  · rw [if_pos h, if_pos h]
  · rw [if_neg h, if_neg h, if_neg h]
theorem fil_0 (f : Nat → Int32) (x : Int32) : fil f 0 x = f := by funext j; simp [fil]
theorem s1_id (M : Mm) (k : Nat) : s1 M k (M.1 k) = M := by
  show ((fun q => if q = k then M.1 k else M.1 q), M.2) = M
  have : (fun q => if q = k then M.1 k else M.1 q) = M.1 := by
    funext q
    by_cases h : q = k
    · rw [if_pos h, h]
    · rw [if_neg h]
  rw [this]
theorem fil_s (f : Nat → Int32) (i : Nat) (x : Int32) : upd (fil f i x) i x = fil f (i + 1) x := by
  funext j
  unfold upd fil
  by_cases h : j = i
  · subst h; simp
  · rw [if_neg h]
    by_cases h2 : j < i
    · rw [if_pos h2, if_pos (by omega)]
    · rw [if_neg h2, if_neg (by omega)]
set_option maxHeartbeats 4000000 in
set_option maxRecDepth 100000 in
theorem c_fill (l : Launch) (E : En) (SK : List Sk) {q0 n : Nat} (hs : SK[q0]? = some (fun cy _ _ s _ => .inl (cy 0, n, .inl s))) (hn : n ≤ 100000) (x : Int32) {M M2 : Mm} (hM : some (s1 M q0 (fil (M.1 q0) n x)) = some M2) : Ct l SK E yJ7_fill_53178 cJ7_fill_53178 4 none 0 0 [.ref (adr E q0), .int x] M none M2 := by
  cases hM
  refine ct_of (by decide) (Nat.le_of_ble_eq_true rfl) ?_
  intro G hG
  show G 0 [(0, .ref (adr E q0)), (1, .int x)] [] M
  have loop : ∀ k i : Nat, i + k = n → G 5 [(0, .ref (adr E q0)), (1, .int x), (2, .int (nI i)), (3, .int (nI n))] [] (s1 M q0 (fil (M.1 q0) i x)) := by
    intro k
    induction k with
    | zero =>
      intro i hi
      have hi : i = n := by omega
      subst hi
      refine rx_iload_n hG dJ7_fill_53178_5 2 rfl ?_
      refine rx_iload_n hG dJ7_fill_53178_6 3 rfl ?_
      refine rx_icmp_ge hG 20 dJ7_fill_53178_7 rfl (fun c1 => ?_) (fun c1 => ?_)
      · exact rx_vret hG dJ7_fill_53178_20
      · exact absurd (nI_le (Nat.le_refl i) (by omega)) c1
    | succ k ih =>
      intro i hi
      refine rx_iload_n hG dJ7_fill_53178_5 2 rfl ?_
      refine rx_iload_n hG dJ7_fill_53178_6 3 rfl ?_
      refine rx_icmp_ge hG 20 dJ7_fill_53178_7 rfl (fun c1 => ?_) (fun c1 => ?_)
      · exact absurd c1 (nI_ge (by omega) (by omega))
      · refine rx_aload_n hG dJ7_fill_53178_10 0 rfl ?_
        refine rx_iload_n hG dJ7_fill_53178_11 2 rfl ?_
        refine rx_iload_n hG dJ7_fill_53178_12 1 rfl ?_
        refine rx_iast hG hs (M2 := s1 M q0 (fil (M.1 q0) (i + 1) x)) ?_ dJ7_fill_53178_13 ?_
        · unfold wr
          rw [if_pos ⟨nI_pos' (by omega), by rw [nI_clamp (by omega)]; omega⟩, nI_clamp (by omega)]
          unfold u1
          rw [s1_same, s1_s1, fil_s]
        · refine rx_iinc (lv2 := [(2, .int (nI i + 1)), (0, .ref (adr E q0)), (1, .int x), (3, .int (nI n))]) hG 1 dJ7_fill_53178_14 rfl 2 rfl (Nat.le_of_ble_eq_true rfl) rfl ?_
          refine rx_goto hG 5 dJ7_fill_53178_17 rfl ?_
          refine rx_sub hG [1, 2, 0, 3] (lv' := [(0, .ref (adr E q0)), (1, .int x), (2, .int (nI i + 1)), (3, .int (nI n))]) rfl ?_
          rw [nI_1]
          exact ih (i + 1) (by omega)
  have h0 := loop n 0 (by omega)
  rw [fil_0, s1_id] at h0
  refine rx_iconst hG 0 dJ7_fill_53178_0 rfl ?_
  refine rx_istore_n (lv2 := [(2, .int 0), (0, .ref (adr E q0)), (1, .int x)]) hG dJ7_fill_53178_1 (Nat.le_of_ble_eq_true rfl) rfl ?_
  refine rx_aload_n hG dJ7_fill_53178_2 1 rfl ?_
  refine rx_alen hG hs dJ7_fill_53178_3 ?_
  refine rx_istore_n (lv2 := [(3, .int (nI n)), (2, .int 0), (0, .ref (adr E q0)), (1, .int x)]) hG dJ7_fill_53178_4 (Nat.le_of_ble_eq_true rfl) rfl ?_
  refine rx_sub hG [2, 3, 1, 0] (lv' := [(0, .ref (adr E q0)), (1, .int x), (2, .int 0), (3, .int (nI n))]) rfl ?_
  exact h0
theorem rx_nret {ty : FieldType} {r : Int32} (h : RX l SK E own cc nL (some ty) R kc ks (some (.int r)) M' G) (hn : narrow ty (.int r) = .int r) (d : decode cc pc = .ok (.ireturn, 1)) : G pc lv [.int r] M' := by
  obtain ⟨p, e, s, m, args, below, meth, c, A, hx, hb, hml, hr, hlo, hown, hts, hK, hD, hA, hE, hc, rfl⟩ := h
  exact fun H locs hP hS ls h => W.zret hx hb hr hn (fun t ht hW => ⟨⟨rfl, by rw [ht]; exact hP, va_K.moved hW.alike hK⟩, hS.F ht⟩) hS.2.2 d
theorem rx_getZ (h : RX l SK E own cc nL ret R kc ks v M' G) {index : Nat} (hw : Cond.fieldLink own index "java/lang/String" "COMPACT_STRINGS" "Z" ∈ TB) (d : decode cc pc = .ok (.getstatic index, 3)) (kk : G (pc + 3) lv (.int 1 :: st) M) : G pc lv st M := by
  obtain ⟨p, e, s, m, args, below, meth, c, A, hx, hb, hml, hr, hlo, hown, hts, hK, hD, hA, hE, hc, rfl⟩ := h
  exact fun H locs hP hS ls hl => va_gets hx hb hE.2.2.2.1 hS hown (hts _ hw) (fun _ h9 => h9) d (kk H locs hP hS ls hl)
theorem rx_getF (h : RX l SK E own cc nL ret R kc ks v M' G) {index : Nat} (hw : Cond.fieldLink own index "jdk/internal/util/Preconditions" "SIOOBE_FORMATTER" "Ljava/util/function/BiFunction;" ∈ TB) (d : decode cc pc = .ok (.getstatic index, 3)) (kk : ∀ w : Value, w.category = 1 → lg_sl [w] = [.val w] → G (pc + 3) lv (w :: st) M) : G pc lv st M := by
  obtain ⟨p, e, s, m, args, below, meth, c, A, hx, hb, hml, hr, hlo, hown, hts, hK, hD, hA, hE, hc, rfl⟩ := h
  intro H locs hP hS ls hl
  rcases hE.2.2.2.2 with hZ | ⟨t, hZ⟩
  · exact va_gets hx hb hZ hS hown (hts _ hw) (fun _ h9 => h9) d (kk _ rfl rfl H locs hP hS ls hl)
  · exact va_gets hx hb hZ hS hown (hts _ hw) (fun _ h9 => h9) d (kk _ rfl rfl H locs hP hS ls hl)
theorem rx_getSc (h : RX l SK E own cc nL ret R kc ks v M' G) {index i : Nat} (hi : i < 13) (hw : Cond.fieldLink own index "java/lang/String" "coder" "B" ∈ TB) (d : decode cc pc = .ok (.getfield index, 3)) (kk : G (pc + 3) lv (.int 0 :: st) M) : G pc lv (.ref (E.2.2.2.2.1 i) :: st) M := by
  obtain ⟨p, e, s, m, args, below, meth, c, A, hx, hb, hml, hr, hlo, hown, hts, hK, hD, hA, hE, hc, rfl⟩ := h
  exact fun H locs hP hS ls hl => vk_getf hx hb (hE.1.1 i hi).2.1 hS hown (hts _ hw) (fun _ h9 => h9) d (kk H locs hP hS ls hl)
theorem rx_getSv (h : RX l SK E own cc nL ret R kc ks v M' G) {index i : Nat} (hi : i < 13) (hw : Cond.fieldLink own index "java/lang/String" "value" "[B" ∈ TB) (d : decode cc pc = .ok (.getfield index, 3)) (kk : G (pc + 3) lv (.ref (E.2.2.2.2.2 i) :: st) M) : G pc lv (.ref (E.2.2.2.2.1 i) :: st) M := by
  obtain ⟨p, e, s, m, args, below, meth, c, A, hx, hb, hml, hr, hlo, hown, hts, hK, hD, hA, hE, hc, rfl⟩ := h
  exact fun H locs hP hS ls hl => vk_getf hx hb (hE.1.1 i hi).2.2.1 hS hown (hts _ hw) (fun _ h9 => h9) d (kk H locs hP hS ls hl)
theorem rx_sarl (h : RX l SK E own cc nL ret R kc ks v M' G) {i : Nat} (hi : i < 13) (d : decode cc pc = .ok (.arraylength, 1)) (kk : G (pc + 1) lv (.int (nI (slen.getD i 0)) :: st) M) : G pc lv (.ref (E.2.2.2.2.2 i) :: st) M := by
  obtain ⟨p, e, s, m, args, below, meth, c, A, hx, hb, hml, hr, hlo, hown, hts, hK, hD, hA, hE, hc, rfl⟩ := h
  exact fun H locs hP hS ls hl => va_tlen hx hb (hE.1.1 i hi).2.2.2 hS rfl d (kk H locs hP hS ls hl)
theorem rx_sald (h : RX l SK E own cc nL ret R kc ks v M' G) {i : Nat} {x : Int32} (hi : i < 13) (hx9 : 0 ≤ x ∧ x.toNatClampNeg < slen.getD i 0) (d : decode cc pc = .ok (.baload, 1)) (kk : G (pc + 1) lv (.int ((sbyt.getD i []).getD x.toNatClampNeg 0) :: st) M) : G pc lv (.int x :: .ref (E.2.2.2.2.2 i) :: st) M := by
  obtain ⟨p, e, s, m, args, below, meth, c, A, hx, hb, hml, hr, hlo, hown, hts, hK, hD, hA, hE, hc, rfl⟩ := h
  exact fun H locs hP hS ls hl => va_tb hx hb (hE.1.1 i hi).2.2.2 hS (inb hx9) rfl d (kk H locs hP hS ls hl)
theorem rx_i2c (h : RX l SK E own cc nL ret R kc ks v M' G) {x z : Int32} (hz : (x.toUInt32 % 65536).toInt32 = z) (d : decode cc pc = .ok (.i2c, 1)) (kk : G (pc + 1) lv (.int z :: st) M) : G pc lv (.int x :: st) M := by
  obtain ⟨p, e, s, m, args, below, meth, c, A, hx, hb, hml, hr, hlo, hown, hts, hK, hD, hA, hE, hc, rfl⟩ := h
  exact fun H locs hP hS ls hl => lv_i2c hx hb d hz (kk H locs hP hS ls hl)
theorem rx_callVS (h : RX l SK E own cc nL ret R kc ks v M' G) {y : MethodName} {yc : ByteArray} {nL2 fr lo index i : Nat} {ret2 : Option FieldType} {As stk : List Value} {M2 : Mm} {v2 : Option Value} (hi : i < 13) (hy : y.cls = "java/lang/String")
    (hct : Ct l SK E y yc nL2 ret2 fr lo (.ref (E.2.2.2.2.1 i) :: As) M v2 M2)
    (hcode : Cond.code y yc nL2 ret2 ∈ TB) (hw1 : Cond.methodLink own index y ∈ TB) (hw2 : Cond.instanceMethod y ∈ TB) (hw3 : Cond.selects "java/lang/String" y y ∈ TB) (hw4 : Cond.initialized y.cls ∈ TB)
    (hd : y.cls ≠ "java/lang/invoke/MethodHandle" ∧ y.cls ≠ "java/lang/invoke/VarHandle" ∧ (parseMethodDescriptor y.desc).map (fun d => d.parameters.length) = some As.length) (hR : fr + 1 ≤ R.frames ∧ 8 + (nL2 + 11) + lo ≤ R.locals)
    (hst : stk = As.reverse ++ .ref (E.2.2.2.2.1 i) :: st) (hrm : (st.map fun v => v.category).sum ≤ 8) (d : decode cc pc = .ok (.invokevirtual index, 3)) (kk : G (pc + 3) lv (v2.toList ++ st) M2) : G pc lv stk M := by
  obtain ⟨p, e, s, m, args, below, meth, c, A, hx, hb, hml, hr, hlo, hown, hts, hK, hD, hA, hE, hc, rfl⟩ := h
  intro H locs hP hS ls hl
  have hF := rx_free (hD M) hS hA
  refine rx_after (va_runV (As := As) (rest := st) (b := E.2.2.2.2.1 i) (C := "java/lang/String") (g := F0 m pc ls stk) ⟨hx, hb, hml, hown, hts⟩ (hct H.size) ⟨callB_of As.length hts (TB_in hcode) rfl rfl rfl (hts _ hw4) (hts _ hw1) hd hR, hts _ hw2, hts _ hw3⟩ ⟨CtP_blind, vk_recv hE.1 hi hS, fun U hU hW => ⟨rfl, by rw [hU], ⟨by rw [hU]; exact hP, va_K.moved hW.alike hK⟩, (hD M).weaken (fun _ _ _ _ => trivial), strE_use hE hS hW hU hF⟩⟩ rfl rfl hl.1 hst (lv_room hrm) d ⟨hc.1, hc.2⟩) hS hF (fun H1 locs1 hP1 hS1 => kk H1 locs1 hP1 hS1 ls hl)
end JDKROWS
theorem sb_all : sbyt.all (fun q => q.all (fun b => decide (((b &&& 255).toUInt32 % 65536).toInt32 = b) && decide (narrow .char (.int b) = .int b))) = true := by decide +kernel
theorem sb_ok (i j : Nat) : (((((sbyt.getD i []).getD j 0) &&& 255).toUInt32 % 65536).toInt32 = (sbyt.getD i []).getD j 0) ∧ narrow .char (.int ((sbyt.getD i []).getD j 0)) = .int ((sbyt.getD i []).getD j 0) := by
  have h0 : ((((0 : Int32) &&& 255).toUInt32 % 65536).toInt32 = 0) ∧ narrow .char (.int 0) = .int 0 := by decide +kernel
  have ha := sb_all
  rw [List.all_eq_true] at ha
  cases hq : sbyt[i]? with
  | none => rw [show sbyt.getD i [] = [] by rw [List.getD_eq_getElem?_getD, hq]; rfl]; exact h0
  | some q =>
    rw [show sbyt.getD i [] = q by rw [List.getD_eq_getElem?_getD, hq]; rfl]
    have h1 := ha q (List.mem_of_getElem? hq)
    rw [List.all_eq_true] at h1
    cases hb : q[j]? with
    | none => rw [List.getD_eq_getElem?_getD, hb]; exact h0
    | some b =>
      rw [show q.getD j 0 = b by rw [List.getD_eq_getElem?_getD, hb]; rfl]
      have h2 := h1 b (List.mem_of_getElem? hb)
      rw [Bool.and_eq_true, decide_eq_true_eq, decide_eq_true_eq] at h2
      exact h2
def jdd (y : MethodName) (n : Nat) : Prop := y.cls ≠ "java/lang/invoke/MethodHandle" ∧ y.cls ≠ "java/lang/invoke/VarHandle" ∧ (parseMethodDescriptor y.desc).map (fun d => d.parameters.length) = some n
theorem jd_len : jdd yJ0_length_8abf5 0 := ⟨by decide, by decide, by decide +kernel⟩
theorem jd_chr : jdd yJ0_charAt_5068e 1 := ⟨by decide, by decide, by decide +kernel⟩
theorem jd_cod : jdd yJ0_coder_7d493 0 := ⟨by decide, by decide, by decide +kernel⟩
theorem jd_lat : jdd yJ0_isLatin1_aae02 0 := ⟨by decide, by decide, by decide +kernel⟩
theorem jd_cki : jdd yJ0_checkIndex_df160 2 := ⟨by decide, by decide, by decide +kernel⟩
theorem jd_l1c : jdd yJ1_charAt_3b067 2 := ⟨by decide, by decide, by decide +kernel⟩
theorem jd_pck : jdd yJ3_checkIndex_8e157 3 := ⟨by decide, by decide, by decide +kernel⟩
theorem c_pck (l : Launch) (E : En) (SK : List Sk) (i n : Int32) (w : Value) (hw : w.category = 1) (hw2 : lg_sl [w] = [.val w]) (h1 : 0 ≤ i) (h2 : i < n) (M : Mm) : Ct l SK E yJ3_checkIndex_8e157 cJ3_checkIndex_8e157 3 (some .int) 0 0 [.int i, .int n, w] M (some (.int i)) M := by
  refine ct_of (by decide) ?_ ?_
  · show (lg_sl (.int i :: .int n :: [w])).length ≤ 3
    have : lg_sl (.int i :: .int n :: [w]) = .val (.int i) :: .val (.int n) :: lg_sl [w] := rfl
    rw [this, hw2]
    exact Nat.le_refl 3
  intro G hG
  refine rx_sub hG [0, 1] (lv' := [(0, .int i), (1, .int n)]) rfl ?_
  refine rx_iload_n hG dJ3_checkIndex_8e157_0 0 rfl ?_
  refine rx_if_lt hG 9 dJ3_checkIndex_8e157_1 rfl (fun c => ?_) (fun c => ?_)
  · exact absurd c (Int32.not_lt.mpr h1)
  refine rx_iload_n hG dJ3_checkIndex_8e157_4 0 rfl ?_
  refine rx_iload_n hG dJ3_checkIndex_8e157_5 1 rfl ?_
  refine rx_icmp_lt hG 16 dJ3_checkIndex_8e157_6 rfl (fun c => ?_) (fun c => ?_)
  · refine rx_iload_n hG dJ3_checkIndex_8e157_16 0 rfl ?_
    exact rx_iret hG dJ3_checkIndex_8e157_17
  · exact absurd h2 c
theorem c_cki (l : Launch) (E : En) (SK : List Sk) (i n : Int32) (h1 : 0 ≤ i) (h2 : i < n) (M : Mm) : Ct l SK E yJ0_checkIndex_df160 cJ0_checkIndex_df160 2 none 1 22 [.int i, .int n] M none M := by
  refine ct_of (by decide) (Nat.le_of_ble_eq_true rfl) ?_
  intro G hG
  show G 0 [(0, .int i), (1, .int n)] [] M
  refine rx_iload_n hG dJ0_checkIndex_df160_0 0 rfl ?_
  refine rx_iload_n hG dJ0_checkIndex_df160_1 1 rfl ?_
  refine rx_getF hG jf_1053 dJ0_checkIndex_df160_2 (fun w hw hw2 => ?_)
  refine rx_callS hG (c_pck l E SK i n w hw hw2 h1 h2 M) jc_pck jm_S_1059 js_pck jn_RJ3 jd_pck ⟨Nat.le_of_ble_eq_true rfl, Nat.le_of_ble_eq_true rfl⟩ rfl (Nat.le_of_ble_eq_true rfl) dJ0_checkIndex_df160_5 ?_
  show G 8 _ [.int i] M
  refine rx_pop hG dJ0_checkIndex_df160_8 rfl ?_
  exact rx_vret hG dJ0_checkIndex_df160_9
theorem c_l1c (l : Launch) (E : En) (SK : List Sk) (i : Nat) (x : Int32) (hi : i < 13) (h1 : 0 ≤ x) (h2 : x.toNatClampNeg < slen.getD i 0) (M : Mm) : Ct l SK E yJ1_charAt_3b067 cJ1_charAt_3b067 2 (some .char) 2 43 [.ref (E.2.2.2.2.2 i), .int x] M (some (.int ((sbyt.getD i []).getD x.toNatClampNeg 0))) M := by
  refine ct_of (by decide) (Nat.le_of_ble_eq_true rfl) ?_
  intro G hG
  show G 0 [(0, .ref (E.2.2.2.2.2 i)), (1, .int x)] [] M
  have hlen : slen.getD i 0 < 2 ^ 31 := by
    rcases (show i = 0 ∨ i = 1 ∨ i = 2 ∨ i = 3 ∨ i = 4 ∨ i = 5 ∨ i = 6 ∨ i = 7 ∨ i = 8 ∨ i = 9 ∨ i = 10 ∨ i = 11 ∨ i = 12 by omega) with rfl | rfl | rfl | rfl | rfl | rfl | rfl | rfl | rfl | rfl | rfl | rfl | rfl <;> decide
  have hx : x < nI (slen.getD i 0) := by
    obtain ⟨j, hj, rfl⟩ := nI_of (Int32.not_lt.mpr h1)
    rw [nI_clamp hj] at h2
    exact nI_lt h2 hlen
  refine rx_iload_n hG dJ1_charAt_3b067_0 1 rfl ?_
  refine rx_aload_n hG dJ1_charAt_3b067_1 0 rfl ?_
  refine rx_sarl hG hi dJ1_charAt_3b067_2 ?_
  refine rx_callS hG (c_cki l E SK x (nI (slen.getD i 0)) h1 hx M) jc_cki jm_L_9 js_cki jn_RJ0 jd_cki ⟨Nat.le_of_ble_eq_true rfl, Nat.le_of_ble_eq_true rfl⟩ rfl (Nat.le_of_ble_eq_true rfl) dJ1_charAt_3b067_3 ?_
  show G 6 _ [] M
  refine rx_aload_n hG dJ1_charAt_3b067_6 0 rfl ?_
  refine rx_iload_n hG dJ1_charAt_3b067_7 1 rfl ?_
  refine rx_sald hG hi ⟨h1, h2⟩ dJ1_charAt_3b067_8 ?_
  refine rx_sipush hG 255 dJ1_charAt_3b067_9 rfl ?_
  refine rx_iand hG dJ1_charAt_3b067_12 ?_
  refine rx_i2c hG (sb_ok i x.toNatClampNeg).1 dJ1_charAt_3b067_13 ?_
  exact rx_nret hG (sb_ok i x.toNatClampNeg).2 dJ1_charAt_3b067_14
theorem c_lat (l : Launch) (E : En) (SK : List Sk) (i : Nat) (hi : i < 13) (M : Mm) : Ct l SK E yJ0_isLatin1_aae02 cJ0_isLatin1_aae02 1 (some .boolean) 0 0 [.ref (E.2.2.2.2.1 i)] M (some (.int 1)) M := by
  refine ct_of (by decide) (Nat.le_of_ble_eq_true rfl) ?_
  intro G hG
  show G 0 [(0, .ref (E.2.2.2.2.1 i))] [] M
  refine rx_getZ hG jf_38 dJ0_isLatin1_aae02_0 ?_
  refine rx_if_eq hG 17 dJ0_isLatin1_aae02_3 rfl (fun c => ?_) (fun c => ?_)
  · exact absurd c (by decide)
  refine rx_aload_n hG dJ0_isLatin1_aae02_6 0 rfl ?_
  refine rx_getSc hG hi jf_15 dJ0_isLatin1_aae02_7 ?_
  refine rx_if_ne hG 17 dJ0_isLatin1_aae02_10 rfl (fun c => ?_) (fun c => ?_)
  · exact absurd rfl c
  refine rx_iconst hG 1 dJ0_isLatin1_aae02_13 rfl ?_
  refine rx_goto hG 18 dJ0_isLatin1_aae02_14 rfl ?_
  exact rx_nret hG rfl dJ0_isLatin1_aae02_18
theorem c_cod (l : Launch) (E : En) (SK : List Sk) (i : Nat) (hi : i < 13) (M : Mm) : Ct l SK E yJ0_coder_7d493 cJ0_coder_7d493 1 (some .byte) 0 0 [.ref (E.2.2.2.2.1 i)] M (some (.int 0)) M := by
  refine ct_of (by decide) (Nat.le_of_ble_eq_true rfl) ?_
  intro G hG
  show G 0 [(0, .ref (E.2.2.2.2.1 i))] [] M
  refine rx_getZ hG jf_38 dJ0_coder_7d493_0 ?_
  refine rx_if_eq hG 13 dJ0_coder_7d493_3 rfl (fun c => ?_) (fun c => ?_)
  · exact absurd c (by decide)
  refine rx_aload_n hG dJ0_coder_7d493_6 0 rfl ?_
  refine rx_getSc hG hi jf_15 dJ0_coder_7d493_7 ?_
  refine rx_goto hG 14 dJ0_coder_7d493_10 rfl ?_
  exact rx_nret hG rfl dJ0_coder_7d493_14
theorem c_chr (l : Launch) (E : En) (SK : List Sk) (i : Nat) (x : Int32) (hi : i < 13) (h1 : 0 ≤ x) (h2 : x.toNatClampNeg < slen.getD i 0) (M : Mm) : Ct l SK E yJ0_charAt_5068e cJ0_charAt_5068e 2 (some .char) 3 64 [.ref (E.2.2.2.2.1 i), .int x] M (some (.int ((sbyt.getD i []).getD x.toNatClampNeg 0))) M := by
  refine ct_of (by decide) (Nat.le_of_ble_eq_true rfl) ?_
  intro G hG
  show G 0 [(0, .ref (E.2.2.2.2.1 i)), (1, .int x)] [] M
  refine rx_aload_n hG dJ0_charAt_5068e_0 0 rfl ?_
  refine rx_callVS hG hi rfl (c_lat l E SK i hi M) jc_lat jm_S_492 ji_lat jl_lat jn_RJ0 jd_lat ⟨Nat.le_of_ble_eq_true rfl, Nat.le_of_ble_eq_true rfl⟩ rfl (Nat.le_of_ble_eq_true rfl) dJ0_charAt_5068e_1 ?_
  show G 4 _ [.int 1] M
  refine rx_if_eq hG 16 dJ0_charAt_5068e_4 rfl (fun c => ?_) (fun c => ?_)
  · exact absurd c (by decide)
  refine rx_aload_n hG dJ0_charAt_5068e_7 0 rfl ?_
  refine rx_getSv hG hi jf_9 dJ0_charAt_5068e_8 ?_
  refine rx_iload_n hG dJ0_charAt_5068e_11 1 rfl ?_
  refine rx_callS hG (c_l1c l E SK i x hi h1 h2 M) jc_l1c jm_S_495 js_l1c jn_RJ1 jd_l1c ⟨Nat.le_of_ble_eq_true rfl, Nat.le_of_ble_eq_true rfl⟩ rfl (Nat.le_of_ble_eq_true rfl) dJ0_charAt_5068e_12 ?_
  show G 15 _ [.int _] M
  exact rx_nret hG (sb_ok i x.toNatClampNeg).2 dJ0_charAt_5068e_15
theorem c_len (l : Launch) (E : En) (SK : List Sk) (i : Nat) (hi : i < 13) (M : Mm) : Ct l SK E yJ0_length_8abf5 cJ0_length_8abf5 1 (some .int) 1 20 [.ref (E.2.2.2.2.1 i)] M (some (.int (nI (slen.getD i 0)))) M := by
  refine ct_of (by decide) (Nat.le_of_ble_eq_true rfl) ?_
  intro G hG
  show G 0 [(0, .ref (E.2.2.2.2.1 i))] [] M
  refine rx_aload_n hG dJ0_length_8abf5_0 0 rfl ?_
  refine rx_getSv hG hi jf_9 dJ0_length_8abf5_1 ?_
  refine rx_sarl hG hi dJ0_length_8abf5_4 ?_
  refine rx_aload_n hG dJ0_length_8abf5_5 0 rfl ?_
  refine rx_callVS hG hi rfl (c_cod l E SK i hi M) jc_cod jm_S_335 ji_cod jl_cod jn_RJ0 jd_cod ⟨Nat.le_of_ble_eq_true rfl, Nat.le_of_ble_eq_true rfl⟩ rfl (Nat.le_of_ble_eq_true rfl) dJ0_length_8abf5_6 ?_
  show G 9 _ [.int 0, .int (nI (slen.getD i 0))] M
  refine rx_ishr hG dJ0_length_8abf5_9 ?_
  rw [sb_shr0]
  exact rx_iret hG dJ0_length_8abf5_10
section JDK2
variable {l : Launch} {SK : List Sk} {E : En} {own : String} {cc : ByteArray} {nL : Nat} {ret : Option FieldType} {R : Room} {kc ks : Nat} {v : Option Value} {M' : Mm} {G : Nat → List (Nat × Value) → List Value → Mm → Prop}
variable {pc : Nat} {lv : List (Nat × Value)} {st : List Value} {M : Mm}
theorem rx_slen (h : RX l SK E own cc nL ret R kc ks v M' G) {i index : Nat} {z : Int32} (hz : sln i = some z) (hw : Cond.methodLink own index yJ0_length_8abf5 ∈ TB) (hR : 2 ≤ R.frames ∧ 40 ≤ R.locals) (hrm : (st.map fun v => v.category).sum ≤ 8) (d : decode cc pc = .ok (.invokevirtual index, 3)) (kk : G (pc + 3) lv (.int z :: st) M) : G pc lv (.ref (E.2.2.2.2.1 i) :: st) M := by
  unfold sln at hz
  split at hz
  · rename_i hi
    cases hz
    exact rx_callVS h hi rfl (c_len l E SK i hi M) jc_len hw ji_len jl_len jn_RJ0 jd_len hR rfl hrm d kk
  · cases hz
theorem rx_schr (h : RX l SK E own cc nL ret R kc ks v M' G) {i index : Nat} {x z : Int32} (hz : sch i x = some z) (hw : Cond.methodLink own index yJ0_charAt_5068e ∈ TB) (hR : 4 ≤ R.frames ∧ 85 ≤ R.locals) (hrm : (st.map fun v => v.category).sum ≤ 8) (d : decode cc pc = .ok (.invokevirtual index, 3)) (kk : G (pc + 3) lv (.int z :: st) M) : G pc lv (.int x :: .ref (E.2.2.2.2.1 i) :: st) M := by
  unfold sch at hz
  split at hz
  · rename_i hi
    cases hz
    exact rx_callVS h hi.1 rfl (c_chr l E SK i x hi.1 hi.2.1 hi.2.2 M) jc_chr hw ji_chr jl_chr jn_RJ0 jd_chr hR rfl hrm d kk
  · cases hz
end JDK2

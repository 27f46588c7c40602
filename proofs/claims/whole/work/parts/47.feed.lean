theorem byte_iI (v : Int32) : (Int32.toInt8 v).toInt32 = iI (Int32.toInt8 v).toInt := by
  rw [← Int32.toInt_inj, Int8.toInt_toInt32, iI_toInt]
  · have := Int8.le_toInt (Int32.toInt8 v); omega
  · have := Int8.toInt_lt (Int32.toInt8 v); omega
theorem byte_255 (v : Int32) : v &&& 255 = iI ((Int32.toInt8 v).toInt % 256) := by
  have hm : ((Int32.toInt8 v).toInt % 256) = ((v.toBitVec.toNat % 256 : Nat) : Int) := by
    show (v.toBitVec.signExtend 8).toInt % 256 = _
    rw [BitVec.signExtend_eq_setWidth_of_le v.toBitVec (by omega), BitVec.toInt_setWidth]
    have e : ((2 ^ 8 : Nat) : Int) = 256 := rfl
    have b := Int.bmod_emod (x := (v.toBitVec.toNat : Int)) (m := 2 ^ 8)
    rw [e] at b
    rw [b]; omega
  rw [hm]
  rw [← Int32.toBitVec_inj]
  apply BitVec.eq_of_toNat_eq
  show (v.toBitVec &&& (255 : Int32).toBitVec).toNat = (BitVec.ofInt 32 _).toNat
  rw [BitVec.toNat_and, BitVec.ofInt_natCast, BitVec.toNat_ofNat]
  show v.toBitVec.toNat &&& 2 ^ 8 - 1 = _
  rw [Nat.and_two_pow_sub_one_eq_mod]
  omega
theorem nar_byte (x : Int32) : vp_nar .byte (Int32.toInt8 x).toInt32 = (Int32.toInt8 x).toInt32 := by
  show (Int32.toInt8 (Int32.toInt8 x).toInt32).toInt32 = _
  rw [Int8.toInt8_toInt32]
/-- byte j of a word -/
def byt (v : Int32) (j : Nat) : Int := (Int32.toInt8 (v >>> (iI (24 - 8 * (j : Int)) &&& 31))).toInt
theorem byt_bd (v : Int32) (j : Nat) : -128 ≤ byt v j ∧ byt v j ≤ 127 := by
  unfold byt
  have a := Int8.le_toInt (Int32.toInt8 (v >>> (iI (24 - 8 * (j : Int)) &&& 31)))
  have b := Int8.toInt_lt (Int32.toInt8 (v >>> (iI (24 - 8 * (j : Int)) &&& 31)))
  omega
def TpX (n : Nat) (tp : Nat → Int) (X : Mm) : Prop := X.1 0 8 = iI n ∧ ∀ i, i < 600 → X.1 1 i = iI (tp i)
def FrT (f : Nat) (X Y : Mm) : Prop := (∀ q, q ≠ 0 → q ≠ 1 → Y.1 q = X.1 q) ∧ (∀ j, j ≠ f → Y.1 0 j = X.1 0 j) ∧ Y.2 = X.2
theorem FrT.rf {f : Nat} {X : Mm} : FrT f X X := ⟨fun _ _ _ => rfl, fun _ _ => rfl, rfl⟩
theorem FrT.tr {f : Nat} {X Y Z : Mm} (h : FrT f X Y) (h2 : FrT f Y Z) : FrT f X Z := ⟨fun q a b => (h2.1 q a b).trans (h.1 q a b), fun j a => (h2.2.1 j a).trans (h.2.1 j a), h2.2.2.trans h.2.2⟩
theorem FrT.u0 {f : Nat} {X Y : Mm} {x : Int32} (h : FrT f X Y) : FrT f X (u1 Y 0 f x) := h.tr ⟨fun q a _ => u1_ne a, fun j a => by rw [u1_at, if_neg (fun q => a q.2)], rfl⟩
theorem FrT.u1 {f i : Nat} {X Y : Mm} {x : Int32} (h : FrT f X Y) : FrT f X (u1 Y 1 i x) := h.tr ⟨fun q _ a => u1_ne a, fun j _ => by rw [u1_ne (by decide)], rfl⟩
def pbS (v : Int32) (n m : Nat) (tp : Nat → Int) (i : Nat) : Int := if n ≤ i ∧ i < n + m then byt v (i - n) else tp i
theorem X_put {n : Nat} {tp : Nat → Int} {X : Mm} (v : Int32) (h : TpX n tp X) (hn : n + 4 ≤ 600) : ∃ Y, f_P_putBytes_0 v X = some Y ∧ TpX (n + 4) (pbS v n 4 tp) Y ∧ FrT 8 X Y := by
  have loop := loop_up (σ := Int32 × Mm) (γ := Option Mm) (fun f s => lp_P_putBytes_0_3 f v s.1 s.2) 4 (fun i s => s.1 = iI (24 - 8 * (i : Int)) ∧ TpX (n + i) (pbS v n i tp) s.2 ∧ FrT 8 X s.2) (fun s => some s.2) ?_ ?_ FW (FW_gt (by omega)) (iI 24, X) ⟨rfl, ⟨h.1, fun i hi => by unfold pbS; rw [if_neg (by omega)]; exact h.2 i hi⟩, FrT.rf⟩
  · obtain ⟨⟨x, Y⟩, ⟨-, r, o⟩, e⟩ := loop
    have e0 : f_P_putBytes_0 v X = lp_P_putBytes_0_3 FW v (iI 24) X := by unfold f_P_putBytes_0; rw [show (24 : Int32) = iI 24 from rfl]
    exact ⟨Y, by rw [e0]; exact e, r, o⟩
  · rintro f i ⟨x, Y⟩ hi ⟨ex, r, o⟩
    dsimp only at ex r o
    subst ex
    have w : wrB Y 1 600 (iI ((n + i : Nat) : Int)) (Int32.toInt8 (v >>> (iI (24 - 8 * (i : Int)) &&& 31))).toInt32 = some (u1 Y 1 (n + i) (iI (byt v i))) := by
      unfold wrB
      have hz : (0 : Int32) ≤ iI ((n + i : Nat) : Int) := by rw [l0, iI_le (by omega) (by omega) (by omega) (by omega)]; omega
      rw [iI_clamp (by omega) (by omega), Int.toNat_natCast, if_pos ⟨hz, by omega⟩, nar_byte, byte_iI]
      rfl
    refine ⟨(iI (24 - 8 * ((i + 1 : Nat) : Int)), u1 (u1 Y 1 (n + i) (iI (byt v i))) 0 8 (iI ((n + i + 1 : Nat) : Int))), ?_, rfl, ⟨?_, fun j hj => ?_⟩, o.u1.u0⟩
    · show blp_P_putBytes_0_3 (lp_P_putBytes_0_3 f) v (iI (24 - 8 * (i : Int))) Y = lp_P_putBytes_0_3 f v _ _
      unfold blp_P_putBytes_0_3
      have c0 : ¬ (iI (24 - 8 * (i : Int)) < 0) := by rw [l0, iI_lt (by omega) (by omega) (by omega) (by omega)]; omega
      have c1 : ¬ (600 ≤ iI ((n + i : Nat) : Int)) := by rw [show (600 : Int32) = iI 600 from rfl, iI_le (by omega) (by omega) (by omega) (by omega)]; omega
      rw [if_neg c0, r.1, if_neg c1, w, Option.bind_some, Option.bind_some, u1_at, if_neg (by omega), r.1, l1, iI_add, show (-8 : Int32) = iI (-8) from rfl, iI_add, show 24 - 8 * (i : Int) + -8 = 24 - 8 * ((i + 1 : Nat) : Int) by omega]
      rfl
    · rw [u1_at, if_pos ⟨rfl, rfl⟩, Nat.add_assoc]
    · show (u1 (u1 Y 1 (n + i) (iI (byt v i))) 0 8 (iI ((n + i + 1 : Nat) : Int))).1 1 j = _
      rw [u1_at, if_neg (by omega), u1_at]
      have rj := r.2 j hj
      unfold pbS at rj ⊢
      by_cases e : j = n + i
      · rw [if_pos ⟨rfl, e⟩, if_pos (by omega), show j - n = i by omega]
      · rw [if_neg (fun q => e q.2), rj]
        by_cases e2 : n ≤ j ∧ j < n + i
        · rw [if_pos e2, if_pos (by omega)]
        · rw [if_neg e2, if_neg (by omega)]
  · rintro f ⟨x, Y⟩ ⟨ex, r, o⟩
    dsimp only at ex r o
    subst ex
    show blp_P_putBytes_0_3 (lp_P_putBytes_0_3 f) v (iI (24 - 8 * ((4 : Nat) : Int))) Y = _
    unfold blp_P_putBytes_0_3
    rw [if_pos (by rw [l0]; exact (iI_lt (by omega) (by omega) (by omega) (by omega)).mpr (by omega))]
def wrd (a b c d e : Int32) (k : Nat) : Int32 := if k < 4 then a else if k < 8 then b else if k < 12 then c else if k < 16 then d else e
def fdS (a b c d e : Int32) (n m : Nat) (tp : Nat → Int) : Nat → Int := fun i => if n ≤ i ∧ i < n + m then byt (wrd a b c d e (i - n)) ((i - n) % 4) else tp i
theorem M_feed_in {n : Nat} {tp : Nat → Int} {M : Mm} (a b c d e : Int32) (h : M.1 0 4 = iI n) (h2 : ∀ i, i < 600 → M.1 1 i = iI (tp i % 256)) (hn : n + 20 ≤ 600) : ∃ N, lp_M_feed_0_23 FW a b c d e 0 M = j_M_feed_0_113 N ∧ N.1 0 4 = iI n ∧ (∀ i, i < 600 → N.1 1 i = iI (fdS a b c d e n 20 tp i % 256)) ∧ FrT 4 M N := by
  have loop := loop_up (σ := Int32 × Mm) (γ := Option (Int32 × Mm)) (fun f s => lp_M_feed_0_23 f a b c d e s.1 s.2) 20 (fun i s => s.1 = iI (i : Int) ∧ s.2.1 0 4 = iI n ∧ (∀ j, j < 600 → s.2.1 1 j = iI (fdS a b c d e n i tp j % 256)) ∧ FrT 4 M s.2) (fun s => j_M_feed_0_113 s.2) ?_ ?_ FW (FW_gt (by omega)) (iI 0, M) ⟨rfl, h, fun j hj => by unfold fdS; rw [if_neg (by omega)]; exact h2 j hj, FrT.rf⟩
  · obtain ⟨⟨x, N⟩, ⟨-, r, r2, o⟩, ev⟩ := loop
    exact ⟨N, by rw [l0]; exact ev, r, r2, o⟩
  · rintro f i ⟨x, N⟩ hi ⟨ex, r, r2, o⟩
    dsimp only at ex r r2 o
    subst ex
    have key : ∀ t0 : Int32, t0 = wrd a b c d e i → j_M_feed_0_76 (lp_M_feed_0_23 f) a b c d e (iI (i : Int)) t0 N = lp_M_feed_0_23 f a b c d e (iI ((i + 1 : Nat) : Int)) (u1 N 1 (n + i) (iI (byt (wrd a b c d e i) (i % 4) % 256))) := by
      intro t0 ht
      unfold j_M_feed_0_76
      rw [l4, rmI_iI (by omega) (by omega) (by omega) (by omega), Option.bind_some, r, iI_add, show (24 : Int32) = iI 24 from rfl, l8, iI_mul, iI_sub, byte_255, ht, wr_iI (by omega) (by omega) (by omega), Option.bind_some, l1, iI_add]
      rw [show ((n : Int) + (i : Int)).toNat = n + i by omega]
      unfold byt
      rw [show ((i % 4 : Nat) : Int) = (i : Int) % 4 by omega]
      rfl
    refine ⟨(iI ((i + 1 : Nat) : Int), u1 N 1 (n + i) (iI (byt (wrd a b c d e i) (i % 4) % 256))), ?_, rfl, ?_, fun j hj => ?_, o.u1⟩
    · show blp_M_feed_0_23 (lp_M_feed_0_23 f) a b c d e (iI (i : Int)) N = lp_M_feed_0_23 f a b c d e _ _
      unfold blp_M_feed_0_23
      have cc : ∀ m : Nat, m < 100 → ((iI (m : Int) ≤ iI (i : Int)) ↔ m ≤ i) := fun m hm => by rw [iI_le (by omega) (by omega) (by omega) (by omega)]; omega
      have q20 : (20 ≤ iI (i : Int)) ↔ 20 ≤ i := cc 20 (by omega)
      have q4 : (4 ≤ iI (i : Int)) ↔ 4 ≤ i := cc 4 (by omega)
      have q8 : (8 ≤ iI (i : Int)) ↔ 8 ≤ i := cc 8 (by omega)
      have q12 : (12 ≤ iI (i : Int)) ↔ 12 ≤ i := cc 12 (by omega)
      have q16 : (16 ≤ iI (i : Int)) ↔ 16 ≤ i := cc 16 (by omega)
      rw [if_neg (fun q => by have := q20.mp q; omega)]
      by_cases e4 : 4 ≤ i
      · rw [if_pos (q4.mpr e4)]
        by_cases e8 : 8 ≤ i
        · rw [if_pos (q8.mpr e8)]
          by_cases e12 : 12 ≤ i
          · rw [if_pos (q12.mpr e12)]
            by_cases e16 : 16 ≤ i
            · rw [if_pos (q16.mpr e16)]
              exact key e (by unfold wrd; rw [if_neg (by omega), if_neg (by omega), if_neg (by omega), if_neg (by omega)])
            · rw [if_neg (fun q => e16 (q16.mp q))]
              exact key d (by unfold wrd; rw [if_neg (by omega), if_neg (by omega), if_neg (by omega), if_pos (by omega)])
          · rw [if_neg (fun q => e12 (q12.mp q))]
            exact key c (by unfold wrd; rw [if_neg (by omega), if_neg (by omega), if_pos (by omega)])
        · rw [if_neg (fun q => e8 (q8.mp q))]
          exact key b (by unfold wrd; rw [if_neg (by omega), if_pos (by omega)])
      · rw [if_neg (fun q => e4 (q4.mp q))]
        exact key a (by unfold wrd; rw [if_pos (by omega)])
    · show (u1 N 1 (n + i) _).1 0 4 = _
      rw [u1_ne (by decide)]; exact r
    · show (u1 N 1 (n + i) (iI (byt (wrd a b c d e i) (i % 4) % 256))).1 1 j = _
      rw [u1_at]
      by_cases ej : j = n + i
      · rw [if_pos ⟨rfl, ej⟩]
        unfold fdS
        rw [if_pos (by omega), show j - n = i by omega]
      · rw [if_neg (fun q => ej q.2), r2 j hj]
        unfold fdS
        by_cases e2 : n ≤ j ∧ j < n + i
        · rw [if_pos e2, if_pos (by omega)]
        · rw [if_neg e2, if_neg (by omega)]
  · rintro f ⟨x, N⟩ ⟨ex, r, r2, o⟩
    dsimp only at ex r r2 o
    subst ex
    rfl
theorem R_feed {X M : Mm} (h0 : Rel X M) (a b c d e : Int32) : An (f_P_feed_0 a b c d e X) (f_M_feed_0 a b c d e M) := by
  unfold f_P_feed_0 f_M_feed_0
  rw [Option.bind_some]
  have h := h0.th 0
  generalize u1 M 0 0 0 = N at h
  obtain ⟨n, n1, n2, n3⟩ := h.1.1
  obtain ⟨tp, ht⟩ := h.1.2
  have c0 : (iI ((n : Int) + 20) ≤ 600) ↔ n + 20 ≤ 600 := by rw [show (600 : Int32) = iI 600 from rfl, iI_le (by omega) (by omega) (by omega) (by omega)]; omega
  rw [n2, n3, show (20 : Int32) = iI 20 from rfl, iI_add]
  by_cases en : n + 20 ≤ 600
  · rw [if_pos (c0.mpr en), if_pos (c0.mpr en)]
    obtain ⟨Y1, e1, t1, f1⟩ := X_put a (⟨n2, fun i hi => (ht i hi).2.2.1⟩ : TpX n tp X) (by omega)
    obtain ⟨Y2, e2, t2, f2⟩ := X_put b t1 (by omega)
    obtain ⟨Y3, e3, t3, f3⟩ := X_put c t2 (by omega)
    obtain ⟨Y4, e4, t4, f4⟩ := X_put d t3 (by omega)
    obtain ⟨Y5, e5, t5, f5⟩ := X_put e t4 (by omega)
    obtain ⟨O, e6, o1, o2, o3⟩ := M_feed_in a b c d e n3 (fun i hi => (ht i hi).2.2.2) en
    rw [e1, Option.bind_some, e2, Option.bind_some, e3, Option.bind_some, e4, Option.bind_some, e5, Option.bind_some, e6]
    unfold j_M_feed_0_113
    rw [Option.bind_some, o1, show (20 : Int32) = iI 20 from rfl, iI_add]
    have fX := (((f1.tr f2).tr f3).tr f4).tr f5
    have fM : FrT 4 N (u1 O 0 4 (iI ((n : Int) + 20))) := o3.u0
    have y8 : Y5.1 0 8 = iI ((n + 20 : Nat) : Int) := by rw [t5.1]
    have m4 : (u1 O 0 4 (iI ((n : Int) + 20))).1 0 4 = iI ((n + 20 : Nat) : Int) := by rw [u1_at, if_pos ⟨rfl, rfl⟩]; rfl
    refine ⟨iI ((n + 20 : Nat) : Int), Y5, u1 O 0 4 (iI ((n : Int) + 20)), by rw [y8], by rw [m4], ?_⟩
    have hT : ∀ i, i < 600 → Y5.1 1 i = iI (fdS a b c d e n 20 tp i) := fun i hi => by
      rw [t5.2 i hi]
      unfold pbS fdS wrd
      congr 1
      grind
    refine ⟨⟨⟨n + 20, en, y8, m4⟩, fdS a b c d e n 20 tp, fun i hi => ?_⟩, ?_, ?_, ?_, ?_⟩
    · have bd : -128 ≤ fdS a b c d e n 20 tp i ∧ fdS a b c d e n 20 tp i ≤ 127 := by
        unfold fdS
        split
        · exact byt_bd _ _
        · exact ⟨(ht i hi).1, (ht i hi).2.1⟩
      refine ⟨bd.1, bd.2, hT i hi, ?_⟩
      rw [u1_ne (by decide)]; exact o2 i hi
    · rw [fM.2.1 1 (by decide), fX.2.1 10 (by decide)]; exact h.2.1
    · rw [fM.2.1 2 (by decide), fX.2.1 12 (by decide)]; exact h.2.2.1
    · rw [fM.2.1 7 (by decide), fX.2.1 11 (by decide)]; exact h.2.2.2.1
    · rw [fX.2.1 9 (by decide), fM.2.1 28 (by decide), fM.2.1 22 (by decide), fM.2.1 23 (by decide)]
      rcases h.2.2.2.2 with h4 | ⟨h4, h5, C, w, S, Q, T⟩
      · exact Or.inl h4
      · refine Or.inr ⟨h4, h5, C, w, S, Q, T.fr (fun q hq => fX.1 q (by omega) (by omega)) ⟨fun q hq => fM.1 q (by omega) (by omega), fun q i a b _ _ => by rw [fM.1 q (by omega) (by omega)], fun i hi => fM.2.1 i (by omega), fun i _ => by rw [fM.2.2], fun i _ => by rw [fM.2.2]⟩⟩
  · rw [if_neg (fun q => en (c0.mp q)), if_neg (fun q => en (c0.mp q))]
    exact ⟨_, _, _, rfl, rfl, h⟩

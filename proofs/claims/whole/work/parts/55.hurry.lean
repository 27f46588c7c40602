theorem it_add {C S : SS} {w : Nat → Int} (a : Nat) : ∀ b, itS C w b (itS C w a S) = itS C w (a + b) S
  | 0 => rfl
  | b + 1 => by
    show minS C w (itS C w b (itS C w a S)) = minS C w (itS C w (a + b) S)
    rw [it_add a b]
theorem Cq_it {C S T : SS} {w : Nat → Int} (h : Cq S T) : ∀ n, Cq (itS C w n S) (itS C w n T)
  | 0 => h
  | n + 1 => by
    have ih := Cq_it (C := C) (w := w) h n
    have a := Cq_min (C := C) (w := w) (S := itS C w n S)
    have b := Cq_min (C := C) (w := w) (S := itS C w n T)
    have c := (Cq_chg (C := C) (w := w) ih).u (i := 14) (j := 0) (z := itS C w n S 14 0 + 1) (z2 := itS C w n T 14 0 + 1) (by rw [ih.2]) (Or.inr ⟨rfl, rfl⟩)
    exact (a.sy.tr c).tr b
theorem Bd_cq {C S T : SS} (hB : Bd C S) (h : Cq S T) (h7 : ∀ b : Nat, (b : Int) < C 0 1 → T 7 b = 0 ∧ 0 ≤ T 11 b ∧ T 11 b ≤ 27) (h14 : T 14 1 = -2) : Bd C T := by
  obtain ⟨b1, b2, b3, b4, b5, b6⟩ := hB
  have e : ∀ i j, coF i → T i j = S i j := h.1
  refine ⟨AvS_congr b1 (fun b _ => ⟨e 0 b (cf 0 rfl), e 1 b (cf 1 rfl), e 2 b (cf 2 rfl), e 17 b (cf 17 rfl)⟩) (fun b k _ _ => ⟨e 4 _ (cf 4 rfl), e 15 _ (cf 15 rfl)⟩), by rw [h.2]; exact b2, fun b hb => ?_, fun k hk => ?_, Or.inl h14, fun b k hb hk hn => ?_⟩
  · rw [h.2, e 0 b (cf 0 rfl), e 1 b (cf 1 rfl), e 3 b (cf 3 rfl)]
    have := b3 b hb
    have := h7 b hb
    omega
  · rw [h.2, e 5 k (cf 5 rfl), e 6 k (cf 6 rfl), e 12 k (cf 12 rfl), e 16 k (cf 16 rfl)]; exact b4 k hk
  · rw [e 4 _ (cf 4 rfl), e 15 _ (cf 15 rfl)]; exact b6 b k hb hk hn
theorem X_hurry {C S0 : SS} {w : Nat → Int} {X : Mm} {e : Nat} (hO : CfgOk C) (hC : CfgX C X) (hw : WyX 49 w X) (hW : WyOk C w) (h : RelX 52 S0 (totS S0 (C 0 0).toNat) X) (hB : Bd C S0) (hm : S0 14 0 = 0) (h7 : ∀ b : Nat, (b : Int) < C 0 1 → S0 7 b = 0 ∧ 0 ≤ S0 11 b ∧ S0 11 b ≤ 27) (h14 : S0 14 1 = -2) (he : e ≤ 2000) : ∃ Y, f_L_hurryTo_52 (iI e) X = some Y ∧ Y.1 52 15 = iI (totS (itS C w e S0) (C 0 0).toNat) ∧ OnlyX 52 X Y := by
  have e0 : f_L_hurryTo_52 (iI e) X = lp_L_hurryTo_52_2 FW (iI e) (iI 0) X := by unfold f_L_hurryTo_52; rw [l0]
  rw [e0]
  refine loop_ex (σ := Int32 × Mm) (γ := Option Mm) (fun f s => lp_L_hurryTo_52_2 f (iI e) s.1 s.2) (fun s => ∃ (i n : Nat) (T : SS), s.1 = iI (i : Int) ∧ i ≤ n ∧ n ≤ e ∧ RelX 52 T (totS T (C 0 0).toNat) s.2 ∧ OnlyX 52 X s.2 ∧ Cq (itS C w n S0) T ∧ T 14 1 = -2 ∧ (∀ b : Nat, (b : Int) < C 0 1 → T 7 b = 0 ∧ 0 ≤ T 11 b ∧ T 11 b ≤ 27)) (fun s => e - (s.2.1 52 14).toNatClampNeg) (fun r => ∃ Y, r = some Y ∧ Y.1 52 15 = iI (totS (itS C w e S0) (C 0 0).toNat) ∧ OnlyX 52 X Y) ?_ FW (iI 0, X) ⟨0, 0, S0, rfl, Nat.le_refl _, Nat.zero_le _, h, OnlyX.rf, Cq.rf, h14, h7⟩ (FW_gt (by omega))
  rintro f ⟨x, Y⟩ ⟨i, n, T, ex, hi, hn, r, o, q, t14, t7⟩
  dsimp only at ex r o
  subst ex
  have tn : T 14 0 = n := by rw [q.2, it_14, hm]; omega
  have v14 : Y.1 52 14 = iI (n : Int) := by rw [← tn]; exact r.1 14 0 (fx 14 rfl) (by decide)
  have c1 : (iI (e : Int) ≤ iI (i : Int)) ↔ e ≤ i := by rw [iI_le (by omega) (by omega) (by omega) (by omega)]; omega
  have c2 : (iI (e : Int) ≤ iI (n : Int)) ↔ e ≤ n := by rw [iI_le (by omega) (by omega) (by omega) (by omega)]; omega
  by_cases en : n = e
  · left
    refine ⟨Y, ?_, ?_, o⟩
    · show blp_L_hurryTo_52_2 (lp_L_hurryTo_52_2 f) (iI e) (iI (i : Int)) Y = some Y
      unfold blp_L_hurryTo_52_2
      rw [v14]
      split
      · rfl
      · rw [if_pos (c2.mpr (by omega))]
    · rw [r.2, totS_congr (S := itS C w e S0) (S2 := T) _ (fun k _ => by rw [← en]; exact q.1 6 k (cf 6 rfl))]
  · right
    have hBn : Bd C (itS C w n S0) := Bd_it hO hW hB n (by rw [hm]; omega)
    have hBT : Bd C T := Bd_cq hBn q t7 t14
    obtain ⟨Y1, y1, y2, y3⟩ := X_change_52 (o.cfg (by decide) hC) hO r (o.wy (by decide) hw) hW hBT (by rw [tn]; omega)
    obtain ⟨me, mf⟩ := chg_Me hO hW hBT (by rw [tn]; omega)
    have m14 : ∀ j, chgS C w T 14 j = T 14 j := fun j => mf 14 j (by decide) (by decide) (by decide) (by decide) (by decide) (by decide) (by decide) (by decide) (by decide) (by decide) (by decide)
    have o1 := o.tr y3
    obtain ⟨nx, n1, n2, n3, n4⟩ := X_next (e := (e : Int)) hO (o1.cfg (by decide) hC) y2 me.1 (fun b hb hd => by rw [m14]; exact (me.2.2.1 b hb).1 hd) (by rw [m14, tn]; omega) (by rw [m14, tn]; omega) (by omega)
    rw [m14, tn] at n2 n4
    obtain ⟨d, hd⟩ : ∃ d : Nat, nx = n + 1 + d := ⟨(nx - n - 1).toNat, by omega⟩
    have sk := it_skip (C := C) (w := w) (S := T) hO d (fun m hm => by
      rw [tn]
      exact n4 _ (by omega) (by omega))
    have q2 : Cq (itS C w (n + (d + 1)) S0) (uS (chgS C w T) 14 0 nx) := by
      have a := Cq_it (C := C) (w := w) q (d + 1)
      rw [it_add] at a
      rw [tn, ← hd] at sk
      exact a.tr sk.sy
    have r2 := y2.put (i := 14) (j := 0) (fx 14 rfl) (by decide) nx
    refine ⟨(iI ((i + 1 : Nat) : Int), u1 Y1 52 14 (iI nx)), ?_, ⟨i + 1, n + (d + 1), uS (chgS C w T) 14 0 nx, rfl, by omega, by omega, ?_, o1.u1 (by decide) (by decide), q2, ?_, fun b hb => ?_⟩, ?_⟩
    · show blp_L_hurryTo_52_2 (lp_L_hurryTo_52_2 f) (iI e) (iI (i : Int)) Y = lp_L_hurryTo_52_2 f (iI e) _ (u1 Y1 52 14 (iI nx))
      unfold blp_L_hurryTo_52_2
      rw [v14, if_neg (fun z => by have := c1.mp z; omega), if_neg (fun z => by have := c2.mp z; omega), y1, Option.bind_some, n1, Option.bind_some, Option.bind_some, l1, iI_add]
      rfl
    · have et : totS T (C 0 0).toNat + (totS (chgS C w T) (C 0 0).toNat - totS T (C 0 0).toNat) = totS (uS (chgS C w T) 14 0 nx) (C 0 0).toNat := by
        rw [totS_congr (S := chgS C w T) (S2 := uS (chgS C w T) 14 0 nx) _ (fun k _ => uS_nf (by decide))]; omega
      rw [et] at r2
      exact r2
    · rw [uS_ni (by decide), m14]; exact t14
    · rw [uS_nf (by decide), uS_nf (by decide), mf 7 b (by decide) (by decide) (by decide) (by decide) (by decide) (by decide) (by decide) (by decide) (by decide) (by decide) (by decide), mf 11 b (by decide) (by decide) (by decide) (by decide) (by decide) (by decide) (by decide) (by decide) (by decide) (by decide) (by decide)]; exact t7 b hb
    · show e - ((u1 Y1 52 14 (iI nx)).1 52 14).toNatClampNeg < e - (Y.1 52 14).toNatClampNeg
      rw [u1_at, if_pos ⟨rfl, rfl⟩, v14, iI_clamp (by omega) (by omega), iI_clamp (by omega) (by omega)]; omega
/-- wares delivered in t minutes from the start -/
def yiS (C : SS) (w : Nat → Int) (t : Nat) : Int := totS (itS C w t (bgS C (fun _ => 0))) (C 0 0).toNat
theorem X_tried {C : SS} {w : Nat → Int} {X : Mm} {t : Nat} (hO : CfgOk C) (hC : CfgX C X) (hw : WyX 49 w X) (hW : WyOk C w) (h0 : w0 C w) (ht : t ≤ 2000) : ∃ Y, f_Q_tried_48 (iI t) X = some (iI (yiS C w t), Y) ∧ OnlyX 52 X Y := by
  obtain ⟨X1, x1, x2, x3⟩ := X_start_52 hO hC hw hW h0 0
  rw [if_pos rfl] at x2
  obtain ⟨b1, b2, b3, b4⟩ := Bd_bg hO (aOk_0 C)
  have x2' : RelX 52 (bgS C (fun _ => 0)) (totS (bgS C (fun _ => 0)) (C 0 0).toNat) X1 := by rw [b4]; exact x2
  have f : ∀ i j, i ≠ 11 → bgS C (fun _ => 0) i j = stS (fun _ => 0) i j := fun i j _ => bg_0 i j
  obtain ⟨Y, y1, y2, y3⟩ := X_hurry (e := t) hO (x3.cfg (by decide) hC) (x3.wy (by decide) hw) hW x2' b1 b3 (fun b hb => ⟨f 7 b (by decide), (b1.2.2.1 b hb).2.2.2.2.2.2.1, (b1.2.2.1 b hb).2.2.2.2.2.2.2⟩) (f 14 1 (by decide)) ht
  refine ⟨Y, ?_, x3.tr y3⟩
  unfold f_Q_tried_48
  rw [x1, Option.bind_some, y1, Option.bind_some, y2]
  rfl
theorem M_yield {C : SS} {w : Nat → Int} {M : Mm} {t : Nat} (hO : CfgOk C) (hC : CfgM C M) (hw : WyM 12 w M) (hW : WyOk C w) (ht : t ≤ 2000) : ∃ N, f_M_yieldOf_0 (iI t) M = some (iI (yiS C w t), N) ∧ Only 16 M N := by
  obtain ⟨M1, m1, m2, m3⟩ := M_begins_16 (C := C) M
  obtain ⟨b1, b2, b3, b4⟩ := Bd_bg hO (aOk_0 C)
  have m4 : RelM 16 (bgS C (fun _ => 0)) (fun _ _ => 0) M1 := m2.congr (fun i j _ _ => bg_0 i j) (bg_0 14 1) (bg_0 14 2)
  unfold f_M_yieldOf_0
  rw [m1, Option.bind_some]
  have loop := loop_up (σ := Int32 × Mm) (γ := Option (Int32 × Mm)) (fun f s => lp_M_yieldOf_0_10 f (iI t) s.1 s.2) t (fun i s => s.1 = iI (i : Int) ∧ Only 16 M s.2 ∧ ∃ Q2, RelM 16 (itS C w i (bgS C (fun _ => 0))) Q2 s.2 ∧ QBd C (itS C w i (bgS C (fun _ => 0))) Q2) (fun s => some (iI (yiS C w t), s.2)) ?_ ?_ FW (FW_gt (by omega)) (iI 0, M1) ⟨rfl, m3, _, m4, b2⟩
  · obtain ⟨⟨x, N⟩, ⟨-, o, -⟩, ev⟩ := loop
    exact ⟨N, by rw [l0]; exact ev, o⟩
  · rintro f i ⟨x, N⟩ hi ⟨ex, o, Q2, r, q⟩
    dsimp only at ex o r
    subst ex
    obtain ⟨Z, Q3, z1, z2, z3, z4⟩ := M_minute_16 (o.cfg (by decide) hC) hO r (o.wy (by decide) hw) hW (Bd_it hO hW b1 i (by rw [b3]; omega)) q (by rw [it_14, b3]; omega)
    refine ⟨(iI ((i + 1 : Nat) : Int), Z), ?_, rfl, o.tr z3, Q3, z2, z4⟩
    show blp_M_yieldOf_0_10 (lp_M_yieldOf_0_10 f) (iI t) (iI (i : Int)) N = lp_M_yieldOf_0_10 f (iI t) _ Z
    unfold blp_M_yieldOf_0_10
    have c0 : ¬ (iI (t : Int) ≤ iI (i : Int)) := by rw [iI_le (by omega) (by omega) (by omega) (by omega)]; omega
    rw [if_neg c0, z1, Option.bind_some, l1, iI_add]
    rfl
  · rintro f ⟨x, N⟩ ⟨ex, o, Q2, r, q⟩
    dsimp only at ex o r
    subst ex
    show blp_M_yieldOf_0_10 (lp_M_yieldOf_0_10 f) (iI t) (iI (t : Int)) N = _
    unfold blp_M_yieldOf_0_10
    have c0 : iI (t : Int) ≤ iI (t : Int) := (iI_le (by omega) (by omega) (by omega) (by omega)).mpr (by omega)
    rw [if_pos c0, M_deliv_16 hO (o.cfg (by decide) hC) r, Option.bind_some]
    rfl

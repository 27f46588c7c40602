theorem cpy_iI {M : Mm} {k0 n0 k1 n1 s d n : Nat} (h1 : s + n ≤ n0) (h2 : d + n ≤ n1) (h3 : n0 < 2147483648) (h4 : n1 < 2147483648) : cpy M k0 n0 k1 n1 (iI s) (iI d) (iI n) = some (s1 M k1 (fun j => if d ≤ j ∧ j < d + n then M.1 k0 (s + (j - d)) else M.1 k1 j)) := by
  have z : ∀ a : Nat, a < 2147483648 → (0 : Int32) ≤ iI (a : Int) := fun a ha => by rw [l0, iI_le (by omega) (by omega) (by omega) (by omega)]; omega
  unfold cpy
  rw [iI_clamp (by omega) (by omega), iI_clamp (by omega) (by omega), iI_clamp (by omega) (by omega), Int.toNat_natCast, Int.toNat_natCast, Int.toNat_natCast, if_pos ⟨z s (by omega), z d (by omega), z n (by omega), h1, h2⟩]
  rfl
theorem cpy0 {M : Mm} {k0 n0 k1 n1 : Nat} (n : Nat) {x : Int32} (hx : x = iI (n : Int)) (h1 : n ≤ n0) (h2 : n ≤ n1) (h3 : n0 < 2147483648) (h4 : n1 < 2147483648) : ∃ N, cpy M k0 n0 k1 n1 0 0 x = some N ∧ (∀ j, j < n → N.1 k1 j = M.1 k0 j) ∧ (∀ q, q ≠ k1 → N.1 q = M.1 q) ∧ N.2 = M.2 := by
  have := cpy_iI (M := M) (k0 := k0) (k1 := k1) (s := 0) (d := 0) (n := n) (n0 := n0) (n1 := n1) (by omega) (by omega) h3 h4
  refine ⟨_, by rw [hx, l0]; exact this, fun j hj => ?_, fun q hq => s1_ne hq, rfl⟩
  rw [s1_at, if_pos rfl, if_pos (by omega), Nat.sub_zero, Nat.zero_add]
theorem X_start_35 {C : SS} {w : Nat → Int} {X : Mm} (hO : CfgOk C) (hC : CfgX C X) (hw : WyX 32 w X) (hW : WyOk C w) (h0 : w0 C w) (p : Int32) : ∃ Y, f_L_start_35 p X = some Y ∧ RelX 35 (bgS C (if p = 0 then fun _ => 0 else w)) 0 Y ∧ OnlyX 35 X Y := by
  unfold f_L_start_35
  rw [Option.bind_some, Option.bind_some]
  generalize e1 : s1 (s1 X 36 (fil (X.1 36) 18 0)) 37 (fil ((s1 X 36 (fil (X.1 36) 18 0)).1 37) 18 0) = X1
  have n1 : ∀ q, q ≠ 36 → q ≠ 37 → X1.1 q = X.1 q := fun q z1 z2 => by rw [← e1, s1_ne z2, s1_ne z1]
  have n2 : X1.2 = X.2 := by rw [← e1]; rfl
  have o1 : OnlyX 35 X X1 := ⟨fun q hq => n1 q (by omega) (by omega), n2⟩
  by_cases e : p = 0
  · rw [if_pos e, if_pos e]
    obtain ⟨Y, y1, y2, y3⟩ := X_st_35 (a := fun _ => 0) hO (o1.cfg (by decide) hC) (aOk_0 C) (fun c hc => by rw [← e1, s1_at, if_neg (by decide), s1_at, if_pos rfl]; unfold fil; rw [if_pos hc]; exact l0) (fun c hc => by rw [← e1, s1_at, if_pos rfl]; unfold fil; rw [if_pos hc]; exact l0)
    exact ⟨Y, y1, y2, o1.tr y3⟩
  · rw [if_neg e, if_neg e]
    obtain ⟨X2, c1, c2, c3, c4⟩ := cpy0 (M := X1) (k0 := 33) (n0 := 18) (k1 := 36) (n1 := 18) 18 (x := 18) (by rfl) (by omega) (by omega) (by omega) (by omega)
    obtain ⟨X3, d1, d2, d3, d4⟩ := cpy0 (M := X2) (k0 := 33) (n0 := 18) (k1 := 37) (n1 := 18) 18 (x := 18) (by rfl) (by omega) (by omega) (by omega) (by omega)
    have o2 : OnlyX 35 X1 X3 := ⟨fun q hq => by rw [d3 q (by omega), c3 q (by omega)], by rw [d4, c4]⟩
    have o3 := o1.tr o2
    rw [c1, Option.bind_some, d1, Option.bind_some]
    obtain ⟨Y, y1, y2, y3⟩ := X_st_35 (a := w) (X := X3) hO (o3.cfg (by decide) hC) (aOk_w hW h0) (fun c hc => by rw [d3 36 (by decide), c2 c hc, n1 33 (by decide) (by decide)]; exact hw.1 c hc) (fun c hc => by rw [d2 c hc, c3 33 (by decide), n1 33 (by decide) (by decide)]; exact hw.1 c hc)
    exact ⟨Y, y1, y2, o3.tr y3⟩
theorem X_start_52 {C : SS} {w : Nat → Int} {X : Mm} (hO : CfgOk C) (hC : CfgX C X) (hw : WyX 49 w X) (hW : WyOk C w) (h0 : w0 C w) (p : Int32) : ∃ Y, f_L_start_52 p X = some Y ∧ RelX 52 (bgS C (if p = 0 then fun _ => 0 else w)) 0 Y ∧ OnlyX 52 X Y := by
  unfold f_L_start_52
  rw [Option.bind_some, Option.bind_some]
  generalize e1 : s1 (s1 X 53 (fil (X.1 53) 18 0)) 54 (fil ((s1 X 53 (fil (X.1 53) 18 0)).1 54) 18 0) = X1
  have n1 : ∀ q, q ≠ 53 → q ≠ 54 → X1.1 q = X.1 q := fun q z1 z2 => by rw [← e1, s1_ne z2, s1_ne z1]
  have n2 : X1.2 = X.2 := by rw [← e1]; rfl
  have o1 : OnlyX 52 X X1 := ⟨fun q hq => n1 q (by omega) (by omega), n2⟩
  by_cases e : p = 0
  · rw [if_pos e, if_pos e]
    obtain ⟨Y, y1, y2, y3⟩ := X_st_52 (a := fun _ => 0) hO (o1.cfg (by decide) hC) (aOk_0 C) (fun c hc => by rw [← e1, s1_at, if_neg (by decide), s1_at, if_pos rfl]; unfold fil; rw [if_pos hc]; exact l0) (fun c hc => by rw [← e1, s1_at, if_pos rfl]; unfold fil; rw [if_pos hc]; exact l0)
    exact ⟨Y, y1, y2, o1.tr y3⟩
  · rw [if_neg e, if_neg e]
    obtain ⟨X2, c1, c2, c3, c4⟩ := cpy0 (M := X1) (k0 := 50) (n0 := 18) (k1 := 53) (n1 := 18) 18 (x := 18) (by rfl) (by omega) (by omega) (by omega) (by omega)
    obtain ⟨X3, d1, d2, d3, d4⟩ := cpy0 (M := X2) (k0 := 50) (n0 := 18) (k1 := 54) (n1 := 18) 18 (x := 18) (by rfl) (by omega) (by omega) (by omega) (by omega)
    have o2 : OnlyX 52 X1 X3 := ⟨fun q hq => by rw [d3 q (by omega), c3 q (by omega)], by rw [d4, c4]⟩
    have o3 := o1.tr o2
    rw [c1, Option.bind_some, d1, Option.bind_some]
    obtain ⟨Y, y1, y2, y3⟩ := X_st_52 (a := w) (X := X3) hO (o3.cfg (by decide) hC) (aOk_w hW h0) (fun c hc => by rw [d3 53 (by decide), c2 c hc, n1 50 (by decide) (by decide)]; exact hw.1 c hc) (fun c hc => by rw [d2 c hc, c3 50 (by decide), n1 50 (by decide) (by decide)]; exact hw.1 c hc)
    exact ⟨Y, y1, y2, o3.tr y3⟩
theorem M_begins_15 {C : SS} (M : Mm) : ∃ N, f_M_begins_0_15 M = some N ∧ RelM 15 (stS (fun _ => 0)) (fun _ _ => 0) N ∧ Only 15 M N := by
  have loop1 := loop_up (σ := Int32 × Mm) (γ := Option Mm) (fun f s => lp_M_begins_0_15_2 f s.1 s.2) 99 (fun i s => s.1 = iI (i : Int) ∧ (∀ j, j < i → s.2.1 15 j = iI 0) ∧ Only 15 M s.2) (fun s => j_M_begins_0_15_18 s.2) ?_ ?_ FW (FW_gt (by omega)) (iI 0, M) ⟨rfl, fun j hj => absurd hj (by omega), Only.rf⟩
  · obtain ⟨⟨x, M1⟩, ⟨-, a1, o1⟩, ev1⟩ := loop1
    dsimp only at a1 o1 ev1
    have w1 : wr M1 15 99 1 (-1) = some (u1 M1 15 1 (-1)) := by rw [l1]; exact wr_iI (by omega) (by omega) (by omega)
    have loop2 := loop_up (σ := Int32 × Mm) (γ := Option Mm) (fun f s => lp_M_begins_0_15_24 f s.1 s.2) 3 (fun i s => s.1 = iI (i : Int) ∧ (∀ j, j < 99 → s.2.1 15 j = if j = 1 then iI (-1) else if 96 ≤ j ∧ j < 96 + i then iI (-2) else iI 0) ∧ Only 15 M s.2) (fun s => j_M_begins_0_15_43 s.2) ?_ ?_ FW (FW_gt (by omega)) (iI 0, u1 M1 15 1 (-1)) ⟨rfl, fun j hj => ?_, o1.u1⟩
    · obtain ⟨⟨x, M2⟩, ⟨-, a2, o2⟩, ev2⟩ := loop2
      dsimp only at a2 o2 ev2
      have loop3 := loop_up (σ := Int32 × Mm) (γ := Option Mm) (fun f s => lp_M_begins_0_15_45 f s.1 s.2) 6 (fun i s => s.1 = iI (i : Int) ∧ (∀ j, j < 99 → s.2.1 15 j = if j = 1 then iI (-1) else if 96 ≤ j then iI (-2) else if 3 ≤ j ∧ j < 3 + 9 * i ∧ ((j - 3) % 9 = 1 ∨ (j - 3) % 9 = 3) then iI (-2) else iI 0) ∧ Only 15 M s.2) (fun s => some s.2) ?_ ?_ FW (FW_gt (by omega)) (iI 0, M2) ⟨rfl, fun j hj => ?_, o2⟩
      · obtain ⟨⟨x, M3⟩, ⟨-, a3, o3⟩, ev3⟩ := loop3
        dsimp only at a3 o3 ev3
        refine ⟨M3, ?_, ⟨fun i j hi hj => ?_, ?_, fun q => absurd rfl q, fun k c hk hc => ?_⟩, o3⟩
        · have e0 : f_M_begins_0_15 M = lp_M_begins_0_15_2 FW (iI 0) M := by unfold f_M_begins_0_15; rw [l0]
          rw [e0]
          refine ev1.trans ?_
          unfold j_M_begins_0_15_18
          rw [w1, Option.bind_some, l0]
          refine ev2.trans ?_
          unfold j_M_begins_0_15_43
          rw [l0]
          exact ev3
        · rw [a3 _ (lyM_lt hi hj)]
          have c : i = 0 ∨ i = 1 ∨ i = 2 ∨ i = 3 ∨ i = 4 ∨ i = 5 ∨ i = 6 ∨ i = 7 ∨ i = 8 ∨ i = 9 ∨ i = 10 ∨ i = 11 ∨ i = 12 ∨ i = 14 ∨ i = 17 := by
            unfold fdM at hi; omega
          rcases c with rfl | rfl | rfl | rfl | rfl | rfl | rfl | rfl | rfl | rfl | rfl | rfl | rfl | rfl | rfl <;>
          simp only [lyM, szS] at hj ⊢ <;> unfold stS <;> (repeat' split) <;> first | rfl | omega
        · rw [a3 1 (by omega), if_pos rfl]; rfl
        · rw [a3 _ (by omega), if_neg (by omega), if_neg (by omega), if_neg (by omega)]
      · rintro f i ⟨x, N⟩ hi ⟨ex, a, o⟩
        dsimp only at ex a o
        subst ex
        have w2 : wr N 15 99 (iI (3 + 9 * (i : Int) + 1)) (-2) = some (u1 N 15 (3 + 9 * (i : Int) + 1).toNat (-2)) := wr_iI (by omega) (by omega) (by omega)
        have w3 : wr (u1 N 15 (3 + 9 * (i : Int) + 1).toNat (-2)) 15 99 (iI (3 + 9 * (i : Int) + 3)) (-2) = some (u1 (u1 N 15 (3 + 9 * (i : Int) + 1).toNat (-2)) 15 (3 + 9 * (i : Int) + 3).toNat (-2)) := wr_iI (by omega) (by omega) (by omega)
        refine ⟨(iI ((i + 1 : Nat) : Int), u1 (u1 N 15 (3 + 9 * (i : Int) + 1).toNat (-2)) 15 (3 + 9 * (i : Int) + 3).toNat (-2)), ?_, rfl, fun j hj => ?_, o.u1.u1⟩
        · show lp_M_begins_0_15_45 (f + 1) (iI (i : Int)) N = lp_M_begins_0_15_45 f _ (u1 (u1 N 15 (3 + 9 * (i : Int) + 1).toNat (-2)) 15 (3 + 9 * (i : Int) + 3).toNat (-2))
          show blp_M_begins_0_15_45 (lp_M_begins_0_15_45 f) (iI (i : Int)) N = _
          unfold blp_M_begins_0_15_45
          have c0 : ¬ (6 ≤ iI (i : Int)) := by rw [l6, iI_le (by omega) (by omega) (by omega) (by omega)]; omega
          have o1 : f_M_of (iI (i : Int)) 1 = some (iI (3 + 9 * i + 1)) := by unfold f_M_of; rw [l1, ix3]
          have o3 : f_M_of (iI (i : Int)) 3 = some (iI (3 + 9 * i + 3)) := by unfold f_M_of; rw [← ix3 (i : Int) 3, ← l3]
          rw [if_neg c0, o1, Option.bind_some, w2, Option.bind_some, o3, Option.bind_some, w3, Option.bind_some, l1, iI_add]
          rfl
        · show (u1 (u1 N 15 (3 + 9 * (i : Int) + 1).toNat (-2)) 15 (3 + 9 * (i : Int) + 3).toNat (-2)).1 15 j = _
          rw [u1_at, u1_at, a j hj, lm2]
          (repeat' split) <;> first | rfl | omega
      · rintro f ⟨x, N⟩ ⟨ex, a, o⟩
        dsimp only at ex a o
        subst ex
        rfl
      · show M2.1 15 j = _
        rw [a2 j hj]
        (repeat' split) <;> first | rfl | omega
    · rintro f i ⟨x, N⟩ hi ⟨ex, a, o⟩
      dsimp only at ex a o
      subst ex
      have w2 : wr N 15 99 (iI (96 + (i : Int))) (-2) = some (u1 N 15 (96 + (i : Int)).toNat (-2)) := wr_iI (by omega) (by omega) (by omega)
      refine ⟨(iI ((i + 1 : Nat) : Int), u1 N 15 (96 + (i : Int)).toNat (-2)), ?_, rfl, fun j hj => ?_, o.u1⟩
      · show blp_M_begins_0_15_24 (lp_M_begins_0_15_24 f) (iI (i : Int)) N = lp_M_begins_0_15_24 f _ _
        unfold blp_M_begins_0_15_24
        have c0 : ¬ (3 ≤ iI (i : Int)) := by rw [l3, iI_le (by omega) (by omega) (by omega) (by omega)]; omega
        rw [if_neg c0, show (96 : Int32) = iI 96 from rfl, iI_add, w2, Option.bind_some, l1, iI_add]
        rfl
      · show (u1 N 15 (96 + (i : Int)).toNat (-2)).1 15 j = _
        rw [u1_at, a j hj, lm2]
        (repeat' split) <;> first | rfl | omega
    · rintro f ⟨x, N⟩ ⟨ex, a, o⟩
      dsimp only at ex a o
      subst ex
      rfl
    · show (u1 M1 15 1 (-1)).1 15 j = _
      rw [u1_at, a1 j hj, lm1]
      (repeat' split) <;> first | rfl | omega
  · rintro f i ⟨x, N⟩ hi ⟨ex, a, o⟩
    dsimp only at ex a o
    subst ex
    have w2 : wr N 15 99 (iI (i : Int)) 0 = some (u1 N 15 i 0) := wr_iI (by omega) (by omega) (by omega)
    refine ⟨(iI ((i + 1 : Nat) : Int), u1 N 15 i 0), ?_, rfl, fun j hj => ?_, o.u1⟩
    · show blp_M_begins_0_15_2 (lp_M_begins_0_15_2 f) (iI (i : Int)) N = lp_M_begins_0_15_2 f _ _
      unfold blp_M_begins_0_15_2
      have c0 : ¬ (99 ≤ iI (i : Int)) := by rw [show (99 : Int32) = iI 99 from rfl, iI_le (by omega) (by omega) (by omega) (by omega)]; omega
      rw [if_neg c0, w2, Option.bind_some, l1, iI_add]
      rfl
    · show (u1 N 15 i 0).1 15 j = _
      rw [u1_at]
      by_cases e : j = i
      · rw [if_pos ⟨rfl, e⟩, l0]
      · rw [if_neg (fun q => e q.2)]; exact a j (by omega)
  · rintro f ⟨x, N⟩ ⟨ex, a, o⟩
    dsimp only at ex a o
    subst ex
    rfl
theorem M_begins_16 {C : SS} (M : Mm) : ∃ N, f_M_begins_0_16 M = some N ∧ RelM 16 (stS (fun _ => 0)) (fun _ _ => 0) N ∧ Only 16 M N := by
  have loop1 := loop_up (σ := Int32 × Mm) (γ := Option Mm) (fun f s => lp_M_begins_0_16_2 f s.1 s.2) 99 (fun i s => s.1 = iI (i : Int) ∧ (∀ j, j < i → s.2.1 16 j = iI 0) ∧ Only 16 M s.2) (fun s => j_M_begins_0_16_18 s.2) ?_ ?_ FW (FW_gt (by omega)) (iI 0, M) ⟨rfl, fun j hj => absurd hj (by omega), Only.rf⟩
  · obtain ⟨⟨x, M1⟩, ⟨-, a1, o1⟩, ev1⟩ := loop1
    dsimp only at a1 o1 ev1
    have w1 : wr M1 16 99 1 (-1) = some (u1 M1 16 1 (-1)) := by rw [l1]; exact wr_iI (by omega) (by omega) (by omega)
    have loop2 := loop_up (σ := Int32 × Mm) (γ := Option Mm) (fun f s => lp_M_begins_0_16_24 f s.1 s.2) 3 (fun i s => s.1 = iI (i : Int) ∧ (∀ j, j < 99 → s.2.1 16 j = if j = 1 then iI (-1) else if 96 ≤ j ∧ j < 96 + i then iI (-2) else iI 0) ∧ Only 16 M s.2) (fun s => j_M_begins_0_16_43 s.2) ?_ ?_ FW (FW_gt (by omega)) (iI 0, u1 M1 16 1 (-1)) ⟨rfl, fun j hj => ?_, o1.u1⟩
    · obtain ⟨⟨x, M2⟩, ⟨-, a2, o2⟩, ev2⟩ := loop2
      dsimp only at a2 o2 ev2
      have loop3 := loop_up (σ := Int32 × Mm) (γ := Option Mm) (fun f s => lp_M_begins_0_16_45 f s.1 s.2) 6 (fun i s => s.1 = iI (i : Int) ∧ (∀ j, j < 99 → s.2.1 16 j = if j = 1 then iI (-1) else if 96 ≤ j then iI (-2) else if 3 ≤ j ∧ j < 3 + 9 * i ∧ ((j - 3) % 9 = 1 ∨ (j - 3) % 9 = 3) then iI (-2) else iI 0) ∧ Only 16 M s.2) (fun s => some s.2) ?_ ?_ FW (FW_gt (by omega)) (iI 0, M2) ⟨rfl, fun j hj => ?_, o2⟩
      · obtain ⟨⟨x, M3⟩, ⟨-, a3, o3⟩, ev3⟩ := loop3
        dsimp only at a3 o3 ev3
        refine ⟨M3, ?_, ⟨fun i j hi hj => ?_, ?_, fun q => absurd rfl q, fun k c hk hc => ?_⟩, o3⟩
        · have e0 : f_M_begins_0_16 M = lp_M_begins_0_16_2 FW (iI 0) M := by unfold f_M_begins_0_16; rw [l0]
          rw [e0]
          refine ev1.trans ?_
          unfold j_M_begins_0_16_18
          rw [w1, Option.bind_some, l0]
          refine ev2.trans ?_
          unfold j_M_begins_0_16_43
          rw [l0]
          exact ev3
        · rw [a3 _ (lyM_lt hi hj)]
          have c : i = 0 ∨ i = 1 ∨ i = 2 ∨ i = 3 ∨ i = 4 ∨ i = 5 ∨ i = 6 ∨ i = 7 ∨ i = 8 ∨ i = 9 ∨ i = 10 ∨ i = 11 ∨ i = 12 ∨ i = 14 ∨ i = 17 := by
            unfold fdM at hi; omega
          rcases c with rfl | rfl | rfl | rfl | rfl | rfl | rfl | rfl | rfl | rfl | rfl | rfl | rfl | rfl | rfl <;>
          simp only [lyM, szS] at hj ⊢ <;> unfold stS <;> (repeat' split) <;> first | rfl | omega
        · rw [a3 1 (by omega), if_pos rfl]; rfl
        · rw [a3 _ (by omega), if_neg (by omega), if_neg (by omega), if_neg (by omega)]
      · rintro f i ⟨x, N⟩ hi ⟨ex, a, o⟩
        dsimp only at ex a o
        subst ex
        have w2 : wr N 16 99 (iI (3 + 9 * (i : Int) + 1)) (-2) = some (u1 N 16 (3 + 9 * (i : Int) + 1).toNat (-2)) := wr_iI (by omega) (by omega) (by omega)
        have w3 : wr (u1 N 16 (3 + 9 * (i : Int) + 1).toNat (-2)) 16 99 (iI (3 + 9 * (i : Int) + 3)) (-2) = some (u1 (u1 N 16 (3 + 9 * (i : Int) + 1).toNat (-2)) 16 (3 + 9 * (i : Int) + 3).toNat (-2)) := wr_iI (by omega) (by omega) (by omega)
        refine ⟨(iI ((i + 1 : Nat) : Int), u1 (u1 N 16 (3 + 9 * (i : Int) + 1).toNat (-2)) 16 (3 + 9 * (i : Int) + 3).toNat (-2)), ?_, rfl, fun j hj => ?_, o.u1.u1⟩
        · show lp_M_begins_0_16_45 (f + 1) (iI (i : Int)) N = lp_M_begins_0_16_45 f _ (u1 (u1 N 16 (3 + 9 * (i : Int) + 1).toNat (-2)) 16 (3 + 9 * (i : Int) + 3).toNat (-2))
          show blp_M_begins_0_16_45 (lp_M_begins_0_16_45 f) (iI (i : Int)) N = _
          unfold blp_M_begins_0_16_45
          have c0 : ¬ (6 ≤ iI (i : Int)) := by rw [l6, iI_le (by omega) (by omega) (by omega) (by omega)]; omega
          have o1 : f_M_of (iI (i : Int)) 1 = some (iI (3 + 9 * i + 1)) := by unfold f_M_of; rw [l1, ix3]
          have o3 : f_M_of (iI (i : Int)) 3 = some (iI (3 + 9 * i + 3)) := by unfold f_M_of; rw [← ix3 (i : Int) 3, ← l3]
          rw [if_neg c0, o1, Option.bind_some, w2, Option.bind_some, o3, Option.bind_some, w3, Option.bind_some, l1, iI_add]
          rfl
        · show (u1 (u1 N 16 (3 + 9 * (i : Int) + 1).toNat (-2)) 16 (3 + 9 * (i : Int) + 3).toNat (-2)).1 16 j = _
          rw [u1_at, u1_at, a j hj, lm2]
          (repeat' split) <;> first | rfl | omega
      · rintro f ⟨x, N⟩ ⟨ex, a, o⟩
        dsimp only at ex a o
        subst ex
        rfl
      · show M2.1 16 j = _
        rw [a2 j hj]
        (repeat' split) <;> first | rfl | omega
    · rintro f i ⟨x, N⟩ hi ⟨ex, a, o⟩
      dsimp only at ex a o
      subst ex
      have w2 : wr N 16 99 (iI (96 + (i : Int))) (-2) = some (u1 N 16 (96 + (i : Int)).toNat (-2)) := wr_iI (by omega) (by omega) (by omega)
      refine ⟨(iI ((i + 1 : Nat) : Int), u1 N 16 (96 + (i : Int)).toNat (-2)), ?_, rfl, fun j hj => ?_, o.u1⟩
      · show blp_M_begins_0_16_24 (lp_M_begins_0_16_24 f) (iI (i : Int)) N = lp_M_begins_0_16_24 f _ _
        unfold blp_M_begins_0_16_24
        have c0 : ¬ (3 ≤ iI (i : Int)) := by rw [l3, iI_le (by omega) (by omega) (by omega) (by omega)]; omega
        rw [if_neg c0, show (96 : Int32) = iI 96 from rfl, iI_add, w2, Option.bind_some, l1, iI_add]
        rfl
      · show (u1 N 16 (96 + (i : Int)).toNat (-2)).1 16 j = _
        rw [u1_at, a j hj, lm2]
        (repeat' split) <;> first | rfl | omega
    · rintro f ⟨x, N⟩ ⟨ex, a, o⟩
      dsimp only at ex a o
      subst ex
      rfl
    · show (u1 M1 16 1 (-1)).1 16 j = _
      rw [u1_at, a1 j hj, lm1]
      (repeat' split) <;> first | rfl | omega
  · rintro f i ⟨x, N⟩ hi ⟨ex, a, o⟩
    dsimp only at ex a o
    subst ex
    have w2 : wr N 16 99 (iI (i : Int)) 0 = some (u1 N 16 i 0) := wr_iI (by omega) (by omega) (by omega)
    refine ⟨(iI ((i + 1 : Nat) : Int), u1 N 16 i 0), ?_, rfl, fun j hj => ?_, o.u1⟩
    · show blp_M_begins_0_16_2 (lp_M_begins_0_16_2 f) (iI (i : Int)) N = lp_M_begins_0_16_2 f _ _
      unfold blp_M_begins_0_16_2
      have c0 : ¬ (99 ≤ iI (i : Int)) := by rw [show (99 : Int32) = iI 99 from rfl, iI_le (by omega) (by omega) (by omega) (by omega)]; omega
      rw [if_neg c0, w2, Option.bind_some, l1, iI_add]
      rfl
    · show (u1 N 16 i 0).1 16 j = _
      rw [u1_at]
      by_cases e : j = i
      · rw [if_pos ⟨rfl, e⟩, l0]
      · rw [if_neg (fun q => e q.2)]; exact a j (by omega)
  · rintro f ⟨x, N⟩ ⟨ex, a, o⟩
    dsimp only at ex a o
    subst ex
    rfl

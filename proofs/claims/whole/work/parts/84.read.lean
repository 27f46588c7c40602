theorem LnR.z {T : Nat → Int} {n c i : Nat} {X M : Mm} {rx : Option (Int32 × Mm)} {rm : Option Mm} (h : LnR T n c i X M rx rm) : LnR T n c i X M (rx.bind fun q => (zr q.1).bind fun z => some (z, q.2)) (rm.bind fun N => some N) := by
  rcases h with ⟨j, P, u, rl, Y, N, rfl, rfl, h⟩ | ⟨Y, N, rfl, rfl, h⟩
  · exact Or.inl ⟨j, P, u, rl, Y, N, rfl, rfl, h⟩
  · exact Or.inr ⟨Y, N, rfl, rfl, h⟩
theorem Ln_line {T : Nat → Int} {n c i : Nat} {P : SS} {u : Nat → Int} {rl : Int} {X M : Mm} (h : Tk T n c i X M) (hp : PlR P u rl X M) (ok : PlOk P u) : LnR T n c i X M (f_R_readLine_14 X) (f_M_readLine_0 M) := by
  have bad : LnR T n c i X M ((f_R_blame_14 1 X).bind fun q => (zr q.1).bind fun z => some (z, q.2)) ((f_M_flaw_0 1 M).bind fun N => some N) := by
    obtain ⟨Y, N, y1, y2, y3, y4, y5⟩ := h.blame 1 (by omega) (by omega)
    rw [← l1] at y1 y2
    refine Or.inr ⟨Y, N, ?_, ?_, y3, y4.w, y5.w⟩
    · rw [y1, Option.bind_some, zr_0, Option.bind_some]
    · rw [y2, Option.bind_some]
  unfold f_R_readLine_14 f_M_readLine_0
  have hs := h.sort 1 (by omega) (by omega)
  rw [← l1] at hs
  rcases hs with ⟨e, s⟩ | ⟨e, s⟩
  · have c6 := h.2.1.1
    obtain ⟨-, -, q3⟩ := h.at
    obtain ⟨q4, q5, q6⟩ := q3 (by omega)
    have kle := kw_le (T := T) (s := sqS T n i) (z := enS T n (sqS T n i) - sqS T n i)
    have iw : ∀ w, w < 12 → f_M_isWord_0 (w + 1) M = some (if kwS T (sqS T n i) (enS T n (sqS T n i) - sqS T n i) = w then 1 else 0) := fun w hw => by
      rcases h.isw hw with ⟨a, -, b⟩ | ⟨a, -, b⟩
      · rw [b, if_pos a.2]
      · rw [b, if_neg (fun q => a ⟨e, q⟩)]
    have r31 : rd (X.1 31) 601 (X.1 14 2) = some (iI (kwS T (sqS T n i) (enS T n (sqS T n i) - sqS T n i) : Int)) := by
      rw [h.2.2.2.1, rdK (by omega), q6.2.2.2.1 e]
    rw [s, Option.bind_some, if_neg n10, r31, Option.bind_some]
    have i0 := iw 0 (by omega)
    have i1 := iw 1 (by omega)
    have i5 := iw 5 (by omega)
    have i6 := iw 6 (by omega)
    have i8 := iw 8 (by omega)
    rw [i0, i1, i5, i6, i8]
    generalize kwS T (sqS T n i) (enS T n (sqS T n i) - sqS T n i) = k at kle
    have q : k = 0 ∨ k = 1 ∨ k = 2 ∨ k = 3 ∨ k = 4 ∨ k = 5 ∨ k = 6 ∨ k = 7 ∨ k = 8 ∨ k = 9 ∨ k = 10 ∨ k = 11 ∨ k = 12 := by omega
    rcases q with rfl | rfl | rfl | rfl | rfl | rfl | rfl | rfl | rfl | rfl | rfl | rfl | rfl
    · exact (Ln_ware h hp ok).z
    · exact (Ln_bench h hp ok).z
    · exact bad
    · exact bad
    · exact bad
    · exact (Ln_cards h hp ok).z
    · exact (Ln_order h hp ok).z
    · exact bad
    · exact (Ln_rule h hp ok).z
    · exact bad
    · exact bad
    · exact bad
    · exact bad
  · have iw : ∀ w, w < 12 → f_M_isWord_0 (w + 1) M = some 0 := fun w hw => by
      rcases h.isw hw with ⟨a, -, b⟩ | ⟨a, -, b⟩
      · exact absurd a.1 e
      · exact b
    have i0 := iw 0 (by omega)
    have i1 := iw 1 (by omega)
    have i5 := iw 5 (by omega)
    have i6 := iw 6 (by omega)
    have i8 := iw 8 (by omega)
    rw [s, Option.bind_some, if_pos rfl, i0, Option.bind_some, if_pos rfl, i1, Option.bind_some, if_pos rfl, i5, Option.bind_some, if_pos rfl, i6, Option.bind_some, if_pos rfl, i8, Option.bind_some, if_pos rfl]
    exact bad
/-- how a text ends -/
def EnR (T : Nat → Int) (n c : Nat) (Y N : Mm) : Prop := (Y.1 14 4 = 0 ∧ N.1 0 7 = 0 ∧ ∃ (P : SS) (u : Nat → Int) (rl : Int), PlR P u rl Y N ∧ PlOk P u ∧ 1 ≤ P 0 0 ∧ 1 ≤ P 0 1) ∨ Fl T n c Y N
theorem FM.t132 {M : Mm} (h : FM M) : j_M_text_0_132 M = j_M_text_0_158 M := if_neg h.c.2
theorem FM.t92 {M : Mm} (h : FM M) {g : Nat} (hg : 0 < g) : lp_M_text_0_92 g M = j_M_text_0_158 M := by
  obtain ⟨g, rfl⟩ : ∃ q, g = q + 1 := ⟨g - 1, by omega⟩
  show blp_M_text_0_92 (lp_M_text_0_92 g) M = _
  unfold blp_M_text_0_92 j_M_text_0_112
  rw [h.sign, Option.bind_some, if_pos rfl, if_neg h.c.2, h.t132]
theorem rd_loop {T : Nat → Int} {n c : Nat} : ∀ (d i x f g : Nat) (X M : Mm) (P : SS) (u : Nat → Int) (rl : Int), c - i ≤ d → x ≤ i → d < f → d < g → Tk T n c i X M → PlR P u rl X M → PlOk P u → ∃ Y N, lp_R_read_14_32 f (iI (x : Int)) X = some (Y.1 14 4, Y) ∧ ((f_M_readLine_0 M).bind fun M2 => lp_M_text_0_92 g M2) = j_M_text_0_158 N ∧ EnR T n c Y N ∧ WX X Y ∧ WM M N := by
  intro d
  induction d with
  | zero =>
    intro i x f g X M P u rl hd hx hf hg h hp ok
    obtain ⟨f, rfl⟩ : ∃ q, f = q + 1 := ⟨f - 1, by omega⟩
    have e : i = c := by have := h.2.2.1; omega
    have c6 := h.2.1.1
    have sr : srS T n (sqS T n i) = 0 := by rw [e, h.2.1.2.1]; unfold srS; rw [if_neg (Nat.lt_irrefl n)]
    -- at the end a line can't be read
    have cx : ¬ (600 < iI (x : Int)) := by rw [show (600 : Int32) = iI 600 from rfl, iI_lt (by omega) (by omega) (by omega) (by omega)]; omega
    rcases Ln_line h hp ok with ⟨j, P2, u2, rl2, Y, N, r1, r2, r3, r4, r5, r6, r7, r8⟩ | ⟨Y, N, r1, r2, r3, r4, r5⟩
    · exfalso
      unfold f_R_readLine_14 at r1
      rw [l1] at r1
      rcases h.sort 1 (by omega) (by omega) with ⟨e, s⟩ | ⟨e, s⟩
      · omega
      · rw [s, Option.bind_some, if_pos rfl, ← l1] at r1
        have : ((f_R_blame_14 1 X).bind fun q33 => (zr q33.1).bind fun z34 => some (z34, q33.2)) = some (0, u1 X 14 4 1) := rfl
        rw [this] at r1
        have q : some (0 : Int32) = some 1 := congrArg (fun o => Option.map Prod.fst o) r1
        exact absurd (Option.some.inj q) (by decide)
    · refine ⟨Y, N, ?_, ?_, Or.inr r3, r4, r5⟩
      · show blp_R_read_14_32 (lp_R_read_14_32 f) (iI (x : Int)) X = _
        unfold blp_R_read_14_32
        rw [if_neg cx, r1, Option.bind_some]
        rfl
      · rw [r2, Option.bind_some]; exact r3.m.t92 hg
  | succ d ih =>
    intro i x f g X M P u rl hd hx hf hg h hp ok
    obtain ⟨f, rfl⟩ : ∃ q, f = q + 1 := ⟨f - 1, by omega⟩
    have c6 := h.2.1.1
    have hic := h.2.2.1
    have cx : ¬ (600 < iI (x : Int)) := by rw [show (600 : Int32) = iI 600 from rfl, iI_lt (by omega) (by omega) (by omega) (by omega)]; omega
    rcases Ln_line h hp ok with ⟨j, P2, u2, rl2, X1, M1, r1, r2, r3, r4, r5, r6, r7, r8⟩ | ⟨Y, N, r1, r2, r3, r4, r5⟩
    · obtain ⟨g, rfl⟩ : ∃ q, g = q + 1 := ⟨g - 1, by omega⟩
      have eX : lp_R_read_14_32 (f + 1) (iI (x : Int)) X = (f_R_isSort_14 0 X1).bind fun v4 => if v4 = 0 then ((f_R_isSort_14 3 X1).bind fun v6 => if v6 = 0 then ((f_R_blame_14 1 X1).bind fun q9 => some ((q9.2.1 14 4), q9.2)) else ((f_R_step_14 X1).bind fun M8 => lp_R_read_14_32 f (iI (x : Int) + 1) M8)) else j_R_read_14_54 X1 := by
        show blp_R_read_14_32 (lp_R_read_14_32 f) (iI (x : Int)) X = _
        unfold blp_R_read_14_32
        rw [if_neg cx, r1, Option.bind_some]
        rfl
      have eM : ((f_M_readLine_0 M).bind fun M2 => lp_M_text_0_92 (g + 1) M2) = (f_M_isSign_0 59 M1).bind fun v1 => if v1 = 0 then j_M_text_0_112 M1 else ((f_M_goOn_0 M1).bind fun M3 => (f_M_readLine_0 M3).bind fun M4 => lp_M_text_0_92 g M4) := by
        rw [r2, Option.bind_some]
        rfl
      have sb := sr_b (T := T) (n := n) (s := sqS T n j)
      have f7 : M1.1 0 7 = 0 := r3.2.2.2.2.2.2.2.2
      have t9 : M1.1 0 9 = iI (tkM (srS T n (sqS T n j))) := r3.2.2.2.2.2.2.2.1.2.2.2.1
      have t1 := (tk_2 sb.1 sb.2.1).2.2.2
      rw [eX, eM, r3.sign.1]
      have s0 := r3.sort 0 (by omega) (by omega)
      rw [← l0] at s0
      rcases s0 with ⟨e, s⟩ | ⟨e, s⟩
      · rw [s, Option.bind_some, if_neg n10, Option.bind_some, if_neg (show ¬ srS T n (sqS T n j) = 3 by omega), if_pos rfl]
        unfold j_M_text_0_112 j_M_text_0_132 j_M_text_0_153 j_R_read_14_54
        rw [f7, if_pos rfl, t9, if_pos (t1.mpr e), r4.1.1, r4.1.2.1, r4.2.1.1, r4.2.1.2.1, if_pos rfl]
        obtain ⟨⟨k0, k3⟩, ⟨b0, b6, bk⟩, -⟩ := id r5
        have cK : (iI (P2 0 0) = 0) ↔ P2 0 0 = 0 := by rw [l0]; exact iI_eq (by omega) (by omega) (by omega) (by omega)
        have cB : (iI (P2 0 1) = 0) ↔ P2 0 1 = 0 := by rw [l0]; exact iI_eq (by omega) (by omega) (by omega) (by omega)
        by_cases eK : P2 0 0 = 0 ∨ P2 0 1 = 0
        · obtain ⟨Y, N, y1, y2, y3, y4, y5⟩ := r3.blame 5 (by omega) (by omega)
          rw [← l5] at y1 y2
          refine ⟨Y, N, ?_, ?_, Or.inr y3, r6.tr y4.w, r7.tr y5.w⟩
          · by_cases e1 : P2 0 0 = 0
            · rw [if_pos (cK.mpr e1), y1, Option.bind_some]
            · rw [if_neg (fun q => e1 (cK.mp q)), if_pos (cB.mpr (by omega)), y1, Option.bind_some]
          · by_cases e1 : P2 0 0 = 0
            · rw [if_pos (cK.mpr e1), y2, Option.bind_some]
            · rw [if_neg (fun q => e1 (cK.mp q)), if_pos (cB.mpr (by omega)), y2, Option.bind_some]
        · refine ⟨X1, M1, ?_, ?_, Or.inl ⟨r3.2.2.2.2.1, f7, P2, u2, rl2, r4, r5, by omega, by omega⟩, r6, r7⟩
          · rw [if_neg (fun q => eK (Or.inl (cK.mp q))), if_neg (fun q => eK (Or.inr (cB.mp q)))]
          · rw [if_neg (fun q => eK (Or.inl (cK.mp q))), if_neg (fun q => eK (Or.inr (cB.mp q)))]
      · rw [s, Option.bind_some, if_pos rfl]
        have s3 := r3.sort 3 (by omega) (by omega)
        rw [← l3] at s3
        rcases s3 with ⟨e3, s⟩ | ⟨e3, s⟩
        · obtain ⟨j2, X2, M2, t1, t2, t3, t4, t5, t6, t7⟩ := r3.step
          have hj := t7 (by omega)
          rw [s, Option.bind_some, if_neg n10, if_pos e3, Option.bind_some, if_neg n10, t1, t2, Option.bind_some, Option.bind_some, show iI (x : Int) + 1 = iI ((x + 1 : Nat) : Int) by rw [l1, iI_add]; rfl]
          obtain ⟨Y, N, z1, z2, z3, z4, z5⟩ := ih j2 (x + 1) f g X2 M2 P2 u2 rl2 (by omega) (by omega) (by omega) (by omega) t3 (r4.s t4 t5) r5
          exact ⟨Y, N, z1, z2, z3, (r6.tr t4.w).tr z4, (r7.tr t5.w).tr z5⟩
        · obtain ⟨Y, N, y1, y2, y3, y4, y5⟩ := r3.blame 1 (by omega) (by omega)
          rw [← l1] at y1 y2
          unfold j_M_text_0_112
          rw [s, Option.bind_some, if_pos rfl, if_neg e3, Option.bind_some, if_pos rfl, y1, Option.bind_some, f7, if_pos rfl, t9, if_neg (fun q => e (t1.mp q)), y2, Option.bind_some, y3.m.t132]
          exact ⟨Y, N, rfl, rfl, Or.inr y3, r6.tr y4.w, r7.tr y5.w⟩
    · refine ⟨Y, N, ?_, ?_, Or.inr r3, r4, r5⟩
      · show blp_R_read_14_32 (lp_R_read_14_32 f) (iI (x : Int)) X = _
        unfold blp_R_read_14_32
        rw [if_neg cx, r1, Option.bind_some]
        rfl
      · rw [r2, Option.bind_some]; exact r3.m.t92 (by omega)

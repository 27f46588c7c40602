theorem n10 : ¬ ((1 : Int32) = 0) := by decide
theorem Tld.rx {C : SS} {w : Nat → Int} {S Q : SS} {X M : Mm} (h : Tld C w S Q X M) : RelX 35 S (totS S (C 0 0).toNat) X := h.2.2.2.1.2.2.2.2.2.2.1
theorem Tld.rm {C : SS} {w : Nat → Int} {S Q : SS} {X M : Mm} (h : Tld C w S Q X M) : RelM 15 S Q M := h.2.2.2.1.2.2.2.2.2.2.2.2
theorem Tld.wx {C : SS} {w : Nat → Int} {S Q : SS} {X M : Mm} (h : Tld C w S Q X M) : WyX 32 w X := h.2.2.2.1.2.2.2.2.2.1
theorem Tld.wm {C : SS} {w : Nat → Int} {S Q : SS} {X M : Mm} (h : Tld C w S Q X M) : WyM 10 w M := h.2.2.2.1.2.2.2.2.2.2.2.1
theorem Tld.wo {C : SS} {w : Nat → Int} {S Q : SS} {X M : Mm} (h : Tld C w S Q X M) : WyOk C w := h.2.2.2.1.1
theorem Tld.w0 {C : SS} {w : Nat → Int} {S Q : SS} {X M : Mm} (h : Tld C w S Q X M) : w0 C w := h.2.2.2.1.2.1
theorem Tld.bd {C : SS} {w : Nat → Int} {S Q : SS} {X M : Mm} (h : Tld C w S Q X M) : Bd C S := h.2.2.2.1.2.2.1
theorem Tld.qb {C : SS} {w : Nat → Int} {S Q : SS} {X M : Mm} (h : Tld C w S Q X M) : QBd C S Q := h.2.2.2.1.2.2.2.1
theorem Tld.mi {C : SS} {w : Nat → Int} {S Q : SS} {X M : Mm} (h : Tld C w S Q X M) : S 14 0 ≤ 9999 := h.2.2.2.1.2.2.2.2.1
theorem Rel.told {X M : Mm} (h : Rel X M) : (X.1 0 9 = 0 ∧ M.1 0 28 = 0) ∨ (¬ X.1 0 9 = 0 ∧ ¬ M.1 0 28 = 0 ∧ ∃ C w S Q, Tld C w S Q X M) := by
  rcases h.2.2.2.2 with h | ⟨h1, h2, h3⟩
  · exact Or.inl ⟨h.1, h.2.1⟩
  · exact Or.inr ⟨by rw [h1]; exact n10, by rw [h2]; exact n10, h3⟩
theorem isB {C : SS} {X M : Mm} (p : Int32) (t1 : ¬ X.1 0 9 = 0) (t2 : ¬ M.1 0 28 = 0) (hO : CfgOk C) (hX : CfgX C X) (hM : CfgM C M) : (f_P_isBench_0 p X = some 0 ∧ f_M_isBench_0 p M = some 0) ∨ ∃ b : Nat, p = iI b ∧ (b : Int) < C 0 1 ∧ f_P_isBench_0 p X = some 1 ∧ f_M_isBench_0 p M = some 1 := by
  unfold f_P_isBench_0 f_M_isBench_0
  have h1 := hO.2.2.1
  have h6 := hO.2.2.2.1
  rw [if_neg t1, if_neg t2, hX.2.1, hM.2.1, in_wi, l1, iI_sub, ← l1]
  rcases wi (p := p) (n := C 0 1 - 1) (by omega) (by omega) with ⟨b, e, hb, e2⟩ | ⟨e, -⟩
  · exact Or.inr ⟨b, e, by omega, by rw [e2]; rfl, by rw [e2]; rfl⟩
  · exact Or.inl ⟨by rw [e]; rfl, by rw [e]; rfl⟩
theorem isK {C : SS} {X M : Mm} (p : Int32) (t1 : ¬ X.1 0 9 = 0) (t2 : ¬ M.1 0 28 = 0) (hO : CfgOk C) (hX : CfgX C X) (hM : CfgM C M) : (f_P_isKind_0 p X = some 0 ∧ f_M_isKind_0 p M = some 0) ∨ ∃ b : Nat, p = iI b ∧ (b : Int) < C 0 0 ∧ f_P_isKind_0 p X = some 1 ∧ f_M_isKind_0 p M = some 1 := by
  unfold f_P_isKind_0 f_M_isKind_0
  have h1 := hO.1
  have h6 := hO.2.1
  rw [if_neg t1, if_neg t2, hX.1, hM.1, in_wi, l1, iI_sub, ← l1]
  rcases wi (p := p) (n := C 0 0 - 1) (by omega) (by omega) with ⟨b, e, hb, e2⟩ | ⟨e, -⟩
  · exact Or.inr ⟨b, e, by omega, by rw [e2]; rfl, by rw [e2]; rfl⟩
  · exact Or.inl ⟨by rw [e]; rfl, by rw [e]; rfl⟩
theorem Rel.bench {X M : Mm} (h : Rel X M) (p : Int32) : (f_P_isBench_0 p X = some 0 ∧ f_M_isBench_0 p M = some 0) ∨ ∃ C w S Q, ∃ b : Nat, p = iI b ∧ (b : Int) < C 0 1 ∧ f_P_isBench_0 p X = some 1 ∧ f_M_isBench_0 p M = some 1 ∧ ¬ X.1 0 9 = 0 ∧ ¬ M.1 0 28 = 0 ∧ Tld C w S Q X M := by
  rcases h.told with ⟨t1, t2⟩ | ⟨t1, t2, C, w, S, Q, T⟩
  · left
    unfold f_P_isBench_0 f_M_isBench_0
    rw [if_pos t1, if_pos t2]
    exact ⟨rfl, rfl⟩
  · rcases isB p t1 t2 T.1 T.2.1 T.2.2.1 with h | ⟨b, h⟩
    · exact Or.inl h
    · exact Or.inr ⟨C, w, S, Q, b, h.1, h.2.1, h.2.2.1, h.2.2.2, t1, t2, T⟩
theorem Rel.kind {X M : Mm} (h : Rel X M) (p : Int32) : (f_P_isKind_0 p X = some 0 ∧ f_M_isKind_0 p M = some 0) ∨ ∃ C w S Q, ∃ b : Nat, p = iI b ∧ (b : Int) < C 0 0 ∧ f_P_isKind_0 p X = some 1 ∧ f_M_isKind_0 p M = some 1 ∧ ¬ X.1 0 9 = 0 ∧ ¬ M.1 0 28 = 0 ∧ Tld C w S Q X M := by
  rcases h.told with ⟨t1, t2⟩ | ⟨t1, t2, C, w, S, Q, T⟩
  · left
    unfold f_P_isKind_0 f_M_isKind_0
    rw [if_pos t1, if_pos t2]
    exact ⟨rfl, rfl⟩
  · rcases isK p t1 t2 T.1 T.2.1 T.2.2.1 with h | ⟨b, h⟩
    · exact Or.inl h
    · exact Or.inr ⟨C, w, S, Q, b, h.1, h.2.1, h.2.2.1, h.2.2.2, t1, t2, T⟩
theorem R_peak {X M : Mm} (h0 : Rel X M) (p : Int32) : An (f_P_peak_0 p X) (f_M_peak_0 p M) := by
  unfold f_P_peak_0 f_M_peak_0
  rw [Option.bind_some]
  have h := h0.th 0
  generalize u1 M 0 0 0 = N at h
  rcases h.bench p with ⟨e1, e2⟩ | ⟨C, w, S, Q, b, rfl, hb, e1, e2, t1, t2, T⟩
  · rw [e1, e2, Option.bind_some, Option.bind_some, if_pos rfl, if_pos rfl]; exact An_ref h 1
  · have hb6 := sz6 T.1 hb
    have r1 : rd (X.1 43) 6 (iI (b : Int)) = some (iI (S 11 b)) := T.rx.rd 11 b (fx 11 rfl) (by decide) hb6 rfl
    have r2 : rd (N.1 15) 99 (90 + iI (b : Int)) = some (iI (S 11 b)) := by
      rw [show (90 : Int32) = iI 90 from rfl, iI_add]
      exact rdM T.rm 11 b (fd 11 rfl) hb6 (by simp only [lyM]; omega)
    rw [e1, e2, Option.bind_some, Option.bind_some, if_neg n10, if_neg n10, r1, r2]
    exact An_good h _
theorem R_firstOf {X M : Mm} (h0 : Rel X M) (p : Int32) : An (f_P_firstOf_0 p X) (f_M_firstOf_0 p M) := by
  unfold f_P_firstOf_0 f_M_firstOf_0
  rw [Option.bind_some]
  have h := h0.th 0
  generalize u1 M 0 0 0 = N at h
  rcases h.kind p with ⟨e1, e2⟩ | ⟨C, w, S, Q, b, rfl, hb, e1, e2, t1, t2, T⟩
  · rw [e1, e2, Option.bind_some, Option.bind_some, if_pos rfl, if_pos rfl]; exact An_ref h 1
  · have hb6 : b < 3 := by have := T.1.2.1; omega
    have r1 : rd (X.1 47) 3 (iI (b : Int)) = some (iI (S 12 b)) := T.rx.rd 12 b (fx 12 rfl) (by decide) hb6 rfl
    have r2 : rd (N.1 15) 99 (96 + iI (b : Int)) = some (iI (S 12 b)) := by
      rw [show (96 : Int32) = iI 96 from rfl, iI_add]
      exact rdM T.rm 12 b (fd 12 rfl) hb6 (by simp only [lyM]; omega)
    rw [e1, e2, Option.bind_some, Option.bind_some, if_neg n10, if_neg n10, r1, r2]
    exact An_good h _
theorem rdw {K : Nat} {w : Nat → Int} {M : Mm} (h : WyM K w M) (j : Nat) {z : Int} (hj : j < 37) (hz : z = j) : rd (M.1 K) 37 (iI z) = some (iI (w j)) := by
  subst hz
  rw [rd_iI (by omega) (by omega) (by decide), Int.toNat_natCast, h j hj]
theorem rdc {q : Nat} {w : Nat → Int} {X : Mm} (h : WyX q w X) (j : Nat) {z : Int} (hj : j < 18) (hz : z = j) : rd (X.1 (q + 1)) 18 (iI z) = some (iI (w j)) := by
  subst hz
  rw [rd_iI (by omega) (by omega) (by decide), Int.toNat_natCast, h.1 j hj]
theorem rdt {q : Nat} {w : Nat → Int} {X : Mm} (h : WyX q w X) (j : Nat) {z : Int} (hj : j < 18) (hz : z = j) : rd (X.1 (q + 2)) 18 (iI z) = some (iI (w (18 + j))) := by
  subst hz
  rw [rd_iI (by omega) (by omega) (by decide), Int.toNat_natCast, h.2.1 j hj]
theorem R_timeOf {X M : Mm} (h0 : Rel X M) (p p2 : Int32) : An (f_P_timeOf_0 p p2 X) (f_M_timeOf_0 p p2 M) := by
  unfold f_P_timeOf_0 f_M_timeOf_0
  rw [Option.bind_some]
  have h := h0.th 0
  generalize u1 M 0 0 0 = N at h
  rcases h.bench p with ⟨e1, e2⟩ | ⟨C, w, S, Q, b, rfl, hb, e1, e2, t1, t2, T⟩
  · rw [e1, e2, Option.bind_some, Option.bind_some, if_pos rfl, if_pos rfl]; exact An_ref h 1
  · have hb6 := sz6 T.1 hb
    have hk3 := T.1.2.1
    rw [e1, e2, Option.bind_some, Option.bind_some, if_neg n10, if_neg n10]
    rcases isK p2 t1 t2 T.1 T.2.1 T.2.2.1 with ⟨e1, e2⟩ | ⟨k, rfl, hk, e1, e2⟩
    · rw [e1, e2, Option.bind_some, Option.bind_some, if_pos rfl, if_pos rfl]; exact An_ref h 1
    · have rc : f_P_cell (iI (b : Int)) (iI (k : Int)) = some (iI (3 * b + k)) := by unfold f_P_cell; rw [ixc]
      have r1 : rd (X.1 34) 18 (iI (3 * (b : Int) + k)) = some (iI (w (18 + (3 * b + k)))) := rdt T.wx (3 * b + k) (by omega) (by omega)
      have r2 : rd (N.1 10) 37 ((18 + 3 * iI (b : Int)) + iI (k : Int)) = some (iI (w (18 + (3 * b + k)))) := by
        rw [show (18 : Int32) = iI 18 from rfl, l3, iI_mul, iI_add, iI_add]
        exact rdw T.wm (18 + (3 * b + k)) (by omega) (by omega)
      rw [e1, e2, Option.bind_some, Option.bind_some, if_neg n10, if_neg n10, rc, Option.bind_some, r1, r2]
      exact An_good h _
theorem R_stream {X M : Mm} (h0 : Rel X M) (p p2 : Int32) : An (f_P_stream_0 p p2 X) (f_M_stream_0 p p2 M) := by
  unfold f_P_stream_0 f_M_stream_0
  rw [Option.bind_some]
  have h := h0.th 0
  generalize u1 M 0 0 0 = N at h
  rcases h.told with ⟨t1, t2⟩ | ⟨t1, t2, C, w, S, Q, T⟩
  · rw [if_pos t1, if_pos t2]; exact An_ref h 1
  · have hs0 := T.1.2.2.2.2.1
    have hs4 := T.1.2.2.2.2.2.1
    rw [if_neg t1, if_neg t2, T.2.1.2.2.1, T.2.2.1.2.2.1, in_wi, in_wi, l1, iI_sub, ← l1]
    rcases wi (p := p) (n := C 0 2 - 1) (by omega) (by omega) with ⟨i, rfl, hi, e⟩ | ⟨e, -⟩
    · rw [e, Option.bind_some, Option.bind_some, if_neg n10, if_neg n10, show (2 : Int32) = iI 2 from rfl]
      rcases wi (p := p2) (n := 2) (by omega) (by omega) with ⟨c, rfl, hc, e⟩ | ⟨e, -⟩
      · rw [e, Option.bind_some, Option.bind_some, if_neg n10, if_neg n10]
        have hX := T.2.1.2.2.2.2 i (by omega) (by omega)
        have hM := T.2.2.1.2.2.2.2 i (by omega) (by omega)
        have g : ∀ (f : Nat → Int32) (n : Nat), i < n → n < 100 → rd f n (iI (i : Int)) = some (f i) := fun f n h1 h2 => by
          rw [rd_iI (by omega) (by omega) (by omega), Int.toNat_natCast]
        rw [g _ 4 (by omega) (by omega), g _ 4 (by omega) (by omega), g _ 4 (by omega) (by omega), g _ 8 (by omega) (by omega), g _ 8 (by omega) (by omega), g _ 8 (by omega) (by omega), hX.1, hX.2.1, hX.2.2, hM.1, hM.2.1, hM.2.2]
        exact An_if Iff.rfl (fun _ => An_good h _) (fun _ => An_if Iff.rfl (fun _ => An_good h _) (fun _ => An_good h _))
      · rw [e, Option.bind_some, Option.bind_some, if_pos rfl, if_pos rfl]; exact An_ref h 1
    · rw [e, Option.bind_some, Option.bind_some, if_pos rfl, if_pos rfl]; exact An_ref h 1
theorem atS {C : SS} {S Q : SS} {M : Mm} {b k : Nat} (hO : CfgOk C) (h : RelM 15 S Q M) (A : AvS C S) (hb : (b : Int) < C 0 1) (hk : (k : Int) < C 0 0) : f_M_atWork_0_15 (iI b) (iI k) M = some (iI (S 15 (3 * b + k) - S 4 (3 * b + k))) := by
  have hb6 := sz6 hO hb
  have hk3 := hO.2.1
  obtain ⟨a1, a2, a3, a4, -⟩ := A.1 b hb
  obtain ⟨s1, s2, s3⟩ := A.2 b k hb hk
  unfold f_M_atWork_0_15 f_M_of
  rw [l0, ix3, l1, ix3, Option.bind_some, Option.bind_some]
  have r0 : rd (M.1 15) 99 (iI (3 + 9 * (b : Int) + 0)) = some (iI (S 0 b)) := rdM h 0 b (fd 0 rfl) hb6 (by simp only [lyM]; omega)
  have r1 : rd (M.1 15) 99 (iI (3 + 9 * (b : Int) + 1)) = some (iI (S 17 b)) := rdM h 17 b (fd 17 rfl) hb6 (by simp only [lyM]; omega)
  have c1 : (iI (S 0 b) = iI 1) ↔ S 0 b = 1 := iI_eq (by omega) (by omega) (by omega) (by omega)
  have c2 : (iI (S 17 b) = iI (k : Int)) ↔ S 17 b = k := iI_eq (by split at a4 <;> omega) (by split at a4 <;> omega) (by omega) (by omega)
  rw [r0, Option.bind_some, r1]
  by_cases e0 : S 0 b = 1
  · rw [if_pos (c1.mpr e0), Option.bind_some]
    rw [if_pos e0] at a4
    by_cases e1 : S 2 b = k
    · rw [if_pos (c2.mpr (a4.trans e1)), s2, if_pos ⟨e0, e1⟩]; congr 2; omega
    · rw [if_neg (fun q => e1 (a4.symm.trans (c2.mp q))), s2, if_neg (fun q => e1 q.2)]; congr 2; omega
  · rw [if_neg (fun q => e0 (c1.mp q)), s2, if_neg (fun q => e0 q.1)]; congr 2; omega
theorem R_cardsOf {X M : Mm} (h0 : Rel X M) (p p2 p3 : Int32) : An (f_P_cardsOf_0 p p2 p3 X) (f_M_cardsOf_0 p p2 p3 M) := by
  unfold f_P_cardsOf_0 f_M_cardsOf_0
  rw [Option.bind_some]
  have h := h0.th 0
  generalize u1 M 0 0 0 = N at h
  rcases h.bench p with ⟨e1, e2⟩ | ⟨C, w, S, Q, b, rfl, hb, e1, e2, t1, t2, T⟩
  · rw [e1, e2, Option.bind_some, Option.bind_some, if_pos rfl, if_pos rfl]; exact An_ref h 1
  · have hb6 := sz6 T.1 hb
    have hk3 := T.1.2.1
    rw [e1, e2, Option.bind_some, Option.bind_some, if_neg n10, if_neg n10]
    rcases isK p2 t1 t2 T.1 T.2.1 T.2.2.1 with ⟨e1, e2⟩ | ⟨k, rfl, hk, e1, e2⟩
    · rw [e1, e2, Option.bind_some, Option.bind_some, if_pos rfl, if_pos rfl]; exact An_ref h 1
    · rw [e1, e2, Option.bind_some, Option.bind_some, if_neg n10, if_neg n10, in_wi, show (3 : Int32) = iI 3 from rfl]
      rcases wi (p := p3) (n := 3) (by omega) (by omega) with ⟨c, rfl, hc, e⟩ | ⟨e, -⟩
      · rw [e, Option.bind_some, Option.bind_some, if_neg n10, if_neg n10, ← l3]
        have rc : f_P_cell (iI (b : Int)) (iI (k : Int)) = some (iI (3 * b + k)) := by unfold f_P_cell; rw [ixc]
        have rs : f_M_store (iI (b : Int)) (iI (k : Int)) = some (iI (57 + 3 * b + k)) := by unfold f_M_store; rw [ix57]
        have r1 : rd (X.1 33) 18 (iI (3 * (b : Int) + k)) = some (iI (w (3 * b + k))) := rdc T.wx (3 * b + k) (by omega) (by omega)
        have r2 : rd (N.1 10) 37 ((3 * iI (b : Int)) + iI (k : Int)) = some (iI (w (3 * b + k))) := by
          rw [ixc]
          exact rdw T.wm (3 * b + k) (by omega) (by omega)
        have r3 : rd (X.1 36) 18 (iI (3 * (b : Int) + k)) = some (iI (S 4 (3 * b + k))) := T.rx.rd 4 (3 * b + k) (fx 4 rfl) (by decide) (by simp only [szX]; omega) (by simp only [ixX]; omega)
        have r4 : rd (X.1 37) 18 (iI (3 * (b : Int) + k)) = some (iI (S 15 (3 * b + k))) := T.rx.rd 15 (3 * b + k) (fx 15 rfl) (by decide) (by simp only [szX]; omega) (by simp only [ixX]; omega)
        have r5 : rd (N.1 15) 99 (iI (57 + 3 * (b : Int) + k)) = some (iI (S 4 (3 * b + k))) := rdM T.rm 4 (3 * b + k) (fd 4 rfl) (by simp only [szS]; omega) (by simp only [lyM]; omega)
        have r6 := X_free_35 (b := b) (k := k) T.1 T.rx T.wx T.wo hb hk T.bd.1
        have r7 := M_free_15 (b := b) (k := k) T.1 T.rm T.wm T.wo hb hk T.bd.1
        rw [rc, Option.bind_some]
        refine An_if Iff.rfl (fun _ => ?_) (fun _ => An_if Iff.rfl (fun _ => ?_) (fun _ => An_if Iff.rfl (fun _ => ?_) (fun _ => ?_)))
        · rw [r1, r2]; exact An_good h _
        · rw [rs, Option.bind_some, r5, r3]; exact An_good h _
        · rw [r4, r3, Option.bind_some, Option.bind_some, iI_sub, atS T.1 T.rm T.bd.1 hb hk]; exact An_good h _
        · rw [r6, r7]; exact An_good h _
      · rw [e, Option.bind_some, Option.bind_some, if_pos rfl, if_pos rfl]; exact An_ref h 1
theorem R_does {X M : Mm} (h0 : Rel X M) (p p2 : Int32) : An (f_P_does_0 p p2 X) (f_M_does_0 p p2 M) := by
  unfold f_P_does_0 f_M_does_0
  rw [Option.bind_some]
  have h := h0.th 0
  generalize u1 M 0 0 0 = N at h
  rcases h.bench p with ⟨e1, e2⟩ | ⟨C, w, S, Q, b, rfl, hb, e1, e2, t1, t2, T⟩
  · rw [e1, e2, Option.bind_some, Option.bind_some, if_pos rfl, if_pos rfl]; exact An_ref h 1
  · have hb6 := sz6 T.1 hb
    rw [e1, e2, Option.bind_some, Option.bind_some, if_neg n10, if_neg n10, in_wi, show (3 : Int32) = iI 3 from rfl]
    rcases wi (p := p2) (n := 3) (by omega) (by omega) with ⟨c, rfl, hc, e⟩ | ⟨e, -⟩
    · rw [e, Option.bind_some, Option.bind_some, if_neg n10, if_neg n10]
      obtain ⟨a1, a2, a3, a4, a5, a6⟩ := T.bd.1.1 b hb
      have r0 : rd (X.1 38) 6 (iI (b : Int)) = some (iI (S 0 b)) := T.rx.rd 0 b (fx 0 rfl) (by decide) hb6 rfl
      have r1 : rd (X.1 40) 6 (iI (b : Int)) = some (iI (S 1 b)) := T.rx.rd 1 b (fx 1 rfl) (by decide) hb6 rfl
      have r2 : rd (X.1 39) 6 (iI (b : Int)) = some (iI (S 2 b)) := T.rx.rd 2 b (fx 2 rfl) (by decide) hb6 rfl
      have v14 : X.1 35 14 = iI (S 14 0) := T.rx.1 14 0 (fx 14 rfl) (by decide)
      have m0 : rd (N.1 15) 99 (iI (3 + 9 * (b : Int) + 0)) = some (iI (S 0 b)) := rdM T.rm 0 b (fd 0 rfl) hb6 (by simp only [lyM]; omega)
      have m17 : rd (N.1 15) 99 (iI (3 + 9 * (b : Int) + 1)) = some (iI (S 17 b)) := rdM T.rm 17 b (fd 17 rfl) hb6 (by simp only [lyM]; omega)
      have m1 : rd (N.1 15) 99 (iI (3 + 9 * (b : Int) + 2)) = some (iI (S 1 b)) := rdM T.rm 1 b (fd 1 rfl) hb6 (by simp only [lyM]; omega)
      have m2 : rd (N.1 15) 99 (iI (3 + 9 * (b : Int) + 3)) = some (iI (S 2 b)) := rdM T.rm 2 b (fd 2 rfl) hb6 (by simp only [lyM]; omega)
      have m14 : rd (N.1 15) 99 (iI 0) = some (iI (S 14 0)) := rdM T.rm 14 0 (fd 14 rfl) (by decide) rfl
      have o0 : f_M_of (iI (b : Int)) 0 = some (iI (3 + 9 * b + 0)) := by unfold f_M_of; rw [l0, ix3]
      have o1 : f_M_of (iI (b : Int)) 1 = some (iI (3 + 9 * b + 1)) := by unfold f_M_of; rw [l1, ix3]
      have o2 : f_M_of (iI (b : Int)) 2 = some (iI (3 + 9 * b + 2)) := by unfold f_M_of; rw [l2, ix3]
      have o3 : f_M_of (iI (b : Int)) 3 = some (iI (3 + 9 * b + 3)) := by unfold f_M_of; rw [← ix3 (b : Int) 3, ← l3]
      have c0 : (iI (S 0 b) = 0) ↔ S 0 b = 0 := by rw [l0]; exact iI_eq (by omega) (by omega) (by omega) (by omega)
      have c1 : (iI (S 0 b) = 1) ↔ S 0 b = 1 := by rw [l1]; exact iI_eq (by omega) (by omega) (by omega) (by omega)
      rw [o0, Option.bind_some, m0, Option.bind_some]
      refine An_if Iff.rfl (fun _ => ?_) (fun _ => An_if Iff.rfl (fun _ => ?_) (fun _ => An_if Iff.rfl (fun _ => ?_) (fun _ => ?_)))
      · rw [r0]; exact An_good h _
      · rw [o1, Option.bind_some, m17, r0, Option.bind_some, Option.bind_some, a4]
        by_cases e1 : S 0 b = 1
        · rw [if_pos (c1.mpr e1), if_pos e1, r2]; exact An_good h _
        · rw [if_neg (fun q => e1 (c1.mp q)), if_neg e1]; exact An_good h _
      · unfold f_L_minutesLeft_35
        rw [r0, Option.bind_some]
        by_cases e0 : S 0 b = 0
        · rw [if_pos (c0.mpr e0), if_pos (c0.mpr e0)]; exact An_good h _
        · rw [if_neg (fun q => e0 (c0.mp q)), if_neg (fun q => e0 (c0.mp q)), r1, o2, Option.bind_some, Option.bind_some, Option.bind_some, m1, v14, Option.bind_some, l0, m14]; exact An_good h _
      · rw [show (iI 3 : Int32) = 3 from l3.symm, o3, Option.bind_some, m2, r2]; exact An_good h _
    · rw [e, Option.bind_some, Option.bind_some, if_pos rfl, if_pos rfl]; exact An_ref h 1
theorem R_counts {X M : Mm} (h0 : Rel X M) (p p2 : Int32) : An (f_P_counts_0 p p2 X) (f_M_counts_0 p p2 M) := by
  unfold f_P_counts_0 f_M_counts_0
  rw [Option.bind_some]
  have h := h0.th 0
  generalize u1 M 0 0 0 = N at h
  rcases h.bench p with ⟨e1, e2⟩ | ⟨C, w, S, Q, b, rfl, hb, e1, e2, t1, t2, T⟩
  · rw [e1, e2, Option.bind_some, Option.bind_some, if_pos rfl, if_pos rfl]; exact An_ref h 1
  · have hb6 := sz6 T.1 hb
    rw [e1, e2, Option.bind_some, Option.bind_some, if_neg n10, if_neg n10, in_wi, show (4 : Int32) = iI 4 from rfl]
    rcases wi (p := p2) (n := 4) (by omega) (by omega) with ⟨c, rfl, hc, e⟩ | ⟨e, -⟩
    · rw [e, Option.bind_some, Option.bind_some, if_neg n10, if_neg n10]
      have o0 : f_M_of (iI (b : Int)) (iI 4 + iI (c : Int)) = some (iI (3 + 9 * b + (4 + c))) := by unfold f_M_of; rw [iI_add, ix3]
      have c0 : (iI (c : Int) = 0) ↔ c = 0 := by rw [l0, iI_eq (by omega) (by omega) (by omega) (by omega)]; omega
      rw [o0, Option.bind_some]
      by_cases ec : c = 0
      · have r : rd (X.1 41) 6 (iI (b : Int)) = some (iI (S 3 b)) := T.rx.rd 3 b (fx 3 rfl) (by decide) hb6 rfl
        have m : rd (N.1 15) 99 (iI (3 + 9 * (b : Int) + (4 + c))) = some (iI (S 3 b)) := rdM T.rm 3 b (fd 3 rfl) hb6 (by simp only [lyM]; omega)
        rw [if_pos (c0.mpr ec), r, m]; exact An_good h _
      · rw [if_neg (fun q => ec (c0.mp q))]
        unfold f_L_minutesOf_35
        rw [l1, iI_sub, l4, iI_mul, iI_add]
        obtain ⟨f, hf, r, m⟩ : ∃ f : Nat, (c : Int) = f - 6 ∧ rd (X.1 42) 24 (iI (4 * (b : Int) + ((c : Int) - 1))) = some (iI (S f b)) ∧ rd (N.1 15) 99 (iI (3 + 9 * (b : Int) + (4 + c))) = some (iI (S f b)) := by
          have : c = 1 ∨ c = 2 ∨ c = 3 ∨ c = 4 := by omega
          rcases this with rfl | rfl | rfl | rfl
          · exact ⟨7, rfl, T.rx.rd 7 b (fx 7 rfl) (by decide) hb6 (by simp only [ixX]; omega), rdM T.rm 7 b (fd 7 rfl) hb6 (by simp only [lyM]; omega)⟩
          · exact ⟨8, rfl, T.rx.rd 8 b (fx 8 rfl) (by decide) hb6 (by simp only [ixX]; omega), rdM T.rm 8 b (fd 8 rfl) hb6 (by simp only [lyM]; omega)⟩
          · exact ⟨9, rfl, T.rx.rd 9 b (fx 9 rfl) (by decide) hb6 (by simp only [ixX]; omega), rdM T.rm 9 b (fd 9 rfl) hb6 (by simp only [lyM]; omega)⟩
          · exact ⟨10, rfl, T.rx.rd 10 b (fx 10 rfl) (by decide) hb6 (by simp only [ixX]; omega), rdM T.rm 10 b (fd 10 rfl) hb6 (by simp only [lyM]; omega)⟩
        rw [r, m]; exact An_good h _
    · rw [e, Option.bind_some, Option.bind_some, if_pos rfl, if_pos rfl]; exact An_ref h 1
theorem R_starved {X M : Mm} (h0 : Rel X M) (p : Int32) : An (f_P_starved_0 p X) (f_M_starved_0 p M) := by
  unfold f_P_starved_0 f_M_starved_0
  rw [Option.bind_some]
  have h := h0.th 0
  generalize u1 M 0 0 0 = N at h
  rcases h.told with ⟨t1, t2⟩ | ⟨t1, t2, C, w, S, Q, T⟩
  · rw [if_pos t1, if_pos t2]; exact An_ref h 1
  · rw [if_neg t1, if_neg t2, in_wi]
    rcases wi (p := p) (n := 1) (by omega) (by omega) with ⟨c, rfl, hc, e⟩ | ⟨e, -⟩
    · rw [← l1] at e
      have v1 : X.1 35 16 = iI (S 14 1) := T.rx.1 14 1 (fx 14 rfl) (by decide)
      have v2 : X.1 35 17 = iI (S 14 2) := T.rx.1 14 2 (fx 14 rfl) (by decide)
      have g : ∀ n : Nat, n < 99 → rd (N.1 15) 99 (iI (n : Int)) = some (N.1 15 n) := fun n h1 => by
        rw [rd_iI (by omega) (by omega) (by omega), Int.toNat_natCast]
      have g1 : rd (N.1 15) 99 1 = some (iI (if S 14 1 = -2 then -1 else S 14 1)) := by rw [l1]; exact (g 1 (by omega)).trans (congrArg some T.rm.2.1)
      have hb := T.bd.2.2.2.2.1
      have hm := T.mi
      have c1 : (iI (S 14 1) = -2) ↔ S 14 1 = -2 := by rw [lm2]; exact iI_eq (by omega) (by omega) (by omega) (by omega)
      rw [e, Option.bind_some, Option.bind_some, if_neg n10, if_neg n10, g1, Option.bind_some, v1, v2]
      by_cases e1 : S 14 1 = -2
      · rw [if_pos (c1.mpr e1), if_pos e1, if_pos (by decide)]; exact An_ref h 6
      · have c2 : ¬ (iI (S 14 1) = -1) := by rw [lm1, iI_eq (by omega) (by omega) (by omega) (by omega)]; omega
        have g2 : rd (N.1 15) 99 2 = some (iI (S 14 2)) := by rw [l2]; exact (g 2 (by omega)).trans (congrArg some (T.rm.2.2.1 e1))
        rw [if_neg (fun q => e1 (c1.mp q)), if_neg e1, if_neg c2, g2]
        exact An_if Iff.rfl (fun _ => An_good h _) (fun _ => An_good h _)
    · rw [← l1] at e
      rw [e, Option.bind_some, Option.bind_some, if_pos rfl, if_pos rfl]; exact An_ref h 1
/-! sums -/
def sm (f : Nat → Int) : Nat → Int
  | 0 => 0
  | n + 1 => sm f n + f n
def smr (f : Nat → Int) (b : Nat) : Nat → Int
  | 0 => 0
  | k + 1 => smr f b k + f (3 * b + k)
def smB (f : Nat → Int) (K : Nat) : Nat → Int
  | 0 => 0
  | b + 1 => smB f K b + smr f b K
theorem smr_0 {f : Nat → Int} {b K : Nat} (h : ∀ k, K ≤ k → k < 3 → f (3 * b + k) = 0) : ∀ n, K + n ≤ 3 → smr f b (K + n) = smr f b K
  | 0, _ => rfl
  | n + 1, hn => by
    show smr f b (K + n) + f (3 * b + (K + n)) = _
    rw [smr_0 h n (by omega), h (K + n) (by omega) (by omega)]; omega
theorem smB_sm (f : Nat → Int) : ∀ b, smB f 3 b = sm f (3 * b)
  | 0 => rfl
  | b + 1 => by
    show smB f 3 b + (((0 + f (3 * b + 0)) + f (3 * b + 1)) + f (3 * b + 2)) = ((sm f (3 * b) + f (3 * b)) + f (3 * b + 1)) + f (3 * b + 2)
    rw [smB_sm f b]
    show _ + (((0 + f (3 * b)) + _) + _) = _
    omega
theorem smr_z {f : Nat → Int} {b : Nat} : ∀ K, (∀ k, k < K → f (3 * b + k) = 0) → smr f b K = 0
  | 0, _ => rfl
  | K + 1, h => by
    show smr f b K + f (3 * b + K) = 0
    rw [smr_z K (fun k hk => h k (by omega)), h K (by omega)]; rfl
theorem smB_e {f : Nat → Int} {B K : Nat} (hB : B ≤ 6) (hK : K ≤ 3) (h : ∀ b k, b < 6 → k < 3 → ¬ (b < B ∧ k < K) → f (3 * b + k) = 0) : sm f 18 = smB f K B := by
  have e1 : ∀ b, b ≤ 6 → smB f 3 b = smB f K b := by
    intro b
    induction b with
    | zero => intro _; rfl
    | succ b ih =>
      intro hb
      show smB f 3 b + smr f b 3 = smB f K b + smr f b K
      have := smr_0 (f := f) (b := b) (K := K) (fun k h1 h2 => h b k (by omega) h2 (by omega)) (3 - K) (by omega)
      rw [show K + (3 - K) = 3 by omega] at this
      rw [ih (by omega), this]
  have e2 : ∀ n, B + n ≤ 6 → smB f K (B + n) = smB f K B := by
    intro n
    induction n with
    | zero => intro _; rfl
    | succ n ih =>
      intro hn
      show smB f K (B + n) + smr f (B + n) K = _
      rw [ih (by omega), smr_z K (fun k hk => h (B + n) k (by omega) (by omega) (by omega))]; omega
  have e3 := e2 (6 - B) (by omega)
  rw [show B + (6 - B) = 6 by omega] at e3
  rw [← e3, ← e1 6 (by omega)]
  exact (smB_sm f 6).symm
theorem X_allCards {w : Nat → Int} {X : Mm} (h : WyX 32 w X) : f_V_allCards_32 X = some (iI (sm w 18)) := by
  have loop := loop_up (σ := Int32 × Int32) (γ := Option Int32) (fun n s => lp_V_allCards_32_4 n s.1 s.2 X) 18 (fun i s => s.1 = iI (sm w i) ∧ s.2 = iI (i : Int)) (fun s => some s.1) ?_ ?_ FW (FW_gt (by omega)) (iI 0, iI 0) ⟨rfl, rfl⟩
  · obtain ⟨s', hs, e⟩ := loop
    have e0 : f_V_allCards_32 X = lp_V_allCards_32_4 FW (iI 0) (iI 0) X := by unfold f_V_allCards_32; rw [l0]
    rw [e0]
    exact e.trans (by rw [hs.1])
  · rintro n i ⟨x3, x4⟩ hi ⟨e3, e4⟩
    dsimp only at e3 e4
    subst e3; subst e4
    refine ⟨(iI (sm w (i + 1)), iI ((i + 1 : Nat) : Int)), ?_, rfl, rfl⟩
    show blp_V_allCards_32_4 (lp_V_allCards_32_4 n) _ _ X = lp_V_allCards_32_4 n _ _ X
    unfold blp_V_allCards_32_4
    have c0 : (18 ≤ iI (i : Int)) ↔ 18 ≤ (i : Int) := by rw [show (18 : Int32) = iI 18 from rfl]; exact iI_le (by omega) (by omega) (by omega) (by omega)
    have r : rd (X.1 33) 18 (iI (i : Int)) = some (iI (w i)) := rdc h i hi rfl
    rw [if_neg (fun q => by have := c0.mp q; omega), r, Option.bind_some, iI_add, l1, iI_add]
    rfl
  · rintro n ⟨x3, x4⟩ ⟨e3, e4⟩
    dsimp only at e3 e4
    subst e3; subst e4
    rfl
theorem X_allHeld {S : SS} {tt : Int} {X : Mm} (h : RelX 35 S tt X) : f_L_allHeld_35 X = some (iI (sm (S 15) 18)) := by
  have loop := loop_up (σ := Int32 × Int32) (γ := Option Int32) (fun n s => lp_L_allHeld_35_4 n s.1 s.2 X) 18 (fun i s => s.1 = iI (sm (S 15) i) ∧ s.2 = iI (i : Int)) (fun s => some s.1) ?_ ?_ FW (FW_gt (by omega)) (iI 0, iI 0) ⟨rfl, rfl⟩
  · obtain ⟨s', hs, e⟩ := loop
    have e0 : f_L_allHeld_35 X = lp_L_allHeld_35_4 FW (iI 0) (iI 0) X := by unfold f_L_allHeld_35; rw [l0]
    rw [e0]
    exact e.trans (by rw [hs.1])
  · rintro n i ⟨x3, x4⟩ hi ⟨e3, e4⟩
    dsimp only at e3 e4
    subst e3; subst e4
    refine ⟨(iI (sm (S 15) (i + 1)), iI ((i + 1 : Nat) : Int)), ?_, rfl, rfl⟩
    show blp_L_allHeld_35_4 (lp_L_allHeld_35_4 n) _ _ X = lp_L_allHeld_35_4 n _ _ X
    unfold blp_L_allHeld_35_4
    have c0 : (18 ≤ iI (i : Int)) ↔ 18 ≤ (i : Int) := by rw [show (18 : Int32) = iI 18 from rfl]; exact iI_le (by omega) (by omega) (by omega) (by omega)
    have r : rd (X.1 37) 18 (iI (i : Int)) = some (iI (S 15 i)) := h.rd 15 i (fx 15 rfl) (by decide) hi rfl
    rw [if_neg (fun q => by have := c0.mp q; omega), r, Option.bind_some, iI_add, l1, iI_add]
    rfl
  · rintro n ⟨x3, x4⟩ ⟨e3, e4⟩
    dsimp only at e3 e4
    subst e3; subst e4
    rfl
theorem X_timesAt {w : Nat → Int} {X : Mm} {b : Nat} (h : WyX 32 w X) (hb : b < 6) : f_V_timesAt_32 (iI b) X = some (iI (smr (fun c => w (18 + c)) b 3)) := by
  have loop := loop_up (σ := Int32 × Int32) (γ := Option Int32) (fun n s => lp_V_timesAt_32_4 n (iI b) s.1 s.2 X) 3 (fun i s => s.1 = iI (smr (fun c => w (18 + c)) b i) ∧ s.2 = iI (i : Int)) (fun s => some s.1) ?_ ?_ FW (FW_gt (by omega)) (iI 0, iI 0) ⟨rfl, rfl⟩
  · obtain ⟨s', hs, e⟩ := loop
    have e0 : f_V_timesAt_32 (iI b) X = lp_V_timesAt_32_4 FW (iI b) (iI 0) (iI 0) X := by unfold f_V_timesAt_32; rw [l0]
    rw [e0]
    exact e.trans (by rw [hs.1])
  · rintro n i ⟨x3, x4⟩ hi ⟨e3, e4⟩
    dsimp only at e3 e4
    subst e3; subst e4
    refine ⟨(iI (smr (fun c => w (18 + c)) b (i + 1)), iI ((i + 1 : Nat) : Int)), ?_, rfl, rfl⟩
    show blp_V_timesAt_32_4 (lp_V_timesAt_32_4 n) _ _ _ X = lp_V_timesAt_32_4 n _ _ _ X
    unfold blp_V_timesAt_32_4
    have c0 : (3 ≤ iI (i : Int)) ↔ 3 ≤ (i : Int) := by rw [l3]; exact iI_le (by omega) (by omega) (by omega) (by omega)
    have rc : f_P_cell (iI (b : Int)) (iI (i : Int)) = some (iI (3 * b + i)) := by unfold f_P_cell; rw [ixc]
    have r : rd (X.1 34) 18 (iI (3 * (b : Int) + i)) = some (iI (w (18 + (3 * b + i)))) := rdt h (3 * b + i) (by omega) (by omega)
    rw [if_neg (fun q => by have := c0.mp q; omega), rc, Option.bind_some, r, Option.bind_some, iI_add, l1, iI_add]
    rfl
  · rintro n ⟨x3, x4⟩ ⟨e3, e4⟩
    dsimp only at e3 e4
    subst e3; subst e4
    rfl

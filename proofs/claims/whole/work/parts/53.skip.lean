/-! on paper: minutes in which nothing happens. Two runs alike in all but the counting -/
def coF (i : Nat) : Prop := i ≤ 6 ∨ i = 12 ∨ (15 ≤ i ∧ i ≤ 17)
theorem cf (i : Nat) (h : decide (i ≤ 6 ∨ i = 12 ∨ (15 ≤ i ∧ i ≤ 17)) = true) : coF i := by unfold coF; exact of_decide_eq_true h
def Cq (S T : SS) : Prop := (∀ i j, coF i → T i j = S i j) ∧ T 14 0 = S 14 0
theorem Cq.rf {S : SS} : Cq S S := ⟨fun _ _ _ => rfl, rfl⟩
theorem Cq.sy {S T : SS} (h : Cq S T) : Cq T S := ⟨fun i j hi => (h.1 i j hi).symm, h.2.symm⟩
theorem Cq.tr {S T U : SS} (h : Cq S T) (h2 : Cq T U) : Cq S U := ⟨fun i j hi => (h2.1 i j hi).trans (h.1 i j hi), h2.2.trans h.2⟩
theorem Cq.u {S T : SS} (h : Cq S T) {i j : Nat} {z z2 : Int} (hz : z2 = z) (hi : coF i ∨ (i = 14 ∧ j = 0)) : Cq (uS S i j z) (uS T i j z2) := by
  subst hz
  refine ⟨fun a b ha => ?_, ?_⟩
  · unfold uS
    split
    · rfl
    · exact h.1 a b ha
  · unfold uS
    split
    · rfl
    · exact h.2
theorem Cq_end {C S T : SS} {b : Nat} (h : Cq S T) : Cq (endS C b S) (endS C b T) := by
  have e0 := h.1 0 b (cf 0 rfl)
  have e1 := h.1 1 b (cf 1 rfl)
  have e2 := h.1 2 b (cf 2 rfl)
  have e3 := h.1 3 b (cf 3 rfl)
  unfold endS
  rw [e0, e1, h.2, e2, e3, h.1 4 _ (cf 4 rfl)]
  split
  · exact h
  · split
    · exact h.u rfl (Or.inl (cf 0 rfl))
    · split
      · exact (((h.u rfl (Or.inl (cf 4 rfl))).u rfl (Or.inl (cf 3 rfl))).u rfl (Or.inl (cf 0 rfl))).u rfl (Or.inl (cf 17 rfl))
      · exact ((((h.u rfl (Or.inl (cf 4 rfl))).u rfl (Or.inl (cf 3 rfl))).u rfl (Or.inl (cf 17 rfl))).u rfl (Or.inl (cf 0 rfl))).u rfl (Or.inl (cf 1 rfl))
theorem Cq_up {S T : SS} {f : Nat → SS → SS} (hf : ∀ b S T, Cq S T → Cq (f b S) (f b T)) (h : Cq S T) : ∀ n, Cq (upF f n S) (upF f n T)
  | 0 => h
  | n + 1 => hf n _ _ (Cq_up hf h n)
theorem Cq_dn {f : Nat → SS → SS} (hf : ∀ b S T, Cq S T → Cq (f b S) (f b T)) : ∀ (n : Nat) (S T : SS), Cq S T → Cq (dnF f n S) (dnF f n T)
  | 0, _, _, h => h
  | n + 1, S, T, h => Cq_dn hf n _ _ (hf n S T h)
theorem Cq_srv {C S T : SS} {n : Nat} (h : Cq S T) : Cq (srvS C n S) (srvS C n T) := by
  have d : ∀ k, dvS C T k = dvS C S k := fun k => by
    unfold dvS
    rw [h.1 5 k (cf 5 rfl), h.2, h.1 6 k (cf 6 rfl), h.1 4 _ (cf 4 rfl)]
  refine ⟨fun a b ha => ?_, ?_⟩
  · unfold srvS
    rw [h.2, d b, d (b - 3 * ((C 0 1).toNat - 1)), h.1 5 b (cf 5 rfl), h.1 6 b (cf 6 rfl), h.1 16 b (cf 16 rfl), h.1 12 b (cf 12 rfl), h.1 a b ha]
  · unfold srvS
    rw [if_neg (by omega), if_neg (by omega), if_neg (by omega), if_neg (by omega), if_neg (by omega), if_neg (by omega), if_neg (by omega), if_neg (by omega), if_neg (by omega), if_neg (by omega)]
    exact h.2
theorem fr_eq {w : Nat → Int} {S T : SS} (h : ∀ i j, coF i → T i j = S i j) (b k : Nat) : frS w T b k = frS w S b k := by unfold frS; rw [h 15 _ (cf 15 rfl)]
theorem ki_eq {C : SS} {w : Nat → Int} {S T : SS} (h : ∀ i j, coF i → T i j = S i j) (b i : Nat) : kiS C w T b i = kiS C w S b i := by unfold kiS; rw [h 2 b (cf 2 rfl)]
theorem be_eq {C : SS} {w : Nat → Int} {S T : SS} (h : ∀ i j, coF i → T i j = S i j) (b : Nat) : ∀ n, beS C w T b n = beS C w S b n
  | 0 => rfl
  | n + 1 => by
    unfold beS
    rw [be_eq h b n, ki_eq h]
    have av : avS w T b (kiS C w S b n) ↔ avS w S b (kiS C w S b n) := by
      unfold avS
      rw [fr_eq h, h 4 _ (cf 4 rfl)]
    by_cases e : avS w S b (kiS C w S b n)
    · rw [if_pos (av.mpr e), if_pos e]
      cases beS C w S b n with
      | none => rfl
      | some q => dsimp only; rw [fr_eq h, fr_eq h]
    · rw [if_neg (fun q => e (av.mp q)), if_neg e]
theorem Cq_sta {C : SS} {w : Nat → Int} {b : Nat} {S T : SS} (h : Cq S T) : Cq (staS C w b S) (staS C w b T) := by
  unfold staS
  rw [h.1 0 b (cf 0 rfl), be_eq h.1]
  split
  · cases beS C w S b (C 0 0).toNat with
    | none => exact h
    | some k =>
      dsimp only
      have ht : Cq (takS b k S) (takS b k T) := by
        unfold takS
        split
        · exact h
        · exact (h.u (by rw [h.1 4 _ (cf 4 rfl)]) (Or.inl (cf 4 rfl))).u (by rw [h.1 15 _ (cf 15 rfl)]) (Or.inl (cf 15 rfl))
      unfold begS
      exact ((((ht.u (by rw [h.1 15 _ (cf 15 rfl)]) (Or.inl (cf 15 rfl))).u (by rw [h.1 2 b (cf 2 rfl), h.2]) (Or.inl (cf 1 rfl))).u rfl (Or.inl (cf 0 rfl))).u rfl (Or.inl (cf 17 rfl))).u rfl (Or.inl (cf 2 rfl))
  · exact h
theorem Cq_chg {C : SS} {w : Nat → Int} {S T : SS} (h : Cq S T) : Cq (chgS C w S) (chgS C w T) := by
  unfold chgS
  exact Cq_dn (f := staS C w) (fun b S T h => Cq_sta h) _ _ _ (Cq_srv (Cq_up (f := endS C) (fun b S T h => Cq_end h) h _))
theorem Cq_age {C S : SS} : Cq S (ageS C S) := ⟨fun i j hi => age_f (by unfold coF at hi; omega), age_f (by decide)⟩
/-- a minute is its change, and one more -/
theorem Cq_min {C S : SS} {w : Nat → Int} : Cq (uS (chgS C w S) 14 0 (S 14 0 + 1)) (minS C w S) := by
  have h := Cq_chg (C := C) (w := w) (Cq_age (C := C) (S := S))
  refine ⟨fun i j hi => ?_, ?_⟩
  · have : i ≠ 7 ∧ i ≠ 8 ∧ i ≠ 9 ∧ i ≠ 10 ∧ i ≠ 11 ∧ i ≠ 14 := by unfold coF at hi; omega
    unfold minS cntS
    rw [uS_nf this.2.2.2.2.2, uS_nf this.2.2.2.2.2, pea_ph _ _ i j this.2.2.2.2.1, tal_ph _ _ i j this.1 this.2.1 this.2.2.1 this.2.2.2.1 this.2.2.2.2.2]
    exact h.1 i j hi
  · rw [min_14, uS_eq]
theorem ki_lt {C S : SS} {w : Nat → Int} (hO : CfgOk C) {b i : Nat} (hi : i < (C 0 0).toNat) : kiS C w S b i < (C 0 0).toNat := by
  unfold kiS
  split
  · exact Nat.mod_lt _ (by omega)
  · exact hi
theorem be_lt {C S : SS} {w : Nat → Int} (hO : CfgOk C) {b : Nat} : ∀ n q, n ≤ (C 0 0).toNat → beS C w S b n = some q → q < (C 0 0).toNat
  | 0, q, _, h => by cases h
  | n + 1, q, hn, h => by
    have hk := ki_lt (S := S) (w := w) hO (b := b) (i := n) (by omega)
    unfold beS at h
    split at h
    · split at h
      · cases h; exact hk
      · rename_i e
        split at h
        · cases h; exact hk
        · cases h; exact be_lt hO n _ (by omega) e
    · exact be_lt hO n q (by omega) h
theorem sta_keep {C S : SS} {w : Nat → Int} (hO : CfgOk C) {b i j : Nat} (h : ((i = 0 ∨ i = 1 ∨ i = 2 ∨ i = 17) ∧ b < j) ∨ (i = 15 ∧ 3 * b + 3 ≤ j) ∨ (i = 4 ∧ 3 * b ≤ j)) : staS C w b S i j = S i j := by
  unfold staS
  split
  · cases hbe : beS C w S b (C 0 0).toNat with
    | none => rfl
    | some k =>
      have hk := be_lt hO _ k (Nat.le_refl _) hbe
      have h3 := hO.2.1
      dsimp only
      unfold begS
      rw [uS_at, if_neg (by omega), uS_at, if_neg (by omega), uS_at, if_neg (by omega), uS_at, if_neg (by omega), uS_at, if_neg (by omega)]
      unfold takS
      split
      · rfl
      · rw [uS_at, if_neg (by omega), uS_at, if_neg (by omega)]
  · rfl
theorem dn_keep {C : SS} {w : Nat → Int} (hO : CfgOk C) {i j : Nat} : ∀ (n : Nat) (S : SS), ((i = 0 ∨ i = 1 ∨ i = 2 ∨ i = 17) ∧ n ≤ j) ∨ (i = 15 ∧ 3 * n ≤ j) ∨ (i = 4 ∧ 3 * n ≤ j + 3) → dnF (staS C w) n S i j = S i j
  | 0, _, _ => rfl
  | n + 1, S, h => by
    show dnF (staS C w) n (staS C w n S) i j = S i j
    rw [dn_keep hO n _ (by omega), sta_keep hO (by omega)]
theorem be_loc {C S T : SS} {w : Nat → Int} (hO : CfgOk C) {b : Nat} (h2 : T 2 b = S 2 b) (h15 : ∀ k, k < 3 → T 15 (3 * b + k) = S 15 (3 * b + k)) (h4 : ∀ k, k < 3 → 0 < b → T 4 (3 * (b - 1) + k) = S 4 (3 * (b - 1) + k)) : ∀ n, n ≤ (C 0 0).toNat → beS C w T b n = beS C w S b n
  | 0, _ => rfl
  | n + 1, hn => by
    have h3 := hO.2.1
    have hk := ki_lt (S := S) (w := w) hO (b := b) (i := n) (by omega)
    have ek : kiS C w T b n = kiS C w S b n := by unfold kiS; rw [h2]
    have fr : ∀ k, k < 3 → frS w T b k = frS w S b k := fun k hk => by unfold frS; rw [h15 k hk]
    unfold beS
    rw [be_loc hO h2 h15 h4 n (by omega), ek]
    have av : avS w T b (kiS C w S b n) ↔ avS w S b (kiS C w S b n) := by
      unfold avS
      rw [fr _ (by omega)]
      by_cases e : b = 0
      · exact ⟨fun q => ⟨q.1, Or.inl e⟩, fun q => ⟨q.1, Or.inl e⟩⟩
      · rw [h4 _ (by omega) (by omega)]
    by_cases e : avS w S b (kiS C w S b n)
    · rw [if_pos (av.mpr e), if_pos e]
      cases hb : beS C w S b n with
      | none => rfl
      | some q =>
        have := be_lt hO n q (by omega) hb
        dsimp only; rw [fr _ (by omega), fr _ (by omega)]
    · rw [if_neg (fun q => e (av.mp q)), if_neg e]
/-- behind the starts no idle bench can begin -/
theorem dn_idle {C : SS} {w : Nat → Int} (hO : CfgOk C) : ∀ (n : Nat) (S : SS) (b : Nat), b < n → dnF (staS C w) n S 0 b = 0 → beS C w (dnF (staS C w) n S) b (C 0 0).toNat = none
  | 0, _, b, hb, _ => absurd hb (by omega)
  | n + 1, S, b, hb, h0 => by
    have h0' : dnF (staS C w) n (staS C w n S) 0 b = 0 := h0
    show beS C w (dnF (staS C w) n (staS C w n S)) b (C 0 0).toNat = none
    by_cases e : b = n
    · subst e
      rw [be_loc hO (S := staS C w b S) (dn_keep hO b _ (by omega)) (fun k hk => dn_keep hO b _ (by omega)) (fun k hk hb => dn_keep hO b _ (by omega)) _ (Nat.le_refl _)]
      rw [dn_keep hO b _ (by omega)] at h0'
      unfold staS at h0' ⊢
      by_cases e0 : S 0 b = 0
      · rw [if_pos e0] at h0' ⊢
        cases hbe : beS C w S b (C 0 0).toNat with
        | none => exact hbe
        | some k =>
          rw [hbe] at h0'
          dsimp only at h0'
          unfold begS at h0'
          rw [uS_nf (by decide), uS_nf (by decide), uS_eq] at h0'
          exact absurd h0' (by decide)
      · rw [if_neg e0] at h0'
        exact absurd h0' e0
    · exact dn_idle hO n _ b (by omega) h0'
theorem chg_still {C S : SS} {w : Nat → Int} (hO : CfgOk C) {m : Int} (q1 : ∀ b : Nat, (b : Int) < C 0 1 → chgS C w S 0 b = 0 ∨ chgS C w S 1 b ≠ m) (q2 : ∀ k, arS C k m = 0) : chgS C w (uS (chgS C w S) 14 0 m) = uS (chgS C w S) 14 0 m := by
  have hb1 := hO.2.2.1
  have hk1 := hO.1
  have hk3 := hO.2.1
  -- what is left to serve
  have q3 : ∀ k, k < (C 0 0).toNat → min (chgS C w S 5 k - chgS C w S 6 k) (chgS C w S 4 (3 * ((C 0 1).toNat - 1) + k)) = 0 := by
    intro k hk
    unfold chgS
    generalize upF (endS C) (C 0 1).toNat S = E
    have f5 : ∀ R : SS, dnF (staS C w) (C 0 1).toNat R 5 k = R 5 k ∧ dnF (staS C w) (C 0 1).toNat R 6 k = R 6 k := by
      have g : ∀ (n : Nat) (R : SS) (i : Nat), i = 5 ∨ i = 6 → dnF (staS C w) n R i k = R i k := by
        intro n
        induction n with
        | zero => intro R i _; rfl
        | succ n ih =>
          intro R i hi
          show dnF (staS C w) n (staS C w n R) i k = _
          rw [ih _ i hi, sta_f (by omega)]
      exact fun R => ⟨g _ R 5 (Or.inl rfl), g _ R 6 (Or.inr rfl)⟩
    rw [(f5 _).1, (f5 _).2, dn_keep hO _ _ (by omega)]
    have s4 : srvS C (C 0 0).toNat E 4 (3 * ((C 0 1).toNat - 1) + k) = E 4 (3 * ((C 0 1).toNat - 1) + k) - dvS C E k := by
      unfold srvS
      rw [if_neg (by omega), if_neg (by omega), if_neg (by omega), if_pos (by omega), show 3 * ((C 0 1).toNat - 1) + k - 3 * ((C 0 1).toNat - 1) = k by omega]
    obtain ⟨s5, s6, -, -⟩ := srv_k (C := C) (S := E) hk
    rw [s4, s5, s6]
    unfold dvS
    omega
  have q4 : ∀ b : Nat, (b : Int) < C 0 1 → chgS C w S 0 b = 0 → beS C w (chgS C w S) b (C 0 0).toNat = none := fun b hb h => dn_idle hO _ _ b (by omega) h
  generalize chgS C w S = D at q1 q3 q4 ⊢
  have f : ∀ i j, i ≠ 14 → uS D 14 0 m i j = D i j := fun i j h => uS_nf h
  have hU : uS D 14 0 m 14 0 = m := uS_eq _ _ _ _
  have fc : ∀ i j, coF i → uS D 14 0 m i j = D i j := fun i j h => f i j (by unfold coF at h; omega)
  have be : ∀ b, beS C w (uS D 14 0 m) b (C 0 0).toNat = beS C w D b (C 0 0).toNat := fun b => be_eq fc b _
  generalize uS D 14 0 m = U at f hU be ⊢
  have e1 : ∀ n : Nat, (n : Int) ≤ C 0 1 → upF (endS C) n U = U := by
    intro n
    induction n with
    | zero => intro _; rfl
    | succ n ih =>
      intro hn
      show endS C n (upF (endS C) n U) = U
      rw [ih (by omega)]
      unfold endS
      rw [if_pos (by rw [f 0 n (by decide), f 1 n (by decide), hU]; exact q1 n (by omega))]
  have dv : ∀ k, k < (C 0 0).toNat → dvS C U k = 0 := fun k hk => by
    have := q3 k hk
    unfold dvS
    rw [f 5 k (by decide), f 6 k (by decide), f 4 _ (by decide), hU, q2 k]
    rw [show D 5 k + 0 - D 6 k = D 5 k - D 6 k by omega]; exact this
  have e2 : srvS C (C 0 0).toNat U = U := by
    funext a b
    unfold srvS
    rw [hU]
    split
    · rename_i h; rw [q2 b, h.1]; omega
    · split
      · rename_i h; rw [dv b h.2, h.1]; omega
      · split
        · rename_i h; rw [q2 b, dv b h.2, h.1]; omega
        · split
          · rename_i h; rw [dv _ (by omega)]; omega
          · split
            · rename_i h; have := dv b h.2.1; omega
            · rfl
  have e3 : ∀ n : Nat, (n : Int) ≤ C 0 1 → dnF (staS C w) n U = U := by
    intro n
    induction n with
    | zero => intro _; rfl
    | succ n ih =>
      intro hn
      show dnF (staS C w) n (staS C w n U) = U
      have : staS C w n U = U := by
        unfold staS
        split
        · rename_i h0
          rw [be n, q4 n (by omega) (by rw [← f 0 n (by decide)]; exact h0)]
        · rfl
      rw [this]; exact ih (by omega)
  unfold chgS
  rw [e1 _ (by omega), e2, e3 _ (by omega)]
/-- n minutes, of which only the first changes anything -/
theorem it_skip {C S : SS} {w : Nat → Int} (hO : CfgOk C) : ∀ n : Nat, (∀ m : Nat, m < n → (∀ b : Nat, (b : Int) < C 0 1 → chgS C w S 0 b = 0 ∨ chgS C w S 1 b ≠ S 14 0 + 1 + m) ∧ ∀ k, arS C k (S 14 0 + 1 + m) = 0) → Cq (uS (chgS C w S) 14 0 (S 14 0 + 1 + n)) (itS C w (n + 1) S)
  | 0, _ => by
    have := Cq_min (C := C) (S := S) (w := w)
    rw [show S 14 0 + 1 + ((0 : Nat) : Int) = S 14 0 + 1 by omega]
    exact this
  | n + 1, h => by
    have ih := it_skip hO (S := S) (w := w) n (fun m hm => h m (by omega))
    obtain ⟨h1, h2⟩ := h n (by omega)
    have c := Cq_chg (C := C) (w := w) ih
    rw [chg_still hO h1 h2] at c
    have d := Cq_min (C := C) (w := w) (S := itS C w (n + 1) S)
    refine Cq.tr ?_ d
    refine ⟨fun i j hi => ?_, ?_⟩
    · have : i ≠ 14 := by unfold coF at hi; omega
      rw [uS_nf this, uS_nf this, c.1 i j hi, uS_nf this]
    · rw [uS_eq, uS_eq, it_14]; omega

/-! levers alike where they are told -/
def wQ (C : SS) (w v : Nat → Int) : Prop := (∀ b k : Nat, (b : Int) < C 0 1 → (k : Int) < C 0 0 → v (3 * b + k) = w (3 * b + k) ∧ v (18 + (3 * b + k)) = w (18 + (3 * b + k))) ∧ v 36 = w 36
theorem wQ_be {C S : SS} {w v : Nat → Int} {b : Nat} (hO : CfgOk C) (h : wQ C w v) (hb : (b : Int) < C 0 1) : ∀ n, n ≤ (C 0 0).toNat → beS C v S b n = beS C w S b n
  | 0, _ => rfl
  | n + 1, hn => by
    have hk := ki_lt (S := S) (w := w) hO (b := b) (i := n) (by omega)
    have ek : kiS C v S b n = kiS C w S b n := by unfold kiS; rw [h.2]
    have fr : ∀ k, k < (C 0 0).toNat → frS v S b k = frS w S b k := fun k hk => by unfold frS; rw [(h.1 b k hb (by omega)).1]
    unfold beS
    rw [wQ_be hO h hb n (by omega), ek]
    have av : avS v S b (kiS C w S b n) ↔ avS w S b (kiS C w S b n) := by
      unfold avS
      rw [fr _ hk]
    by_cases e : avS w S b (kiS C w S b n)
    · rw [if_pos (av.mpr e), if_pos e]
      cases hq : beS C w S b n with
      | none => rfl
      | some q =>
        have := be_lt hO n q (by omega) hq
        dsimp only; rw [fr _ this, fr _ hk, h.2]
    · rw [if_neg (fun q => e (av.mp q)), if_neg e]
theorem wQ_sta {C S : SS} {w v : Nat → Int} {b : Nat} (hO : CfgOk C) (h : wQ C w v) (hb : (b : Int) < C 0 1) : staS C v b S = staS C w b S := by
  unfold staS
  rw [wQ_be hO h hb _ (Nat.le_refl _)]
  split
  · cases hq : beS C w S b (C 0 0).toNat with
    | none => rfl
    | some k =>
      have := be_lt hO _ k (Nat.le_refl _) hq
      dsimp only
      unfold begS
      rw [(h.1 b k hb (by omega)).2]
  · rfl
theorem wQ_ff {C S : SS} {w v : Nat → Int} {b : Nat} (h : wQ C w v) (hb : (b : Int) < C 0 1) : ∀ n, n ≤ (C 0 0).toNat → ffS v S b n = ffS w S b n
  | 0, _ => rfl
  | n + 1, hn => by
    unfold ffS
    rw [wQ_ff h hb n (by omega)]
    unfold frS
    rw [(h.1 b n hb (by omega)).1]
theorem wQ_min {C S : SS} {w v : Nat → Int} (hO : CfgOk C) (h : wQ C w v) : minS C v S = minS C w S := by
  have hb1 := hO.2.2.1
  have dn : ∀ (n : Nat) (S : SS), (n : Int) ≤ C 0 1 → dnF (staS C v) n S = dnF (staS C w) n S := by
    intro n
    induction n with
    | zero => intro S _; rfl
    | succ n ih =>
      intro S hn
      show dnF (staS C v) n (staS C v n S) = dnF (staS C w) n (staS C w n S)
      rw [wQ_sta hO h (by omega), ih _ (by omega)]
  have tl : ∀ (n : Nat) (S : SS), (n : Int) ≤ C 0 1 → upF (talS C v) n S = upF (talS C w) n S := by
    intro n
    induction n with
    | zero => intro S _; rfl
    | succ n ih =>
      intro S hn
      show talS C v n (upF (talS C v) n S) = talS C w n (upF (talS C w) n S)
      rw [ih _ (by omega)]
      unfold talS
      rw [wQ_ff h (by omega) _ (Nat.le_refl _)]
  unfold minS cntS chgS
  rw [dn _ _ (by omega), tl _ _ (by omega)]
theorem wQ_yi {C : SS} {w v : Nat → Int} (hO : CfgOk C) (h : wQ C w v) (t : Nat) : yiS C v t = yiS C w t := by
  have : ∀ n S, itS C v n S = itS C w n S := by
    intro n
    induction n with
    | zero => intro S; rfl
    | succ n ih => intro S; show minS C v (itS C v n S) = minS C w (itS C w n S); rw [ih, wQ_min hO h]
  unfold yiS
  rw [this]

/-! cards are taken out. A state: levers, what they yield, has one gone? -/
abbrev TS : Type := (Nat → Int) × Int × Int
noncomputable def tkS (C : SS) (t c : Nat) (s : TS) : TS := if s.1 c = 0 then s else if s.2.1 ≤ yiS C (uw s.1 c (s.1 c - 1)) t then (uw s.1 c (s.1 c - 1), yiS C (uw s.1 c (s.1 c - 1)) t, 1) else s
noncomputable def psS (C : SS) (t : Nat) (s : TS) : Nat → TS
  | 0 => s
  | c + 1 => tkS C t c (psS C t s c)
/-- always so of it -/
def TOk (C : SS) (s : TS) : Prop := WyOk C s.1 ∧ w0 C s.1 ∧ 0 ≤ s.2.1 ∧ s.2.1 ≤ 120000 ∧ (s.2.2 = 0 ∨ s.2.2 = 1)
theorem tk_told {C : SS} {s : TS} {c : Nat} (h : TOk C s) (hc : c < 18) (hn : s.1 c ≠ 0) : ∃ b k : Nat, c = 3 * b + k ∧ (b : Int) < C 0 1 ∧ (k : Int) < C 0 0 := by
  refine ⟨c / 3, c % 3, by omega, ?_, ?_⟩
  · apply Classical.byContradiction
    intro q
    have := (h.2.1 (c / 3) (c % 3) (by omega) (by omega) (fun z => q z.1)).1
    rw [show 3 * (c / 3) + c % 3 = c by omega] at this
    exact hn this
  · apply Classical.byContradiction
    intro q
    have := (h.2.1 (c / 3) (c % 3) (by omega) (by omega) (fun z => q z.2)).1
    rw [show 3 * (c / 3) + c % 3 = c by omega] at this
    exact hn this
theorem tk_ok {C : SS} {s : TS} {c t : Nat} (hO : CfgOk C) (ht : t ≤ 2000) (h : TOk C s) (hc : c < 18) : TOk C (tkS C t c s) ∧ (s.1 c ≠ 0 → WyOk C (uw s.1 c (s.1 c - 1)) ∧ w0 C (uw s.1 c (s.1 c - 1)) ∧ 1 ≤ s.1 c ∧ s.1 c ≤ 9) := by
  have key : s.1 c ≠ 0 → WyOk C (uw s.1 c (s.1 c - 1)) ∧ w0 C (uw s.1 c (s.1 c - 1)) ∧ 1 ≤ s.1 c ∧ s.1 c ≤ 9 := by
    intro hn
    obtain ⟨b, k, rfl, hb, hk⟩ := tk_told h hc hn
    have q := h.1.1 b k hb hk
    obtain ⟨o1, o2⟩ := uw_ok (v := s.1 (3 * b + k) - 1) hO h.1 h.2.1 hb hk (by omega) (by omega)
    exact ⟨o1, o2, by omega, by omega⟩
  refine ⟨?_, key⟩
  unfold tkS
  split
  · exact h
  · rename_i hn
    obtain ⟨o1, o2, -, -⟩ := key hn
    have yb := yi_bd (t := t) hO o1 ht
    split
    · exact ⟨o1, o2, yb.1, yb.2, Or.inr rfl⟩
    · exact h
theorem ps_ok {C : SS} {s : TS} {t : Nat} (hO : CfgOk C) (ht : t ≤ 2000) (h : TOk C s) : ∀ n, n ≤ 18 → TOk C (psS C t s n)
  | 0, _ => h
  | n + 1, hn => (tk_ok hO ht (ps_ok hO ht h n (by omega)) (by omega)).1
/-- a card that goes is counted -/
theorem sm_uw {u : Nat → Int} {c : Nat} {v : Int} : ∀ n, sm (uw u c v) n = sm u n + (if c < n then v - u c else 0)
  | 0 => by rw [if_neg (by omega)]; rfl
  | n + 1 => by
    show sm (uw u c v) n + uw u c v n = sm u n + u n + _
    rw [sm_uw n]
    unfold uw
    by_cases e : n = c
    · subst e; rw [if_neg (by omega), if_pos rfl, if_pos (by omega)]; omega
    · rw [if_neg e]
      by_cases e2 : c < n
      · rw [if_pos e2, if_pos (by omega)]; omega
      · rw [if_neg e2, if_neg (by omega)]; omega
theorem tk_sm {C : SS} {s : TS} {c t : Nat} (hc : c < 18) (h : s.2.2 = 0 ∨ s.2.2 = 1) : sm (tkS C t c s).1 18 + (tkS C t c s).2.2 ≤ sm s.1 18 + s.2.2 ∧ sm (tkS C t c s).1 18 ≤ sm s.1 18 := by
  unfold tkS
  split
  · exact ⟨Int.le_refl _, Int.le_refl _⟩
  · split
    · show sm (uw s.1 c (s.1 c - 1)) 18 + 1 ≤ _ ∧ sm (uw s.1 c (s.1 c - 1)) 18 ≤ _
      rw [sm_uw, if_pos hc]; omega
    · exact ⟨Int.le_refl _, Int.le_refl _⟩
theorem ps_sm {C : SS} {s : TS} {t : Nat} (hO : CfgOk C) (ht : t ≤ 2000) (h : TOk C s) : ∀ n, n ≤ 18 → sm (psS C t s n).1 18 + (psS C t s n).2.2 ≤ sm s.1 18 + s.2.2
  | 0, _ => Int.le_refl _
  | n + 1, hn => by
    have a := ps_sm hO ht h n (by omega)
    have b := tk_sm (C := C) (t := t) (s := psS C t s n) (c := n) (by omega) (ps_ok hO ht h n (by omega)).2.2.2.2
    show sm (tkS C t n (psS C t s n)).1 18 + (tkS C t n (psS C t s n)).2.2 ≤ _
    omega

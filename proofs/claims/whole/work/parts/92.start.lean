/-! the memories behind the constructors -/
def X0 : Mm := (fun k => if k = 0 then (fun i => if i = 12 then -1 else 0) else fun _ => 0, fun _ _ => 0)
def M0 : Mm := (fun k => if k = 0 then (fun i => if i = 2 then -1 else 0) else fun _ => 0, fun _ _ => 0)
def adH (h0 : Nat) (f : Nat → Nat) : Nat → Nat := fun k => match k with | 0 => h0 | k + 1 => f k
theorem va2 (a b : Nat) : va_up (va_up (fun _ => none) 0 (some a)) 1 (some b) = fun j => if j = 0 then some a else if j = 1 then some b else none := by
  funext j
  unfold va_up
  by_cases h1 : j = 1
  · subst h1; rfl
  · rw [if_neg h1, if_neg h1]
set_option maxRecDepth 20000 in
theorem wX9 (E : En) (h0 : Nat) (f : Nat → Nat) : WX9 E h0 f = wE SKX (E.1, adH h0 f, .null, E.2.2.2) X0 := by
  unfold WX9
  rw [va2]
  rfl
set_option maxRecDepth 20000 in
theorem wX10 (E : En) (h0 : Nat) (f : Nat → Nat) : WX10 E h0 f = wE SKM (E.1, adH h0 f, .null, E.2.2.2) M0 := rfl
theorem rel0 : Rel X0 M0 := by
  refine ⟨?_, rfl, rfl, rfl, Or.inl ⟨rfl, rfl, rfl, rfl⟩⟩
  exact ⟨⟨0, by omega, rfl, rfl⟩, fun _ => 0, fun i _ => ⟨show (-128 : Int) ≤ 0 by decide, show (0 : Int) ≤ 127 by decide, rfl, rfl⟩⟩

theorem arr_of {args : Array Value} {s : State} {ty : FieldType} (h : (Cond.arrayClass ty).before args s = true) (hr : ∀ c : ClassId, s.vm.findClass ("[" ++ ty.toString) = some c → va_RA s c ty) : ∃ cA : ClassId, ArrOfT s cA ty ∧ va_RA s cA ty := by
  obtain ⟨c, k, comp, h1, h2, h3⟩ := Cond.arrayClass_spec h
  exact ⟨c, fun n z => ⟨fun k h => (by cases h), k, h2, comp, h3⟩, hr c h1⟩
theorem arr_ofq {args : Array Value} {s : State} {C : String} (h : (Cond.arrayOver (.object C)).before args s = true) : ∃ cA : ClassId, ArrOfT s cA (.object C) ∧ va_RA s cA (.object C) := by
  obtain ⟨comp, c, k, h1, -, h3, h4, h5⟩ := Cond.arrayOver_spec h
  exact ⟨c, fun n z => ⟨fun k h => (by cases h), k, h3, comp, h4⟩, k, comp, h3, h4, h1, h5⟩
theorem start_D {args : Array Value} {s : State} (hts : ∀ w ∈ TB, w.before args s = true) : ∃ D : va_G, ∀ (k : Nat) (q : vw_C), vwCl[k]? = some q → u_Kn s q.1 q.2.1 q.2.2 (D.1 k) (D.2 k) := by
  have hi : ∀ (C : String) (N : Nat), Cond.instantiable C N ∈ TB → (Cond.instantiable C N).before args s = true := fun _ _ h => hts _ h
  have key : ∀ k : Nat, ∃ x : ClassId × (Nat → Nat), ∀ q : vw_C, vwCl[k]? = some q → u_Kn s q.1 q.2.1 q.2.2 x.1 x.2 := by
    intro k
    have mk : ∀ (C : String) (T : u_T) (N : Nat), (∀ w ∈ u_ws C T N, w ∈ TB) → Cond.instantiable C N ∈ TB → vwCl[k]? = some (C, T, N) → ∃ x : ClassId × (Nat → Nat), ∀ q : vw_C, vwCl[k]? = some q → u_Kn s q.1 q.2.1 q.2.2 x.1 x.2 := by
      intro C T N h1 h2 h3
      obtain ⟨c0, i0, hk⟩ := u_known (C := C) (T := T) (N := N) (n := N) hts h1 (hts _ h2)
      exact ⟨(c0, i0), fun q hq => by cases Option.some.inj (h3.symm.trans hq); exact hk⟩
    match k with
    | 0 => exact mk RX0 TX0 3 inT0 (g_t _ (List.mem_of_getElem? (i := 14) rfl)) rfl
    | 1 => exact mk RX1 TX1 3 inT1 (g_t _ (List.mem_of_getElem? (i := 15) rfl)) rfl
    | 2 => exact mk RX2 TX2 3 inT2 (g_t _ (List.mem_of_getElem? (i := 16) rfl)) rfl
    | 3 => exact mk RX3 TX3 18 inT3 (g_t _ (List.mem_of_getElem? (i := 17) rfl)) rfl
    | 4 => exact mk RX4 TX4 6 inT4 (g_t _ (List.mem_of_getElem? (i := 18) rfl)) rfl
    | 5 => exact mk RX5 TX5 12 inT5 (g_t _ (List.mem_of_getElem? (i := 19) rfl)) rfl
    | 6 => exact mk RX6 TX6 5 inT6 (g_t _ (List.mem_of_getElem? (i := 20) rfl)) rfl
    | 7 => exact mk RX7 TX7 6 inT7 (g_t _ (List.mem_of_getElem? (i := 21) rfl)) rfl
    | 8 => exact mk RX8 TX8 3 inT8 (g_t _ (List.mem_of_getElem? (i := 22) rfl)) rfl
    | 9 => exact mk RX9 TX9 13 inT9 (g_t _ (List.mem_of_getElem? (i := 23) rfl)) rfl
    | 10 => exact mk RX10 TX10 41 inT10 (g_t _ (List.mem_of_getElem? (i := 24) rfl)) rfl
    | k + 11 => exact ⟨((0 : Nat), fun _ => 0), fun q hq => by simp [vwCl] at hq⟩
  obtain ⟨x, hx⟩ := Classical.axiomOfChoice key
  exact ⟨(fun k => (x k).1, fun k => (x k).2), fun k q hq => hx k q hq⟩
theorem start_str {b : Nat} {s : State} {A : Nat → Prop} (hA : ∀ a : Nat, a < s.heap.size → ¬ A a) (hts : ∀ w ∈ lw_tbl, w.before #[Value.ref b] s = true) (hgv : (Jvm.Cond.and given_1 narrow_1).before #[Value.ref b] s = true) : ∃ adK adV : Nat → Nat, ∀ (cy : Nat → ClassId) (ad : Nat → Nat) (tr : Value) (D : va_G), strE (cy, ad, tr, D, adK, adV) A s s.heap := by
  have hf : ∀ w ∈ flG, w.before #[Value.ref b] s = true := flat_of_before _ hgv
  obtain ⟨adK, adV, hS, hV⟩ := vk_Sof (tm := tmS) (len := slen) (byt := sbyt) (N := 13) (A := A) g_len (fun i h => hf _ (g_ex i h)) (fun i h => hf _ (g_co i h)) (fun i h => hf _ (g_ar i h)) (fun i h => hf _ (g_le i h)) (fun i h j hj => hf _ (g_el i h j hj)) (fun i j hi hj hij => (g_ne i hi j hj hij).imp (hf _) (hf _)) hA
  refine ⟨adK, adV, fun cy ad tr D => ⟨hS, fun i q hq => ?_, fun q hq => va_Nw.of rfl (hts _ (g_ns q hq)), va_Zof (hts _ (g_l _ (List.mem_of_getElem? (i := 0) rfl))) (hts _ (g_l _ (List.mem_of_getElem? (i := 1) rfl))) (va_eqv (hf _ g_cs) rfl) hA, va_Zqof (hts _ (g_l _ (List.mem_of_getElem? (i := 2) rfl))) (hts _ (g_l _ (List.mem_of_getElem? (i := 3) rfl))) (hf _ g_si) hA⟩⟩
  have hi : i < 13 := (List.getElem?_eq_some_iff.mp hq).1
  have hq2 : strs.getD i ("", 0, "") = q := by rw [List.getD_eq_getElem?_getD, hq]; rfl
  have hv := hV i hi
  unfold tmS at hv
  rw [hq2] at hv
  exact vk_R.of (hts _ (g_sr q (List.mem_of_getElem? hq))) hv

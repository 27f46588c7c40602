/-! memory: place -> index -> number; skeleton: what stands at a place -/
abbrev Mm : Type := (Nat → Nat → Int32) × (Nat → Nat → Int64)
abbrev Sk : Type := (Nat → ClassId) → (Nat → Nat) → Value → (Nat → Int32) → (Nat → Int64) → va_E
abbrev En : Type := (Nat → ClassId) × (Nat → Nat) × Value × va_G × (Nat → Nat) × (Nat → Nat)
def adr (E : En) (k : Nat) : Nat := E.2.1 k
def s1 (M : Mm) (k : Nat) (f : Nat → Int32) : Mm := (fun q => if q = k then f else M.1 q, M.2)
def s2 (M : Mm) (k : Nat) (f : Nat → Int64) : Mm := (M.1, fun q => if q = k then f else M.2 q)
def u1 (M : Mm) (k i : Nat) (x : Int32) : Mm := s1 M k (upd (M.1 k) i x)
def u2 (M : Mm) (k i : Nat) (x : Int64) : Mm := s2 M k (vp_updL (M.2 k) i x)
def rd (f : Nat → Int32) (n : Nat) (i : Int32) : Option Int32 := if 0 ≤ i ∧ i.toNatClampNeg < n then some (f i.toNatClampNeg) else none
def rdL (f : Nat → Int64) (n : Nat) (i : Int32) : Option Int64 := if 0 ≤ i ∧ i.toNatClampNeg < n then some (f i.toNatClampNeg) else none
def wr (M : Mm) (k n : Nat) (i x : Int32) : Option Mm := if 0 ≤ i ∧ i.toNatClampNeg < n then some (u1 M k i.toNatClampNeg x) else none
def wrB (M : Mm) (k n : Nat) (i x : Int32) : Option Mm := if 0 ≤ i ∧ i.toNatClampNeg < n then some (u1 M k i.toNatClampNeg (vp_nar .byte x)) else none
def wrZ (M : Mm) (k n : Nat) (i x : Int32) : Option Mm := if 0 ≤ i ∧ i.toNatClampNeg < n then some (u1 M k i.toNatClampNeg (vp_nar .boolean x)) else none
def wrL (M : Mm) (k n : Nat) (i : Int32) (x : Int64) : Option Mm := if 0 ≤ i ∧ i.toNatClampNeg < n then some (u2 M k i.toNatClampNeg x) else none
def dvI (x y : Int32) : Option Int32 := if y = 0 then none else some (x / y)
def rmI (x y : Int32) : Option Int32 := if y = 0 then none else some (x - x / y * y)
def dvL (x y : Int64) : Option Int64 := if y = 0 then none else some (x / y)
def rmL (x y : Int64) : Option Int64 := if y = 0 then none else some (x - x / y * y)
def zr (x : Int32) : Option Int32 := if x = 0 ∨ x = 1 then some x else none
theorem bindE {α β : Type} {x : Option α} {k : α → Option β} {r : β} (h : x.bind k = some r) : ∃ v, x = some v ∧ k v = some r := by
  cases x with
  | none => cases h
  | some v => exact ⟨v, rfl, h⟩
theorem ifT {α : Type} {c : Prop} [Decidable c] {a b r : α} (h : (if c then a else b) = r) (hc : c) : a = r := by rwa [if_pos hc] at h
theorem ifF {α : Type} {c : Prop} [Decidable c] {a b r : α} (h : (if c then a else b) = r) (hc : ¬ c) : b = r := by rwa [if_neg hc] at h
theorem inb {i : Int32} {n : Nat} (h : 0 ≤ i ∧ i.toNatClampNeg < n) : vp_in i n := fun q => q.elim (fun q => absurd h.1 (Int32.not_le.mpr q)) (fun q => absurd h.2 (Nat.not_lt.mpr q))
def TB : List Cond := lw_tbl.filter goodWord
theorem tbw (w : Cond) (i : Nat) (h : lw_tbl[i]? = some w) (g : goodWord w = true) : w ∈ TB := List.mem_filter.mpr ⟨List.mem_of_getElem? h, g⟩
theorem TB_good : ∀ w ∈ TB, w ∈ TB ∧ ((w.onTables && w.keeps) = true ∨ ∃ ty, w = .arrayClass ty) := fun w h => ⟨h, good_of_word (List.mem_filter.mp h).2⟩
theorem TB_in {y : MethodName} {cc : ByteArray} {nL : Nat} {ret : Option FieldType} (h : Cond.code y cc nL ret ∈ TB) : GoodIn TB (Cond.code y cc nL ret :: TB) := fun w hw => (List.mem_cons.mp hw).elim (fun e => by rw [e]; exact TB_good _ h) (TB_good w)
def wl (cy : Nat → ClassId) (ad : Nat → Nat) (tr : Value) (M : Mm) : Nat → List Sk → va_W
  | _, [] => []
  | k, e :: r => (ad k, e cy ad tr (M.1 k) (M.2 k)) :: wl cy ad tr M (k + 1) r
def wE (SK : List Sk) (E : En) (M : Mm) : va_W := wl E.1 E.2.1 E.2.2.1 M 0 SK
theorem wl_get (cy : Nat → ClassId) (ad : Nat → Nat) (tr : Value) (M : Mm) : ∀ (SK : List Sk) (j k : Nat) (e : Sk), SK[k]? = some e → (wl cy ad tr M j SK)[k]? = some (ad (j + k), e cy ad tr (M.1 (j + k)) (M.2 (j + k)))
  | [], _, _, _, h => by cases h
  | a :: r, j, 0, e, h => by cases h; rfl
  | a :: r, j, k + 1, e, h => by
    have h2 := wl_get cy ad tr M r (j + 1) k e h
    rw [show j + (k + 1) = j + 1 + k by omega]
    exact h2
theorem wE_get {SK : List Sk} (E : En) (M : Mm) {k : Nat} {e : Sk} (h : SK[k]? = some e) : (wE SK E M)[k]? = some (adr E k, e E.1 E.2.1 E.2.2.1 (M.1 k) (M.2 k)) := by
  have h2 := wl_get E.1 E.2.1 E.2.2.1 M SK 0 k e h
  rw [Nat.zero_add] at h2
  exact h2
theorem wl_out (cy : Nat → ClassId) (ad : Nat → Nat) (tr : Value) (M M2 : Mm) : ∀ (SK : List Sk) (j : Nat), (∀ q, j ≤ q → M2.1 q = M.1 q ∧ M2.2 q = M.2 q) → wl cy ad tr M2 j SK = wl cy ad tr M j SK
  | [], _, _ => rfl
  | a :: r, j, h => by
    show _ :: _ = _ :: _
    rw [(h j (Nat.le_refl j)).1, (h j (Nat.le_refl j)).2, wl_out cy ad tr M M2 r (j + 1) (fun q hq => h q (by omega))]
theorem wl_set (cy : Nat → ClassId) (ad : Nat → Nat) (tr : Value) (M M2 : Mm) : ∀ (SK : List Sk) (j k : Nat) (e : Sk), SK[k]? = some e → (∀ q, q ≠ j + k → M2.1 q = M.1 q ∧ M2.2 q = M.2 q) → (wl cy ad tr M j SK).set k (ad (j + k), e cy ad tr (M2.1 (j + k)) (M2.2 (j + k))) = wl cy ad tr M2 j SK
  | [], _, _, _, h, _ => by cases h
  | a :: r, j, 0, e, h, hq => by
    cases h
    show _ :: _ = _ :: _
    rw [wl_out cy ad tr M M2 r (j + 1) (fun q hq2 => hq q (by omega))]
    rfl
  | a :: r, j, k + 1, e, h, hq => by
    have h2 := wl_set cy ad tr M M2 r (j + 1) k e h (fun q h3 => hq q (by omega))
    rw [show j + (k + 1) = j + 1 + k by omega]
    show _ :: _ = _ :: _
    rw [h2, (hq j (by omega)).1, (hq j (by omega)).2]
theorem wE_set1 {SK : List Sk} (E : En) (M : Mm) {k : Nat} {e : Sk} (h : SK[k]? = some e) (f : Nat → Int32) : (wE SK E M).set k (adr E k, e E.1 E.2.1 E.2.2.1 f (M.2 k)) = wE SK E (s1 M k f) := by
  have h2 := wl_set E.1 E.2.1 E.2.2.1 M (s1 M k f) SK 0 k e h (fun q hq => by
    rw [Nat.zero_add] at hq
    exact ⟨by show (if q = k then f else M.1 q) = M.1 q; rw [if_neg hq], rfl⟩)
  rw [Nat.zero_add] at h2
  rw [show (s1 M k f).1 k = f by show (if k = k then f else M.1 k) = f; rw [if_pos rfl]] at h2
  exact h2
theorem wE_set2 {SK : List Sk} (E : En) (M : Mm) {k : Nat} {e : Sk} (h : SK[k]? = some e) (f : Nat → Int64) : (wE SK E M).set k (adr E k, e E.1 E.2.1 E.2.2.1 (M.1 k) f) = wE SK E (s2 M k f) := by
  have h2 := wl_set E.1 E.2.1 E.2.2.1 M (s2 M k f) SK 0 k e h (fun q hq => by
    rw [Nat.zero_add] at hq
    exact ⟨rfl, by show (if q = k then f else M.2 q) = M.2 q; rw [if_neg hq]⟩)
  rw [Nat.zero_add] at h2
  rw [show (s2 M k f).2 k = f by show (if k = k then f else M.2 k) = f; rw [if_pos rfl]] at h2
  exact h2
theorem wl_fst (cy : Nat → ClassId) (ad : Nat → Nat) (tr : Value) (M M2 : Mm) : ∀ (SK : List Sk) (j k : Nat) (q : Nat × va_E), (wl cy ad tr M j SK)[k]? = some q → ∃ e, (wl cy ad tr M2 j SK)[k]? = some (q.1, e)
  | [], _, _, _, h => by simp [wl] at h
  | a :: r, j, 0, q, h => by cases h; exact ⟨_, rfl⟩
  | a :: r, j, k + 1, q, h => wl_fst cy ad tr M M2 r (j + 1) k q h
theorem wE_D {SK : List Sk} {E : En} {M : Mm} {A : Nat → Prop} (h : va_D A (wE SK E M)) (M2 : Mm) : va_D A (wE SK E M2) := by
  refine ⟨fun i j p q hp hq e => ?_, fun k q hq => ?_⟩
  · obtain ⟨e1, h1⟩ := wl_fst E.1 E.2.1 E.2.2.1 M2 M SK 0 i p hp
    obtain ⟨e2, h2⟩ := wl_fst E.1 E.2.1 E.2.2.1 M2 M SK 0 j q hq
    exact h.1 i j _ _ h1 h2 e
  · obtain ⟨e1, h1⟩ := wl_fst E.1 E.2.1 E.2.2.1 M2 M SK 0 k q hq
    exact h.2 k (q.1, e1) h1
theorem wE_A {SK : List Sk} {E : En} {M M2 : Mm} {sz q : Nat} (h : va_A (wE SK E M) sz q) : va_A (wE SK E M2) sz q := by
  rcases h with ⟨k, e, hk⟩ | h
  · obtain ⟨e1, h1⟩ := wl_fst E.1 E.2.1 E.2.2.1 M M2 SK 0 k _ hk
    exact Or.inl ⟨k, e1, h1⟩
  · exact Or.inr h

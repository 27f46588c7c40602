/-! the class's memory X and the reference's M hold the same -/
def w0 (C : SS) (w : Nat → Int) : Prop := ∀ b k : Nat, b < 6 → k < 3 → ¬ ((b : Int) < C 0 1 ∧ (k : Int) < C 0 0) → w (3 * b + k) = 0 ∧ w (18 + (3 * b + k)) = 0
/-- a run and its levers: X's line at p, levers at q; the reference's rows r and v -/
def RunR (C : SS) (w : Nat → Int) (S Q : SS) (p q : Nat) (X : Mm) (r v : Nat → Int32) : Prop :=
  WyOk C w ∧ w0 C w ∧ Bd C S ∧ QBd C S Q ∧ S 14 0 ≤ 9999 ∧ WyX q w X ∧ RelX p S (totS S (C 0 0).toNat) X ∧ (∀ j, j < 37 → v j = iI (w j)) ∧ RelM 0 S Q (fun _ => r, fun _ _ => 0)
/-- acts that can be undone: the reference keeps P, the class lever and value -/
def ActR (C : SS) (w : Nat → Int) (X M : Mm) : Prop := ∃ (n : Nat) (P : Nat → Nat → Int) (lv : Nat → Nat) (vl : Nat → Int), n ≤ 10 ∧ X.1 65 2 = iI n ∧ M.1 0 35 = iI n ∧ (∀ c, c < 37 → P n c = w c) ∧ ∀ j, j < n → lv j < 37 ∧ X.1 66 j = iI (lv j) ∧ X.1 67 j = iI (vl j) ∧ WyOk C (P j) ∧ w0 C (P j) ∧ ∀ c, c < 37 → M.1 13 (37 * j + c) = iI (P j c) ∧ P j c = (if c = lv j then vl j else P (j + 1) c)
/-- a name as a number -/
def wdS (l : Nat → Int) : Nat → Int
  | 0 => 0
  | n + 1 => wdS l n * 32 + l n + 1
def NmR (z : Nat) (l : Nat → Int) (s : Nat) (X : Mm) (v : Int64) : Prop := 1 ≤ z ∧ z ≤ 6 ∧ X.1 10 s = iI z ∧ (∀ j, j < z → 0 ≤ l j ∧ l j ≤ 25 ∧ X.1 9 (6 * s + j) = iI (l j)) ∧ v = Int64.ofInt (wdS l z)
def NamR (C : SS) (X M : Mm) : Prop := (∀ k : Nat, (k : Int) < C 0 0 → ∃ z l, NmR z l k X (M.2 2 k)) ∧ ∀ b : Nat, (b : Int) < C 0 1 → ∃ z l, NmR z l (3 + b) X (M.2 3 b)
def ImgR (C : SS) (X M : Mm) (i o q p : Nat) : Prop := X.1 o 2 = M.1 18 i ∧ (X.1 o 2 = 0 ∨ (X.1 o 2 = 1 ∧ ∃ w S Q, RunR C w S Q p q X (fun j => M.1 17 (99 * i + j)) (fun j => M.1 14 (37 * i + j))))
def Tld (C : SS) (w : Nat → Int) (S Q : SS) (X M : Mm) : Prop := CfgOk C ∧ CfgX C X ∧ CfgM C M ∧ RunR C w S Q 35 32 X (M.1 15) (M.1 10) ∧ NamR C X M ∧ ActR C w X M ∧ ImgR C X M 0 69 70 73 ∧ ImgR C X M 1 86 87 90
def RelT (X M : Mm) : Prop := (∃ n : Nat, n ≤ 600 ∧ X.1 0 8 = iI n ∧ M.1 0 4 = iI n) ∧ ∃ tp : Nat → Int, ∀ i, i < 600 → -128 ≤ tp i ∧ tp i ≤ 127 ∧ X.1 1 i = iI (tp i) ∧ M.1 1 i = iI (tp i % 256)
def Rel (X M : Mm) : Prop := RelT X M ∧ M.1 0 1 = X.1 0 10 ∧ M.1 0 2 = X.1 0 12 ∧ M.1 0 7 = X.1 0 11 ∧ ((X.1 0 9 = 0 ∧ M.1 0 28 = 0 ∧ M.1 0 22 = 0 ∧ M.1 0 23 = 0) ∨ (X.1 0 9 = 1 ∧ M.1 0 28 = 1 ∧ ∃ C w S Q, Tld C w S Q X M))
/-! what may change under it -/
def SmX (X Y : Mm) : Prop := ∀ q, ((2 ≤ q ∧ q ≤ 10) ∨ (32 ≤ q ∧ q ≤ 47) ∨ (65 ≤ q ∧ q ≤ 102)) → Y.1 q = X.1 q
def SmM (M N : Mm) : Prop := (∀ q, q = 10 ∨ q = 13 ∨ q = 14 ∨ q = 15 ∨ q = 17 ∨ q = 18 → N.1 q = M.1 q) ∧ (∀ q i, 4 ≤ q → q ≤ 9 → i < 6 → i < 4 ∨ q < 7 → N.1 q i = M.1 q i) ∧ (∀ i, i = 22 ∨ i = 23 ∨ i = 24 ∨ i = 35 → N.1 0 i = M.1 0 i) ∧ (∀ i, i < 3 → N.2 2 i = M.2 2 i) ∧ (∀ i, i < 6 → N.2 3 i = M.2 3 i)
theorem RunR.fr {C : SS} {w : Nat → Int} {S Q : SS} {p q : Nat} {X Y : Mm} {r v r2 v2 : Nat → Int32} (h : RunR C w S Q p q X r v) (hq : ∀ i, q ≤ i → i ≤ q + 2 → Y.1 i = X.1 i) (hp : ∀ i, p ≤ i → i ≤ p + 12 → Y.1 i = X.1 i) (hr : r2 = r) (hv : v2 = v) : RunR C w S Q p q Y r2 v2 := by
  subst hr; subst hv
  obtain ⟨h1, h2, h3, h4, h5, h6, h7, h8, h9⟩ := h
  refine ⟨h1, h2, h3, h4, h5, ?_, h7.other hp, h8, h9⟩
  unfold WyX
  rw [hq q (by omega) (by omega), hq (q + 1) (by omega) (by omega), hq (q + 2) (by omega) (by omega)]
  exact h6
theorem ActR.fr {C : SS} {w : Nat → Int} {X M Y N : Mm} (h : ActR C w X M) (e1 : Y.1 65 = X.1 65) (e2 : Y.1 66 = X.1 66) (e3 : Y.1 67 = X.1 67) (e4 : N.1 0 35 = M.1 0 35) (e5 : N.1 13 = M.1 13) : ActR C w Y N := by
  unfold ActR
  rw [e1, e2, e3, e4, e5]
  exact h
theorem NamR.fr {C : SS} {X M Y N : Mm} (hO : CfgOk C) (h : NamR C X M) (e1 : Y.1 9 = X.1 9) (e2 : Y.1 10 = X.1 10) (e3 : ∀ i, i < 3 → N.2 2 i = M.2 2 i) (e4 : ∀ i, i < 6 → N.2 3 i = M.2 3 i) : NamR C Y N := by
  have h3 := hO.2.1
  have h6 := hO.2.2.2.1
  refine ⟨fun k hk => ?_, fun b hb => ?_⟩
  · obtain ⟨z, l, q⟩ := h.1 k hk
    refine ⟨z, l, ?_⟩
    unfold NmR
    rw [e1, e2, e3 k (by omega)]
    exact q
  · obtain ⟨z, l, q⟩ := h.2 b hb
    refine ⟨z, l, ?_⟩
    unfold NmR
    rw [e1, e2, e4 b (by omega)]
    exact q
theorem ImgR.fr {C : SS} {X M Y N : Mm} {i o q p : Nat} (h : ImgR C X M i o q p) (e1 : Y.1 o = X.1 o) (hq : ∀ i, q ≤ i → i ≤ q + 2 → Y.1 i = X.1 i) (hp : ∀ i, p ≤ i → i ≤ p + 12 → Y.1 i = X.1 i) (e2 : N.1 18 = M.1 18) (e3 : N.1 17 = M.1 17) (e4 : N.1 14 = M.1 14) : ImgR C Y N i o q p := by
  unfold ImgR
  rw [e1, e2, e3, e4]
  refine ⟨h.1, ?_⟩
  rcases h.2 with h | ⟨h, w, S, Q, r⟩
  · exact Or.inl h
  · exact Or.inr ⟨h, w, S, Q, r.fr hq hp rfl rfl⟩
theorem CfgX.fr {C : SS} {X Y : Mm} (h : CfgX C X) (e : ∀ q, 2 ≤ q → q ≤ 8 → Y.1 q = X.1 q) : CfgX C Y := by
  unfold CfgX
  rw [e 2 (by omega) (by omega), e 3 (by omega) (by omega), e 4 (by omega) (by omega), e 5 (by omega) (by omega), e 6 (by omega) (by omega), e 7 (by omega) (by omega), e 8 (by omega) (by omega)]
  exact h
theorem CfgM.fr {C : SS} {M N : Mm} (h : CfgM C M) (e1 : ∀ i, i = 22 ∨ i = 23 ∨ i = 24 → N.1 0 i = M.1 0 i) (e2 : ∀ q i, 4 ≤ q → q ≤ 9 → i < 6 → i < 4 ∨ q < 7 → N.1 q i = M.1 q i) : CfgM C N := by
  obtain ⟨h1, h2, h3, h4, h5⟩ := h
  refine ⟨(e1 22 (by omega)).trans h1, (e1 23 (by omega)).trans h2, (e1 24 (by omega)).trans h3, fun b hb ht => ?_, fun i hi ht => ?_⟩
  · rw [e2 4 b (by omega) (by omega) hb (by omega), e2 5 b (by omega) (by omega) hb (by omega), e2 6 b (by omega) (by omega) hb (by omega)]; exact h4 b hb ht
  · rw [e2 7 i (by omega) (by omega) (by omega) (by omega), e2 8 i (by omega) (by omega) (by omega) (by omega), e2 9 i (by omega) (by omega) (by omega) (by omega)]; exact h5 i hi ht
theorem Tld.fr {C : SS} {w : Nat → Int} {S Q : SS} {X M Y N : Mm} (h : Tld C w S Q X M) (hx : SmX X Y) (hm : SmM M N) : Tld C w S Q Y N := by
  obtain ⟨h1, h2, h3, h4, h5, h6, h7, h8⟩ := h
  obtain ⟨m1, m2, m3, m4, m5⟩ := hm
  refine ⟨h1, h2.fr (fun q _ _ => hx q (by omega)), h3.fr (fun i hi => m3 i (by omega)) m2, h4.fr (fun i _ _ => hx i (by omega)) (fun i _ _ => hx i (by omega)) (m1 15 (by omega)) (m1 10 (by omega)), h5.fr h1 (hx 9 (by omega)) (hx 10 (by omega)) m4 m5, h6.fr (hx 65 (by omega)) (hx 66 (by omega)) (hx 67 (by omega)) (m3 35 (by omega)) (m1 13 (by omega)), ?_, ?_⟩
  · exact h7.fr (hx 69 (by omega)) (fun i _ _ => hx i (by omega)) (fun i _ _ => hx i (by omega)) (m1 18 (by omega)) (m1 17 (by omega)) (m1 14 (by omega))
  · exact h8.fr (hx 86 (by omega)) (fun i _ _ => hx i (by omega)) (fun i _ _ => hx i (by omega)) (m1 18 (by omega)) (m1 17 (by omega)) (m1 14 (by omega))
theorem SmX.rf {X : Mm} : SmX X X := fun _ _ => rfl
theorem SmX.tr {X Y Z : Mm} (h : SmX X Y) (h2 : SmX Y Z) : SmX X Z := fun q hq => (h2 q hq).trans (h q hq)
theorem SmM.rf {M : Mm} : SmM M M := ⟨fun _ _ => rfl, fun _ _ _ _ _ _ => rfl, fun _ _ => rfl, fun _ _ => rfl, fun _ _ => rfl⟩
theorem SmM.tr {M N O : Mm} (h : SmM M N) (h2 : SmM N O) : SmM M O := ⟨fun q hq => (h2.1 q hq).trans (h.1 q hq), fun q i a b c d => (h2.2.1 q i a b c d).trans (h.2.1 q i a b c d), fun i hi => (h2.2.2.1 i hi).trans (h.2.2.1 i hi), fun i hi => (h2.2.2.2.1 i hi).trans (h.2.2.2.1 i hi), fun i hi => (h2.2.2.2.2 i hi).trans (h.2.2.2.2 i hi)⟩
theorem SmX.u {X Y : Mm} {q i : Nat} {x : Int32} (h : SmX X Y) (hq : q < 2 ∨ (10 < q ∧ q < 32) ∨ (47 < q ∧ q < 65) ∨ 102 < q) : SmX X (u1 Y q i x) := fun r hr => by rw [u1_ne (by omega)]; exact h r hr
theorem SmM.u0 {M N : Mm} {i : Nat} {x : Int32} (h : SmM M N) (hi : i ≠ 22 ∧ i ≠ 23 ∧ i ≠ 24 ∧ i ≠ 35) : SmM M (u1 N 0 i x) := by
  refine h.tr ⟨fun q hq => u1_ne (by omega), fun q j a b c d => by rw [u1_ne (by omega)], fun j hj => ?_, fun _ _ => rfl, fun _ _ => rfl⟩
  rw [u1_at, if_neg (by omega)]
/-- trouble and place are set; all else stands -/
theorem Rel.set {X M : Mm} (h : Rel X M) (v a : Int32) : Rel (u1 (u1 X 0 10 v) 0 12 a) (u1 (u1 M 0 1 v) 0 2 a) := by
  obtain ⟨⟨⟨n, n1, n2, n3⟩, tp, ht⟩, h1, h2, h3, h4⟩ := h
  have aX : ∀ j, j ≠ 10 → j ≠ 12 → (u1 (u1 X 0 10 v) 0 12 a).1 0 j = X.1 0 j := fun j z1 z2 => by rw [u1_at, if_neg (by omega), u1_at, if_neg (by omega)]
  have aM : ∀ j, j ≠ 1 → j ≠ 2 → (u1 (u1 M 0 1 v) 0 2 a).1 0 j = M.1 0 j := fun j z1 z2 => by rw [u1_at, if_neg (by omega), u1_at, if_neg (by omega)]
  refine ⟨⟨⟨n, n1, by rw [aX 8 (by decide) (by decide)]; exact n2, by rw [aM 4 (by decide) (by decide)]; exact n3⟩, tp, fun i hi => ?_⟩, ?_, ?_, ?_, ?_⟩
  · rw [u1_ne (by decide), u1_ne (by decide), u1_ne (by decide), u1_ne (by decide)]; exact ht i hi
  · rw [u1_at, if_neg (by decide), u1_at, if_pos (by decide), u1_at, if_neg (by decide), u1_at, if_pos (by decide)]
  · rw [u1_at, if_pos (by decide), u1_at, if_pos (by decide)]
  · rw [aM 7 (by decide) (by decide), aX 11 (by decide) (by decide)]; exact h3
  · rw [aX 9 (by decide) (by decide), aM 28 (by decide) (by decide), aM 22 (by decide) (by decide), aM 23 (by decide) (by decide)]
    rcases h4 with h4 | ⟨h4, h5, C, w, S, Q, h6⟩
    · exact Or.inl h4
    · exact Or.inr ⟨h4, h5, C, w, S, Q, h6.fr ((SmX.rf.u (by omega)).u (by omega)) ((SmM.rf.u0 (by decide)).u0 (by decide))⟩
theorem Rel.th {X M : Mm} (h : Rel X M) (v : Int32) : Rel X (u1 M 0 0 v) := by
  obtain ⟨⟨⟨n, n1, n2, n3⟩, tp, ht⟩, h1, h2, h3, h4⟩ := h
  have aM : ∀ j, j ≠ 0 → (u1 M 0 0 v).1 0 j = M.1 0 j := fun j z1 => by rw [u1_at, if_neg (by omega)]
  refine ⟨⟨⟨n, n1, n2, by rw [aM 4 (by decide)]; exact n3⟩, tp, fun i hi => ?_⟩, by rw [aM 1 (by decide)]; exact h1, by rw [aM 2 (by decide)]; exact h2, by rw [aM 7 (by decide)]; exact h3, ?_⟩
  · rw [u1_ne (by decide)]; exact ht i hi
  · rw [aM 28 (by decide), aM 22 (by decide), aM 23 (by decide)]
    rcases h4 with h4 | ⟨h4, h5, C, w, S, Q, h6⟩
    · exact Or.inl h4
    · exact Or.inr ⟨h4, h5, C, w, S, Q, h6.fr SmX.rf (SmM.rf.u0 (by decide))⟩
/-- both answer alike -/
def An (x y : Option (Int32 × Mm)) : Prop := ∃ r X M, x = some (r, X) ∧ y = some (r, M) ∧ Rel X M
theorem An_ref {X M : Mm} (h : Rel X M) (v : Int32) : An ((f_P_refused_0 v X).bind fun q => some (q.1, q.2)) ((f_M_refused_0 v M).bind fun q => some (q.1, q.2)) := ⟨_, _, _, rfl, rfl, h.set v (-1)⟩
theorem An_good {X M : Mm} (h : Rel X M) (v : Int32) : An ((f_P_granted_0 v X).bind fun q => some (q.1, q.2)) ((f_M_good_0 v M).bind fun q => some (q.1, q.2)) := ⟨_, _, _, rfl, rfl, h.set 0 (-1)⟩
theorem An_go {X M : Mm} (h : Rel X M) {v v2 : Int32} (e : v = v2) : An ((f_P_granted_0 v X).bind fun q => some (q.1, q.2)) ((f_M_good_0 v2 M).bind fun q => some (q.1, q.2)) := e ▸ An_good h v
theorem An_if {c d : Prop} [Decidable c] [Decidable d] {x y x2 y2 : Option (Int32 × Mm)} (e : c ↔ d) (h1 : c → An x x2) (h2 : ¬ c → An y y2) : An (if c then x else y) (if d then x2 else y2) := by
  by_cases hc : c
  · rw [if_pos hc, if_pos (e.mp hc)]; exact h1 hc
  · rw [if_neg hc, if_neg (fun q => hc (e.mpr q))]; exact h2 hc
/-- is a number within? -/
theorem wi {p : Int32} {n : Int} (hn : -1 ≤ n) (hn2 : n < 2147483647) : (∃ b : Nat, p = iI b ∧ (b : Int) ≤ n ∧ f_P_within p (iI n) = some 1) ∨ (f_P_within p (iI n) = some 0 ∧ ∀ b : Nat, (b : Int) ≤ n → p ≠ iI b) := by
  have e := iI_of p
  have b1 := Int32.le_toInt p
  have b2 := Int32.toInt_lt p
  generalize p.toInt = z at *
  subst e
  unfold f_P_within
  have c1 : (iI z < 0) ↔ z < 0 := by rw [l0]; exact iI_lt (by omega) (by omega) (by omega) (by omega)
  have c2 : (iI n < iI z) ↔ n < z := iI_lt (by omega) (by omega) (by omega) (by omega)
  by_cases e1 : z < 0
  · right
    refine ⟨by rw [if_pos (c1.mpr e1)], fun b hb q => ?_⟩
    have := (iI_eq (a := z) (b := b) (by omega) (by omega) (by omega) (by omega)).mp q
    omega
  · rw [if_neg (fun q => e1 (c1.mp q))]
    by_cases e2 : n < z
    · right
      refine ⟨by rw [if_pos (c2.mpr e2)], fun b hb q => ?_⟩
      have := (iI_eq (a := z) (b := b) (by omega) (by omega) (by omega) (by omega)).mp q
      omega
    · left
      exact ⟨z.toNat, by congr 1; omega, by omega, if_neg (fun q => e2 (c2.mp q))⟩
theorem in_wi (p q : Int32) : f_M_in p 0 q = f_P_within p q := rfl

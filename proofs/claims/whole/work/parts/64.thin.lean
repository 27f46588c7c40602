def OnW (M N : Mm) : Prop := (∀ q, q ≠ 12 → q ≠ 16 → N.1 q = M.1 q) ∧ N.2 = M.2
theorem OnW.rf {M : Mm} : OnW M M := ⟨fun _ _ _ => rfl, rfl⟩
theorem OnW.tr {M N O : Mm} (h : OnW M N) (h2 : OnW N O) : OnW M O := ⟨fun q a b => (h2.1 q a b).trans (h.1 q a b), h2.2.trans h.2⟩
theorem OnW.u {M N : Mm} {i : Nat} {x : Int32} (h : OnW M N) : OnW M (u1 N 12 i x) := h.tr ⟨fun q a _ => u1_ne a, rfl⟩
theorem Only.w {M N : Mm} (h : Only 16 M N) : OnW M N := ⟨fun q _ b => h.1 q b, h.2⟩
theorem OnW.cfg {M N : Mm} {C : SS} (h : OnW M N) (hC : CfgM C M) : CfgM C N := hC.fr (fun i _ => by rw [h.1 0 (by decide) (by decide)]) (fun q i _ _ _ _ => by rw [h.1 q (by omega) (by omega)])
theorem WyM_put {u : Nat → Int} {M : Mm} {c : Nat} {v : Int} (h : WyM 12 u M) : WyM 12 (uw u c v) (u1 M 12 c (iI v)) := fun j hj => by
  rw [u1_at]
  by_cases ej : j = c
  · rw [if_pos ⟨rfl, ej⟩, ej, uw_eq]
  · rw [if_neg (fun q => ej q.2), uw_ne ej]; exact h j hj
/-- cells that aren't told are passed by -/
theorem ps_skip {C : SS} {s : TS} {t : Nat} (hO : CfgOk C) (ht : t ≤ 2000) (hs : TOk C s) {n : Nat} : ∀ d, n + d ≤ 18 → (∀ c, n ≤ c → c < n + d → ¬ (((c / 3 : Nat) : Int) < C 0 1 ∧ ((c % 3 : Nat) : Int) < C 0 0)) → psS C t s (n + d) = psS C t s n
  | 0, _, _ => rfl
  | d + 1, hd, h => by
    have ih := ps_skip hO ht hs d (by omega) (fun c a b => h c a (by omega))
    show tkS C t (n + d) (psS C t s (n + d)) = _
    rw [ih]
    have ok := ps_ok hO ht hs n (by omega)
    have z := (ok.2.1 ((n + d) / 3) ((n + d) % 3) (by omega) (by omega) (h (n + d) (by omega) (by omega))).1
    rw [show 3 * ((n + d) / 3) + (n + d) % 3 = n + d by omega] at z
    exact if_pos z
theorem thin_Mi {C : SS} {s : TS} {M : Mm} {t b : Nat} (rc : Int32 → Int32 → Int32 → Int32 → Mm → Option Mm) (hO : CfgOk C) (hC : CfgM C M) (ht : t ≤ 2000) (hs : TOk C s) (hb : (b : Int) < C 0 1) (h : WyM 12 (psS C t s (3 * b)).1 M) : ∃ N, lp_M_takesOut_0_29 rc FW (iI t) (iI (psS C t s (3 * b)).2.1) (iI (psS C t s (3 * b)).2.2) (iI b) 0 M = rc (iI t) (iI (psS C t s (3 * (b + 1))).2.1) (iI (psS C t s (3 * (b + 1))).2.2) (iI ((b + 1 : Nat) : Int)) N ∧ WyM 12 (psS C t s (3 * (b + 1))).1 N ∧ OnW M N := by
  have hb6 := sz6 hO hb
  have hk1 := hO.1
  have hk3 := hO.2.1
  have e3 : psS C t s (3 * (b + 1)) = psS C t s (3 * b + (C 0 0).toNat) := by
    have := ps_skip (t := t) hO ht hs (n := 3 * b + (C 0 0).toNat) (3 - (C 0 0).toNat) (by omega) (fun c a d => by omega)
    rw [← this]
    congr 1
    omega
  rw [e3]
  have loop := loop_up (σ := Int32 × Int32 × Int32 × Mm) (γ := Option Mm) (fun f z => lp_M_takesOut_0_29 rc f (iI t) z.1 z.2.1 (iI b) z.2.2.1 z.2.2.2) (C 0 0).toNat (fun i z => z.1 = iI (psS C t s (3 * b + i)).2.1 ∧ z.2.1 = iI (psS C t s (3 * b + i)).2.2 ∧ z.2.2.1 = iI (i : Int) ∧ WyM 12 (psS C t s (3 * b + i)).1 z.2.2.2 ∧ OnW M z.2.2.2) (fun z => rc (iI t) z.1 z.2.1 (iI ((b + 1 : Nat) : Int)) z.2.2.2) ?_ ?_ FW (FW_gt (by omega)) (iI (psS C t s (3 * b)).2.1, iI (psS C t s (3 * b)).2.2, iI 0, M) ⟨rfl, rfl, rfl, h, OnW.rf⟩
  · obtain ⟨⟨a, d, c, Y⟩, ⟨e1, e2, -, r, o⟩, ev⟩ := loop
    dsimp only at e1 e2 r o ev
    exact ⟨Y, by rw [l0, ← e1, ← e2]; exact ev, r, o⟩
  · rintro f i ⟨a, d, c, Y⟩ hi ⟨ea, eb, ec, r, o⟩
    dsimp only at ea eb ec r o
    subst ea; subst eb; subst ec
    have ok := ps_ok hO ht hs (3 * b + i) (by omega)
    have ep : psS C t s (3 * b + (i + 1)) = tkS C t (3 * b + i) (psS C t s (3 * b + i)) := rfl
    obtain ⟨ok2, key⟩ := tk_ok hO ht ok (show 3 * b + i < 18 by omega)
    rw [ep]
    generalize psS C t s (3 * b + i) = g at r ok ok2 key ⊢
    have c0 : ¬ (iI (C 0 0) ≤ iI (i : Int)) := by rw [iI_le (by omega) (by omega) (by omega) (by omega)]; omega
    have rr : ∀ (u : Nat → Int) (Z : Mm), WyM 12 u Z → rd (Z.1 12) 37 (iI (3 * (b : Int) + i)) = some (iI (u (3 * b + i))) := fun u Z hZ => rdw hZ (3 * b + i) (by omega) (by omega)
    have ww : ∀ (Z : Mm) (v : Int), wr Z 12 37 (iI (3 * (b : Int) + i)) (iI v) = some (u1 Z 12 (3 * b + i) (iI v)) := fun Z v => by rw [wr_iI (by omega) (by omega) (by omega), show (3 * (b : Int) + i).toNat = 3 * b + i by omega]
    have ei : iI (i : Int) + 1 = iI ((i + 1 : Nat) : Int) := by rw [l1, iI_add]; rfl
    have hk : Y.1 0 22 = iI (C 0 0) := (o.cfg hC).1
    by_cases e0 : g.1 (3 * b + i) = 0
    · have et : tkS C t (3 * b + i) g = g := if_pos e0
      rw [et]
      refine ⟨(iI g.2.1, iI g.2.2, iI ((i + 1 : Nat) : Int), Y), ?_, rfl, rfl, rfl, r, o⟩
      show blp_M_takesOut_0_29 rc (lp_M_takesOut_0_29 rc f) _ _ _ _ _ Y = _
      unfold blp_M_takesOut_0_29 j_M_takesOut_0_109
      rw [hk, if_neg c0, ixc, rr _ _ r, Option.bind_some, if_pos (by rw [e0, ← l0]), ei]
    · obtain ⟨k1, k2, k3, k4⟩ := key e0
      have cz : ¬ (iI (g.1 (3 * b + i)) = 0) := by rw [l0, iI_eq (by omega) (by omega) (by omega) (by omega)]; omega
      have r1 := WyM_put (c := 3 * b + i) (v := g.1 (3 * b + i) - 1) r
      have o1 : OnW M (u1 Y 12 (3 * b + i) (iI (g.1 (3 * b + i) - 1))) := o.u
      obtain ⟨Z, z1, z2⟩ := M_yield (t := t) hO (o1.cfg hC) r1 k1 ht
      have yb := yi_bd (t := t) hO k1 ht
      have rZ : WyM 12 (uw g.1 (3 * b + i) (g.1 (3 * b + i) - 1)) Z := z2.wy (by decide) r1
      have oZ : OnW M Z := o1.tr z2.w
      have c1 : (iI g.2.1 ≤ iI (yiS C (uw g.1 (3 * b + i) (g.1 (3 * b + i) - 1)) t)) ↔ g.2.1 ≤ yiS C (uw g.1 (3 * b + i) (g.1 (3 * b + i) - 1)) t := by
        have := ok.2.2.1; have := ok.2.2.2.1
        exact iI_le (by omega) (by omega) (by omega) (by omega)
      have ev : lp_M_takesOut_0_29 rc (f + 1) (iI t) (iI g.2.1) (iI g.2.2) (iI b) (iI (i : Int)) Y = if iI g.2.1 ≤ iI (yiS C (uw g.1 (3 * b + i) (g.1 (3 * b + i) - 1)) t) then lp_M_takesOut_0_29 rc f (iI t) (iI (yiS C (uw g.1 (3 * b + i) (g.1 (3 * b + i) - 1)) t)) (iI 1) (iI b) (iI ((i + 1 : Nat) : Int)) Z else lp_M_takesOut_0_29 rc f (iI t) (iI g.2.1) (iI g.2.2) (iI b) (iI ((i + 1 : Nat) : Int)) (u1 Z 12 (3 * b + i) (iI (g.1 (3 * b + i)))) := by
        show blp_M_takesOut_0_29 rc (lp_M_takesOut_0_29 rc f) _ _ _ _ _ Y = _
        unfold blp_M_takesOut_0_29 j_M_takesOut_0_109
        rw [hk, if_neg c0, ixc, rr _ _ r, Option.bind_some, if_neg cz, Option.bind_some, show iI (g.1 (3 * b + i)) - 1 = iI (g.1 (3 * b + i) - 1) by rw [l1, iI_sub], ww, Option.bind_some, z1, Option.bind_some]
        dsimp only
        rw [rr _ _ rZ, Option.bind_some, uw_eq, show iI (g.1 (3 * b + i) - 1) + 1 = iI (g.1 (3 * b + i)) by rw [l1, iI_add, show g.1 (3 * b + i) - 1 + 1 = g.1 (3 * b + i) by omega], ww, Option.bind_some, ei, ← l1]
      by_cases e1 : g.2.1 ≤ yiS C (uw g.1 (3 * b + i) (g.1 (3 * b + i) - 1)) t
      · have et : tkS C t (3 * b + i) g = (uw g.1 (3 * b + i) (g.1 (3 * b + i) - 1), yiS C (uw g.1 (3 * b + i) (g.1 (3 * b + i) - 1)) t, 1) := by unfold tkS; rw [if_neg e0, if_pos e1]
        rw [et]
        exact ⟨(_, _, _, Z), ev.trans (if_pos (c1.mpr e1)), rfl, rfl, rfl, rZ, oZ⟩
      · have et : tkS C t (3 * b + i) g = g := by unfold tkS; rw [if_neg e0, if_neg e1]
        rw [et]
        refine ⟨(_, _, _, _), ev.trans (if_neg (fun q => e1 (c1.mp q))), rfl, rfl, rfl, ?_, oZ.u⟩
        have := WyM_put (c := 3 * b + i) (v := g.1 (3 * b + i)) rZ
        rw [uw_back rfl] at this
        exact this
  · rintro f ⟨a, d, c, Y⟩ ⟨ea, eb, ec, r, o⟩
    dsimp only at ea eb ec r o
    subst ea; subst eb; subst ec
    show blp_M_takesOut_0_29 rc (lp_M_takesOut_0_29 rc f) _ _ _ _ _ Y = _
    unfold blp_M_takesOut_0_29 j_M_takesOut_0_115
    have c0 : iI (C 0 0) ≤ iI ((C 0 0).toNat : Int) := (iI_le (by omega) (by omega) (by omega) (by omega)).mpr (by omega)
    rw [(o.cfg hC).1, if_pos c0, l1, iI_add]
    rfl
theorem thin_M {C : SS} {s : TS} {M : Mm} {t : Nat} (rc : Int32 → Int32 → Int32 → Mm → Option Mm) (hO : CfgOk C) (hC : CfgM C M) (ht : t ≤ 2000) (hs : TOk C s) (h : WyM 12 s.1 M) : ∃ N, lp_M_takesOut_0_17 rc FW (iI t) (iI s.2.1) (iI s.2.2) 0 M = rc (iI t) (iI (psS C t s 18).2.1) (iI (psS C t s 18).2.2) N ∧ WyM 12 (psS C t s 18).1 N ∧ OnW M N := by
  have hb1 := hO.2.2.1
  have hb6 := hO.2.2.2.1
  have e3 : psS C t s 18 = psS C t s (3 * (C 0 1).toNat) := by
    have := ps_skip (t := t) hO ht hs (n := 3 * (C 0 1).toNat) (18 - 3 * (C 0 1).toNat) (by omega) (fun c a d => by omega)
    rw [← this]
    congr 1
    omega
  rw [e3]
  have loop := loop_up (σ := Int32 × Int32 × Int32 × Mm) (γ := Option Mm) (fun f z => lp_M_takesOut_0_17 rc f (iI t) z.1 z.2.1 z.2.2.1 z.2.2.2) (C 0 1).toNat (fun i z => z.1 = iI (psS C t s (3 * i)).2.1 ∧ z.2.1 = iI (psS C t s (3 * i)).2.2 ∧ z.2.2.1 = iI (i : Int) ∧ WyM 12 (psS C t s (3 * i)).1 z.2.2.2 ∧ OnW M z.2.2.2) (fun z => rc (iI t) z.1 z.2.1 z.2.2.2) ?_ ?_ FW (FW_gt (by omega)) (iI s.2.1, iI s.2.2, iI 0, M) ⟨rfl, rfl, rfl, h, OnW.rf⟩
  · obtain ⟨⟨a, d, c, Y⟩, ⟨e1, e2, -, r, o⟩, ev⟩ := loop
    dsimp only at e1 e2 r o ev
    exact ⟨Y, by rw [l0, ← e1, ← e2]; exact ev, r, o⟩
  · rintro f i ⟨a, d, c, Y⟩ hi ⟨ea, eb, ec, r, o⟩
    dsimp only at ea eb ec r o
    subst ea; subst eb; subst ec
    obtain ⟨Z, z1, z2, z3⟩ := thin_Mi (lp_M_takesOut_0_17 rc f) hO (o.cfg hC) ht hs (b := i) (by omega) r
    refine ⟨(_, _, _, Z), ?_, rfl, rfl, rfl, z2, o.tr z3⟩
    show blp_M_takesOut_0_17 rc (lp_M_takesOut_0_17 rc f) _ _ _ _ Y = _
    unfold blp_M_takesOut_0_17
    have c0 : ¬ (iI (C 0 1) ≤ iI (i : Int)) := by rw [iI_le (by omega) (by omega) (by omega) (by omega)]; omega
    rw [(o.cfg hC).2.1, if_neg c0, z1]
    rfl
  · rintro f ⟨a, d, c, Y⟩ ⟨ea, eb, ec, r, o⟩
    dsimp only at ea eb ec r o
    subst ea; subst eb; subst ec
    show blp_M_takesOut_0_17 rc (lp_M_takesOut_0_17 rc f) _ _ _ _ Y = _
    unfold blp_M_takesOut_0_17 j_M_takesOut_0_121
    have c0 : iI (C 0 1) ≤ iI ((C 0 1).toNat : Int) := (iI_le (by omega) (by omega) (by omega) (by omega)).mpr (by omega)
    rw [(o.cfg hC).2.1, if_pos c0]
theorem sm_ge {u : Nat → Int} (h : ∀ c, c < 18 → 0 ≤ u c ∧ u c ≤ 9) : ∀ n, n ≤ 18 → 0 ≤ sm u n ∧ sm u n ≤ 9 * n
  | 0, _ => ⟨Int.le_refl _, Int.le_refl _⟩
  | n + 1, hn => by
    have a := sm_ge h n (by omega)
    have b := h n (by omega)
    show 0 ≤ sm u n + u n ∧ sm u n + u n ≤ _
    omega
theorem TOk.bd {C : SS} {s : TS} (h : TOk C s) : 0 ≤ sm s.1 18 ∧ sm s.1 18 ≤ 162 := by
  have := sm_ge (u := s.1) (fun c hc => by
    by_cases e : s.1 c = 0
    · omega
    · obtain ⟨b, k, rfl, hb, hk⟩ := tk_told h hc e
      have := h.1.1 b k hb hk
      omega) 18 (by omega)
  omega
/-- the rounds of both -/
theorem thin_R {C : SS} {t : Nat} (hO : CfgOk C) (ht : t ≤ 2000) : ∀ (n : Nat) (x : Nat) (fu fv : Nat) (s : TS) (X M : Mm), TOk C s → s.2.2 = 1 → sm s.1 18 ≤ n → x + n ≤ 162 → n + 1 < fu → n + 1 < fv → CfgX C X → CfgM C M → WyX 49 s.1 X → WyM 12 s.1 M → ∃ u Y N, lp_Q_takeOut_48_11 fu (iI t) (iI s.2.1) 1 (iI x) X = some Y ∧ lp_M_takesOut_0_8 fv (iI t) (iI s.2.1) 1 M = some N ∧ WyOk C u ∧ w0 C u ∧ WyX 49 u Y ∧ WyM 12 u N ∧ OnP X Y ∧ OnW M N := by
  intro n
  induction n with
  | zero =>
    intro x fu fv s X M hs h1 hn hx hfu hfv hCX hCM hX hM
    obtain ⟨f, rfl⟩ : ∃ f, fu = (f + 1) + 1 := ⟨fu - 2, by omega⟩
    obtain ⟨g, rfl⟩ : ∃ g, fv = (g + 1) + 1 := ⟨fv - 2, by omega⟩
    have hs0 : TOk C (s.1, s.2.1, 0) := ⟨hs.1, hs.2.1, hs.2.2.1, hs.2.2.2.1, Or.inl rfl⟩
    obtain ⟨Y, y1, y2, y3⟩ := thin_X (s := (s.1, s.2.1, 0)) (x4 := iI x) (lp_Q_takeOut_48_11 (f + 1)) hO hCX ht hs0 hX
    obtain ⟨N, n1, n2, n3⟩ := thin_M (s := (s.1, s.2.1, 0)) (lp_M_takesOut_0_8 (g + 1)) hO hCM ht hs0 hM
    have ok := ps_ok hO ht hs0 18 (by omega)
    have dm := ps_sm hO ht hs0 18 (by omega)
    have bd := ok.bd
    have z : (psS C t (s.1, s.2.1, 0) 18).2.2 = 0 := by
      rcases ok.2.2.2.2 with q | q
      · exact q
      · rw [q] at dm; dsimp only at dm; omega
    refine ⟨(psS C t (s.1, s.2.1, 0) 18).1, Y, N, ?_, ?_, ok.1, ok.2.1, y2, n2, y3, n3⟩
    · show blp_Q_takeOut_48_11 (lp_Q_takeOut_48_11 (f + 1)) _ _ _ _ X = _
      unfold blp_Q_takeOut_48_11
      have c1 : ¬ (162 < iI (x : Int)) := by rw [show (162 : Int32) = iI 162 from rfl, iI_lt (by omega) (by omega) (by omega) (by omega)]; omega
      rw [if_neg n10, if_neg c1]
      rw [← l0] at y1
      rw [y1, z]
      show blp_Q_takeOut_48_11 (lp_Q_takeOut_48_11 f) _ _ _ _ Y = _
      unfold blp_Q_takeOut_48_11
      rw [if_pos l0.symm]
    · show blp_M_takesOut_0_8 (lp_M_takesOut_0_8 (g + 1)) _ _ _ M = _
      unfold blp_M_takesOut_0_8
      rw [if_neg n10]
      rw [← l0] at n1
      rw [n1, z]
      show blp_M_takesOut_0_8 (lp_M_takesOut_0_8 g) _ _ _ N = _
      unfold blp_M_takesOut_0_8
      rw [if_pos l0.symm]
  | succ n ih =>
    intro x fu fv s X M hs h1 hn hx hfu hfv hCX hCM hX hM
    obtain ⟨f, rfl⟩ : ∃ f, fu = (f + 1) + 1 := ⟨fu - 2, by omega⟩
    obtain ⟨g, rfl⟩ : ∃ g, fv = (g + 1) + 1 := ⟨fv - 2, by omega⟩
    have hs0 : TOk C (s.1, s.2.1, 0) := ⟨hs.1, hs.2.1, hs.2.2.1, hs.2.2.2.1, Or.inl rfl⟩
    obtain ⟨Y, y1, y2, y3⟩ := thin_X (s := (s.1, s.2.1, 0)) (x4 := iI x) (lp_Q_takeOut_48_11 (f + 1)) hO hCX ht hs0 hX
    obtain ⟨N, n1, n2, n3⟩ := thin_M (s := (s.1, s.2.1, 0)) (lp_M_takesOut_0_8 (g + 1)) hO hCM ht hs0 hM
    have ok := ps_ok hO ht hs0 18 (by omega)
    have dm := ps_sm hO ht hs0 18 (by omega)
    have bd := ok.bd
    have c1 : ¬ (162 < iI (x : Int)) := by rw [show (162 : Int32) = iI 162 from rfl, iI_lt (by omega) (by omega) (by omega) (by omega)]; omega
    rw [← l0] at y1 n1
    have vX : lp_Q_takeOut_48_11 (f + 1 + 1) (iI t) (iI s.2.1) 1 (iI x) X = lp_Q_takeOut_48_11 (f + 1) (iI t) (iI (psS C t (s.1, s.2.1, 0) 18).2.1) (iI (psS C t (s.1, s.2.1, 0) 18).2.2) (iI x + 1) Y := by
      show blp_Q_takeOut_48_11 (lp_Q_takeOut_48_11 (f + 1)) _ _ _ _ X = _
      unfold blp_Q_takeOut_48_11
      rw [if_neg n10, if_neg c1, y1]
    have vM : lp_M_takesOut_0_8 (g + 1 + 1) (iI t) (iI s.2.1) 1 M = lp_M_takesOut_0_8 (g + 1) (iI t) (iI (psS C t (s.1, s.2.1, 0) 18).2.1) (iI (psS C t (s.1, s.2.1, 0) 18).2.2) N := by
      show blp_M_takesOut_0_8 (lp_M_takesOut_0_8 (g + 1)) _ _ _ M = _
      unfold blp_M_takesOut_0_8
      rw [if_neg n10, n1]
    rw [vX, vM]
    rcases ok.2.2.2.2 with z | z
    · rw [z]
      refine ⟨(psS C t (s.1, s.2.1, 0) 18).1, Y, N, ?_, ?_, ok.1, ok.2.1, y2, n2, y3, n3⟩
      · show blp_Q_takeOut_48_11 (lp_Q_takeOut_48_11 f) _ _ _ _ Y = _
        unfold blp_Q_takeOut_48_11
        rw [if_pos l0.symm]
      · show blp_M_takesOut_0_8 (lp_M_takesOut_0_8 g) _ _ _ N = _
        unfold blp_M_takesOut_0_8
        rw [if_pos l0.symm]
    · rw [z] at dm
      dsimp only at dm
      obtain ⟨u, V, O, v1, o1, k1, k2, v2, o2, v3, o3⟩ := ih (x + 1) (f + 1) (g + 1) (psS C t (s.1, s.2.1, 0) 18) Y N ok z (by omega) (by omega) (by omega) (by omega) (y3.cfg hCX) (n3.cfg hCM) y2 n2
      refine ⟨u, V, O, ?_, ?_, k1, k2, v2, o2, y3.tr v3, n3.tr o3⟩
      · have ex : iI (x : Int) + 1 = iI ((x + 1 : Nat) : Int) := by rw [l1, iI_add]; rfl
        rw [z, ex, ← l1]; exact v1
      · rw [z, ← l1]; exact o1

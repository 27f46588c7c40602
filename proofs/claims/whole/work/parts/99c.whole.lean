theorem w_start (E : En) (q0 q1 oa : Nat) (f f1 : Nat → Nat) : ((([] ++ WX9 E q0 f) ++ WX10 E q1 f1) ++ [(oa, .inl (E.1 3, 1, .inr (.inl (fun _ => 0))))] : va_W) = LW E (adH q0 f) .null [] X0 (adH q1 f1) M0 oa (fun _ => 0) := by
  unfold LW ou
  rw [wX9, wX10]
  simp only [List.nil_append, List.append_assoc, List.append_nil]
set_option maxHeartbeats 4000000 in
set_option maxRecDepth 100000 in
/-- THE LAW, from its entry -/
theorem whole_start {p : Program} {e : Env} {s : State} {m : MethodId} {below : List Frame} {meth : Method} {c : Code} (l : Launch) (hflags : l.flags = flags0) {b L : Nat} {xs : Nat → Int32} (hL : L ≤ 3072) (C0 : lw_At p s m meth c b L xs) : W p l e room_1 s m #[Value.ref b] below meth c s.heap [] 0 0 (lw_Z below #[Value.ref b] s) (entryFrame m ([Value.ref b] : List Value).toArray 7) := by
  obtain ⟨hx, hb, hr, hml, hown, hts, hX, hbl, hlocks, hgv⟩ := C0
  have hst : l.stackTraces = false := by
    unfold Launch.stackTraces
    rw [hflags]
    decide +kernel
  have htT : ∀ w ∈ TB, w.before #[Value.ref b] s = true := fun w hw => hts w (List.mem_filter.mp hw).1
  have hA : ∀ q : Nat, s.heap.size ≤ q → (fun q : Nat => s.heap.size ≤ q) q := fun _ h => h
  have hnA : ∀ a : Nat, a < s.heap.size → ¬ (fun q : Nat => s.heap.size ≤ q) a := fun a h => Nat.not_le.mpr h
  obtain ⟨D, hD⟩ := start_D htT
  obtain ⟨adK, adV, hSt⟩ := start_str hnA hts hgv
  have hao := hts _ (g_l _ (List.mem_of_getElem? (i := 7) rfl))
  obtain ⟨c0, a0, r0⟩ := arr_of (htT _ (g_t _ (List.mem_of_getElem? (i := 0) rfl))) (fun _ h => h)
  obtain ⟨c1, a1, r1⟩ := arr_of (htT _ (g_t _ (List.mem_of_getElem? (i := 1) rfl))) (fun _ h => h)
  obtain ⟨c2, a2, r2⟩ := arr_of (htT _ (g_t _ (List.mem_of_getElem? (i := 2) rfl))) (fun _ h => h)
  obtain ⟨c3, a3, r3⟩ := arr_of (htT _ (g_t _ (List.mem_of_getElem? (i := 3) rfl))) (fun _ h => h)
  obtain ⟨c4, a4, r4⟩ := arr_ofq hao
  obtain ⟨E, hEe⟩ : ∃ E : En, E = (fun k => if k = 0 then c0 else if k = 1 then c1 else if k = 2 then c2 else if k = 3 then c3 else c4, fun _ => 0, .null, D, adK, adV) := ⟨_, rfl⟩
  have hE : strE E (fun q : Nat => s.heap.size ≤ q) s s.heap := by rw [hEe]; exact hSt _ _ _ _
  have hK : va_K E.2.2.2.1 vwCl (tysE E) s := by
    rw [hEe]
    refine ⟨hD, fun k q hk => ?_⟩
    match k, hk with
    | 0, hk => cases hk; exact ⟨a0, r0⟩
    | 1, hk => cases hk; exact ⟨a1, r1⟩
    | 2, hk => cases hk; exact ⟨a2, r2⟩
    | 3, hk => cases hk; exact ⟨a3, r3⟩
    | 4, hk => cases hk; exact ⟨a4, r4⟩
    | k + 5, hk => simp [tysE] at hk
  have hO : va_AO "PullCards$Image" s := va_AO.of hao
  have hf : ∀ w ∈ flG, w.before #[Value.ref b] s = true := flat_of_before _ hgv
  have hXs : exS (fun q : Nat => s.heap.size ≤ q) s s.heap := ⟨fun w hw => va_Nw.of (exK_on (ex_kind w hw)) (hts _ (ex_tab w hw)), vx_Zqof (hts _ (g_l _ (List.mem_of_getElem? (i := 4) rfl))) (hts _ (g_l _ (List.mem_of_getElem? (i := 6) rfl))) (hf _ g_us) hnA, vx_Zqof (hts _ (g_l _ (List.mem_of_getElem? (i := 5) rfl))) (hts _ (g_l _ (List.mem_of_getElem? (i := 6) rfl))) (hf _ g_ss) hnA⟩
  clear hEe
  obtain ⟨G, hG⟩ : ∃ G : Nat → List (Nat × Value) → List Value → NW → Prop, G = fun pc lv st N => ∀ (H : Heap) (locs : List Loc), va_P E.2.2.2.1 vwCl N.1 H → va_D (fun q : Nat => s.heap.size ≤ q) N.1 → va_S (fun q : Nat => s.heap.size ≤ q) s.heap H locs → ∀ ls : Array Slot, lv_has ls 7 lv → W p l e room_1 s m #[Value.ref b] below meth c H locs N.2.1 N.2.2 (lw_Z below #[Value.ref b] s) (F0 m pc ls st) := ⟨_, rfl⟩
  have h : NX l E RL code 7 (some .boolean) room_1 (XFL E b L xs) G := ⟨p, e, s, m, _, below, meth, c, _, _, hx, hb, hml, hr, hlocks, hown, htT, hK, hA, hO, ⟨⟨rfl, rfl, rfl, hX, hbl, hE⟩, hXs⟩, hG⟩
  have goal : G 0 [(0, .ref b)] [] ([], 0, 0) := by
    refine nx_newW (C := RX9) (T := TX9) (N := 13) (ci := 9) (k2 := 1) (n2 := 13) (fs := dflX9) h tyX9 inT9 tyX9_ok (g_t _ (List.mem_of_getElem? (i := 4) rfl)) (g_t _ (List.mem_of_getElem? (i := 23) rfl)) (g_t _ (List.mem_of_getElem? (i := 5) rfl)) rfl dfX9 rfl rfl ⟨Nat.le_of_ble_eq_true rfl, Nat.le_of_ble_eq_true rfl⟩ dL_law_0 (fun q0 => ?_)
    refine nx_dup h dL_law_3 rfl ?_
    refine nx_ctorW (k2 := 103) (n2 := 3989) (As := []) h (cX9_ci l E q0) (g_t _ (List.mem_of_getElem? (i := 8) rfl)) (g_t _ (List.mem_of_getElem? (i := 6) rfl)) (g_t _ (List.mem_of_getElem? (i := 7) rfl)) (g_t _ (List.mem_of_getElem? (i := 5) rfl)) rfl cdX9 ⟨by decide, by decide⟩ rfl (Nat.le_of_ble_eq_true rfl) rfl rfl ⟨Nat.le_of_ble_eq_true rfl, Nat.le_of_ble_eq_true rfl⟩ dL_law_4 (fun f => ?_)
    refine nx_astore_n (lv2 := [(1, .ref q0), (0, .ref b)]) h dL_law_7 (by decide) rfl ?_
    refine nx_newW (C := RX10) (T := TX10) (N := 41) (ci := 10) (k2 := 104) (n2 := 4030) (fs := dflX10) h tyX10 inT10 tyX10_ok (g_t _ (List.mem_of_getElem? (i := 9) rfl)) (g_t _ (List.mem_of_getElem? (i := 24) rfl)) (g_t _ (List.mem_of_getElem? (i := 10) rfl)) rfl dfX10 rfl rfl ⟨Nat.le_of_ble_eq_true rfl, Nat.le_of_ble_eq_true rfl⟩ dL_law_8 (fun q1 => ?_)
    refine nx_dup h dL_law_11 rfl ?_
    refine nx_ctorW (k2 := 123) (n2 := 103661) (As := []) h (cX10_ci l E q1) (g_t _ (List.mem_of_getElem? (i := 13) rfl)) (g_t _ (List.mem_of_getElem? (i := 11) rfl)) (g_t _ (List.mem_of_getElem? (i := 12) rfl)) (g_t _ (List.mem_of_getElem? (i := 10) rfl)) rfl cdX10 ⟨by decide, by decide⟩ rfl (Nat.le_of_ble_eq_true rfl) rfl rfl ⟨Nat.le_of_ble_eq_true rfl, Nat.le_of_ble_eq_true rfl⟩ dL_law_12 (fun f1 => ?_)
    refine nx_astore_n (lv2 := [(2, .ref q1), (1, .ref q0), (0, .ref b)]) h dL_law_15 (by decide) rfl ?_
    refine nx_iconst h 1 dL_law_16 rfl ?_
    refine nx_newaW (atype := .long) (ty := .long) (N := 1) (i := 3) (a0 := (1, .inr (.inl (fun _ => 0)))) (k2 := 124) (n2 := 103662) h (g_t _ (List.mem_of_getElem? (i := 3) rfl)) rfl rfl (fun _ => rfl) (by decide) (by decide) (by decide) rfl rfl ⟨Nat.le_of_ble_eq_true rfl, Nat.le_of_ble_eq_true rfl⟩ dL_law_17 (fun oa => ?_)
    refine nx_astore_n (lv2 := [(3, .ref oa), (2, .ref q1), (1, .ref q0), (0, .ref b)]) h dL_law_19 (by decide) rfl ?_
    refine nx_iconst h 0 dL_law_20 rfl ?_
    refine nx_istore (lv2 := [(4, .int 0), (3, .ref oa), (2, .ref q1), (1, .ref q0), (0, .ref b)]) h dL_law_21 (by decide) rfl ?_
    refine nx_re h (w_start E q0 q1 oa f f1) ?_
    exact law_loop hst hL h (L + 1) 0 (by omega) (by omega) (adH q0 f) (adH q1 f1) .null [] X0 M0 oa (fun _ => 0) (Or.inl ⟨rfl, rfl⟩) rel0
  rw [lg_entry_eq]
  rw [hG] at goal
  exact goal s.heap [] (fun k q h => by simp at h) ⟨fun i j p q h => by simp at h, fun k q h => by simp at h⟩ va_S.rf _ (lv_entry ([.ref b]) (n := 7) (Nat.le_of_ble_eq_true rfl))

/-- fuel of loops; not to be unfolded -/
noncomputable def FW : Nat := Classical.choose (⟨200000, rfl⟩ : ∃ n : Nat, n = 200000)
theorem FW_eq : FW = 200000 := Classical.choose_spec (⟨200000, rfl⟩ : ∃ n : Nat, n = 200000)
noncomputable def blp_P_putBytes_0_3 (rc3 : Int32 → Int32 → Mm → Option Mm) (x1 : Int32) (x2 : Int32) (M : Mm) : Option Mm :=
  if x2 < 0 then (
    some M
  ) else (
    if 600 ≤ (M.1 0 8) then (
      some M
    ) else (
      (wrB M 1 600 (M.1 0 8) (Int32.toInt8 (x1 >>> (x2 &&& 31))).toInt32).bind fun M3 =>
      (some (u1 M3 0 8 ((M3.1 0 8) + 1))).bind fun M4 =>
      rc3 x1 (x2 + (-8)) M4
    )
  )
noncomputable def lp_P_putBytes_0_3  : Nat → Int32 → Int32 → Mm → Option Mm
  | 0, _, _, _ => none
  | n + 1, x1, x2, M => blp_P_putBytes_0_3  (lp_P_putBytes_0_3  n) x1 x2 M
noncomputable def f_P_putBytes_0 (p0 : Int32) (M : Mm) : Option Mm :=
  lp_P_putBytes_0_3 FW p0 24 M
noncomputable def f_P_feed_0 (p0 : Int32) (p1 : Int32) (p2 : Int32) (p3 : Int32) (p4 : Int32) (M : Mm) : Option (Int32 × Mm) :=
  if ((M.1 0 8) + 20) ≤ 600 then (
    (f_P_putBytes_0 p0 M).bind fun M2 =>
    (f_P_putBytes_0 p1 M2).bind fun M3 =>
    (f_P_putBytes_0 p2 M3).bind fun M4 =>
    (f_P_putBytes_0 p3 M4).bind fun M5 =>
    (f_P_putBytes_0 p4 M5).bind fun M6 =>
    some ((M6.1 0 8), M6)
  ) else (
    some ((-1), M)
  )
noncomputable def f_P_refused_0 (p0 : Int32) (M : Mm) : Option (Int32 × Mm) :=
  (some (u1 M 0 10 p0)).bind fun M1 =>
  (some (u1 M1 0 12 (-1))).bind fun M2 =>
  some ((-1), M2)
noncomputable def f_K_isLetter_27 (p0 : Int32) (M : Mm) : Option Int32 :=
  (rd (M.1 1) 600 p0).bind fun v1 =>
  if v1 < 97 then (
    some 0
  ) else (
    (rd (M.1 1) 600 p0).bind fun v3 =>
    if 122 < v3 then (
      some 0
    ) else (
      some 1
    )
  )
noncomputable def f_K_isDigit_27 (p0 : Int32) (M : Mm) : Option Int32 :=
  (rd (M.1 1) 600 p0).bind fun v1 =>
  if v1 < 48 then (
    some 0
  ) else (
    (rd (M.1 1) 600 p0).bind fun v3 =>
    if 57 < v3 then (
      some 0
    ) else (
      some 1
    )
  )
noncomputable def j_K_scanWhole_27_44  (x1 : Int32) (x2 : Int32) (x3 : Int32) (x4 : Int32) (M : Mm) : Option Mm :=
  (wr M 30 601 x1 (x3 - x2)).bind fun M1 =>
  (rd (M1.1 30) 601 x1).bind fun v2 =>
  if 4 < v2 then (
    (wr M1 28 601 x1 5).bind fun M4 =>
    (wr M4 31 601 x1 x4).bind fun M5 =>
    some M5
  ) else (
    (wr M1 28 601 x1 2).bind fun M6 =>
    (wr M6 31 601 x1 x4).bind fun M7 =>
    some M7
  )
noncomputable def blp_K_scanWhole_27_5 (rc5 : Int32 → Int32 → Int32 → Int32 → Mm → Option Mm) (x1 : Int32) (x2 : Int32) (x3 : Int32) (x4 : Int32) (M : Mm) : Option Mm :=
  if (M.1 27 5) ≤ x3 then (
    j_K_scanWhole_27_44 x1 x2 x3 x4 M
  ) else (
    (f_K_isDigit_27 x3 M).bind fun v2 =>
    if v2 = 0 then (
      j_K_scanWhole_27_44 x1 x2 x3 x4 M
    ) else (
      (rd (M.1 1) 600 x3).bind fun v4 =>
      rc5 x1 x2 (x3 + 1) (((10 * x4) + v4) - 48) M
    )
  )
noncomputable def lp_K_scanWhole_27_5  : Nat → Int32 → Int32 → Int32 → Int32 → Mm → Option Mm
  | 0, _, _, _, _, _ => none
  | n + 1, x1, x2, x3, x4, M => blp_K_scanWhole_27_5  (lp_K_scanWhole_27_5  n) x1 x2 x3 x4 M
noncomputable def f_K_scanWhole_27 (p0 : Int32) (p1 : Int32) (M : Mm) : Option Mm :=
  lp_K_scanWhole_27_5 FW p0 p1 p1 0 M
noncomputable def j_K_isSpelled_27_30 (rc3 : Int32 → Int32 → Int32 → Int32 → Mm → Option Int32) (x1 : Int32) (x2 : Int32) (x3 : Int32) (x4 : Int32) (t0 : Int32) (M : Mm) : Option Int32 :=
  (sch 0 (x3 + x4)).bind fun v1 =>
  if v1 = t0 then (
    rc3 x1 x2 x3 (x4 + 1) M
  ) else (
    some 0
  )
noncomputable def blp_K_isSpelled_27_3 (rc3 : Int32 → Int32 → Int32 → Int32 → Mm → Option Int32) (x1 : Int32) (x2 : Int32) (x3 : Int32) (x4 : Int32) (M : Mm) : Option Int32 :=
  if 6 ≤ x4 then (
    some 1
  ) else (
    if x2 ≤ x4 then (
      j_K_isSpelled_27_30 rc3 x1 x2 x3 x4 32 M
    ) else (
      (rd (M.1 1) 600 (x1 + x4)).bind fun v3 =>
      j_K_isSpelled_27_30 rc3 x1 x2 x3 x4 v3 M
    )
  )
noncomputable def lp_K_isSpelled_27_3  : Nat → Int32 → Int32 → Int32 → Int32 → Mm → Option Int32
  | 0, _, _, _, _, _ => none
  | n + 1, x1, x2, x3, x4, M => blp_K_isSpelled_27_3  (lp_K_isSpelled_27_3  n) x1 x2 x3 x4 M
noncomputable def f_K_isSpelled_27 (p0 : Int32) (p1 : Int32) (p2 : Int32) (M : Mm) : Option Int32 :=
  lp_K_isSpelled_27_3 FW p0 p1 p2 0 M
noncomputable def j_K_scanWord_27_100 (rc66 : Int32 → Int32 → Int32 → Mm → Option Mm) (x1 : Int32) (x2 : Int32) (x4 : Int32) (M : Mm) : Option Mm :=
  rc66 x1 x2 (x4 + 1) M
noncomputable def blp_K_scanWord_27_66 (rc66 : Int32 → Int32 → Int32 → Mm → Option Mm) (x1 : Int32) (x2 : Int32) (x4 : Int32) (M : Mm) : Option Mm :=
  if 12 ≤ x4 then (
    some M
  ) else (
    (rd (M.1 30) 601 x1).bind fun v2 =>
    (f_K_isSpelled_27 x2 v2 (6 * x4) M).bind fun v3 =>
    if v3 = 0 then (
      j_K_scanWord_27_100 rc66 x1 x2 x4 M
    ) else (
      (wr M 31 601 x1 x4).bind fun M5 =>
      j_K_scanWord_27_100 rc66 x1 x2 x4 M5
    )
  )
noncomputable def lp_K_scanWord_27_66  : Nat → Int32 → Int32 → Int32 → Mm → Option Mm
  | 0, _, _, _, _ => none
  | n + 1, x1, x2, x4, M => blp_K_scanWord_27_66  (lp_K_scanWord_27_66  n) x1 x2 x4 M
noncomputable def j_K_scanWord_27_54  (x1 : Int32) (x2 : Int32) (t0 : Int32) (t1 : Int32) (M : Mm) : Option Mm :=
  (wr M 28 601 t1 t0).bind fun M1 =>
  (wr M1 31 601 x1 12).bind fun M2 =>
  lp_K_scanWord_27_66 FW x1 x2 0 M2
noncomputable def j_K_scanWord_27_24  (x1 : Int32) (x2 : Int32) (x3 : Int32) (M : Mm) : Option Mm :=
  (wr M 30 601 x1 (x3 - x2)).bind fun M1 =>
  (rd (M1.1 30) 601 x1).bind fun v2 =>
  if 6 < v2 then (
    j_K_scanWord_27_54 x1 x2 5 x1 M1
  ) else (
    j_K_scanWord_27_54 x1 x2 1 x1 M1
  )
noncomputable def blp_K_scanWord_27_2 (rc2 : Int32 → Int32 → Int32 → Mm → Option Mm) (x1 : Int32) (x2 : Int32) (x3 : Int32) (M : Mm) : Option Mm :=
  if (M.1 27 5) ≤ x3 then (
    j_K_scanWord_27_24 x1 x2 x3 M
  ) else (
    (f_K_isLetter_27 x3 M).bind fun v2 =>
    if v2 = 0 then (
      j_K_scanWord_27_24 x1 x2 x3 M
    ) else (
      rc2 x1 x2 (x3 + 1) M
    )
  )
noncomputable def lp_K_scanWord_27_2  : Nat → Int32 → Int32 → Int32 → Mm → Option Mm
  | 0, _, _, _, _ => none
  | n + 1, x1, x2, x3, M => blp_K_scanWord_27_2  (lp_K_scanWord_27_2  n) x1 x2 x3 M
noncomputable def f_K_scanWord_27 (p0 : Int32) (p1 : Int32) (M : Mm) : Option Mm :=
  lp_K_scanWord_27_2 FW p0 p1 p1 M
noncomputable def f_K_scanToken_27 (p0 : Int32) (p1 : Int32) (M : Mm) : Option Mm :=
  (wr M 29 601 p0 p1).bind fun M1 =>
  (f_K_isLetter_27 p1 M1).bind fun v2 =>
  if v2 = 0 then (
    (f_K_isDigit_27 p1 M1).bind fun v4 =>
    if v4 = 0 then (
      (rd (M1.1 1) 600 p1).bind fun v6 =>
      if v6 = 59 then (
        (wr M1 28 601 p0 3).bind fun M14 =>
        (wr M14 30 601 p0 1).bind fun M15 =>
        some M15
      ) else (
        (rd (M1.1 1) 600 p1).bind fun v8 =>
        if v8 = 44 then (
          (wr M1 28 601 p0 4).bind fun M12 =>
          (wr M12 30 601 p0 1).bind fun M13 =>
          some M13
        ) else (
          (wr M1 28 601 p0 5).bind fun M10 =>
          (wr M10 30 601 p0 1).bind fun M11 =>
          some M11
        )
      )
    ) else (
      (f_K_scanWhole_27 p0 p1 M1).bind fun M16 =>
      some M16
    )
  ) else (
    (f_K_scanWord_27 p0 p1 M1).bind fun M17 =>
    some M17
  )
noncomputable def j_K_scan_27_65  (x2 : Int32) (M : Mm) : Option Mm :=
  (wr M 28 601 x2 0).bind fun M1 =>
  (wr M1 29 601 x2 (M1.1 27 5)).bind fun M2 =>
  some M2
noncomputable def blp_K_scan_27_15 (rc15 : Int32 → Int32 → Mm → Option Mm) (x2 : Int32) (x3 : Int32) (M : Mm) : Option Mm :=
  if (M.1 27 5) ≤ x3 then (
    j_K_scan_27_65 x2 M
  ) else (
    (rd (M.1 1) 600 x3).bind fun v2 =>
    if v2 = 32 then (
      rc15 x2 (x3 + 1) M
    ) else (
      (f_K_scanToken_27 x2 x3 M).bind fun M4 =>
      (rd (M4.1 30) 601 x2).bind fun v5 =>
      rc15 (x2 + 1) (x3 + (mx 1 v5)) M4
    )
  )
noncomputable def lp_K_scan_27_15  : Nat → Int32 → Int32 → Mm → Option Mm
  | 0, _, _, _ => none
  | n + 1, x2, x3, M => blp_K_scan_27_15  (lp_K_scan_27_15  n) x2 x3 M
noncomputable def f_K_scan_27 (p0 : Int32) (M : Mm) : Option Mm :=
  (some (u1 M 27 5 (mn p0 600))).bind fun M1 =>
  lp_K_scan_27_15 FW 0 0 M1
noncomputable def f_V_clear_24  (M : Mm) : Option Mm :=
  (some (s1 M 25 (fil (M.1 25) 18 0))).bind fun M1 =>
  (some (s1 M1 26 (fil (M1.1 26) 18 0))).bind fun M2 =>
  (some (u1 M2 24 2 0)).bind fun M3 =>
  some M3
noncomputable def f_N_clear_15  (M : Mm) : Option Mm :=
  (some (u1 M 15 0 0)).bind fun M1 =>
  (some (u1 M1 15 1 0)).bind fun M2 =>
  (some (u1 M2 15 2 0)).bind fun M3 =>
  (some (s1 M3 16 (fil (M3.1 16) 6 0))).bind fun M4 =>
  (some (s1 M4 17 (fil (M4.1 17) 6 0))).bind fun M5 =>
  (some (s1 M5 18 (fil (M5.1 18) 6 0))).bind fun M6 =>
  (f_V_clear_24 M6).bind fun M7 =>
  some M7
noncomputable def f_R_isSort_14 (p0 : Int32) (M : Mm) : Option Int32 :=
  (rd (M.1 28) 601 (M.1 14 2)).bind fun v1 =>
  if v1 = p0 then (
    some 1
  ) else (
    some 0
  )
noncomputable def f_R_blame_14 (p0 : Int32) (M : Mm) : Option (Int32 × Mm) :=
  (some (u1 M 14 4 p0)).bind fun M1 =>
  some (0, M1)
noncomputable def f_R_step_14  (M : Mm) : Option Mm :=
  (rd (M.1 28) 601 (M.1 14 2)).bind fun v1 =>
  if v1 = 0 then (
    some M
  ) else (
    if 600 ≤ (M.1 14 2) then (
      some M
    ) else (
      (some (u1 M 14 2 ((M.1 14 2) + 1))).bind fun M4 =>
      some M4
    )
  )
noncomputable def f_R_isWord_14 (p0 : Int32) (M : Mm) : Option Int32 :=
  (rd (M.1 28) 601 (M.1 14 2)).bind fun v1 =>
  if v1 = 1 then (
    (rd (M.1 31) 601 (M.1 14 2)).bind fun v3 =>
    if v3 = p0 then (
      some 1
    ) else (
      some 0
    )
  ) else (
    some 0
  )
noncomputable def f_K_letterAt_27 (p0 : Int32) (p1 : Int32) (M : Mm) : Option Int32 :=
  (rd (M.1 29) 601 p0).bind fun v1 =>
  if (v1 + p1) < 0 then (
    some (-1)
  ) else (
    if 600 ≤ (v1 + p1) then (
      some (-1)
    ) else (
      (rd (M.1 1) 600 (v1 + p1)).bind fun v4 =>
      some (v4 - 97)
    )
  )
noncomputable def blp_R_isNameIn_14_30 (rc30 : Int32 → Int32 → Int32 → Mm → Option Int32) (x1 : Int32) (x2 : Int32) (x3 : Int32) (M : Mm) : Option Int32 :=
  if x2 ≤ x3 then (
    some 1
  ) else (
    (rd (M.1 22) 54 ((6 * x1) + x3)).bind fun v2 =>
    (f_K_letterAt_27 (M.1 14 2) x3 M).bind fun v3 =>
    if v2 = v3 then (
      rc30 x1 x2 (x3 + 1) M
    ) else (
      some 0
    )
  )
noncomputable def lp_R_isNameIn_14_30  : Nat → Int32 → Int32 → Int32 → Mm → Option Int32
  | 0, _, _, _, _ => none
  | n + 1, x1, x2, x3, M => blp_R_isNameIn_14_30  (lp_R_isNameIn_14_30  n) x1 x2 x3 M
noncomputable def f_R_isNameIn_14 (p0 : Int32) (M : Mm) : Option Int32 :=
  (rd (M.1 30) 601 (M.1 14 2)).bind fun v1 =>
  (rd (M.1 23) 9 p0).bind fun v2 =>
  if v2 = v1 then (
    lp_R_isNameIn_14_30 FW p0 v1 0 M
  ) else (
    some 0
  )
noncomputable def blp_R_placeOfName_14_2 (rc2 : Int32 → Int32 → Int32 → Mm → Option Int32) (x1 : Int32) (x2 : Int32) (x3 : Int32) (M : Mm) : Option Int32 :=
  if x2 ≤ x3 then (
    some (-1)
  ) else (
    (f_R_isNameIn_14 (x1 + x3) M).bind fun v2 =>
    if v2 = 0 then (
      rc2 x1 x2 (x3 + 1) M
    ) else (
      some x3
    )
  )
noncomputable def lp_R_placeOfName_14_2  : Nat → Int32 → Int32 → Int32 → Mm → Option Int32
  | 0, _, _, _, _ => none
  | n + 1, x1, x2, x3, M => blp_R_placeOfName_14_2  (lp_R_placeOfName_14_2  n) x1 x2 x3 M
noncomputable def f_R_placeOfName_14 (p0 : Int32) (p1 : Int32) (M : Mm) : Option Int32 :=
  lp_R_placeOfName_14_2 FW p0 p1 0 M
noncomputable def blp_R_readNewName_14_81 (rc81 : Int32 → Int32 → Int32 → Mm → Option (Int32 × Mm)) (x1 : Int32) (x2 : Int32) (x3 : Int32) (M : Mm) : Option (Int32 × Mm) :=
  if x2 ≤ x3 then (
    (f_R_step_14 M).bind fun M2 =>
    some (1, M2)
  ) else (
    (f_K_letterAt_27 (M.1 14 2) x3 M).bind fun v3 =>
    (wr M 22 54 ((6 * x1) + x3) v3).bind fun M4 =>
    rc81 x1 x2 (x3 + 1) M4
  )
noncomputable def lp_R_readNewName_14_81  : Nat → Int32 → Int32 → Int32 → Mm → Option (Int32 × Mm)
  | 0, _, _, _, _ => none
  | n + 1, x1, x2, x3, M => blp_R_readNewName_14_81  (lp_R_readNewName_14_81  n) x1 x2 x3 M
noncomputable def f_R_readNewName_14 (p0 : Int32) (M : Mm) : Option (Int32 × Mm) :=
  (f_R_isWord_14 12 M).bind fun v1 =>
  if v1 = 0 then (
    (f_R_blame_14 1 M).bind fun q13 =>
    (zr q13.1).bind fun z14 =>
    some (z14, q13.2)
  ) else (
    (f_R_placeOfName_14 0 (M.1 15 0) M).bind fun v3 =>
    if 0 ≤ v3 then (
      (f_R_blame_14 3 M).bind fun q5 =>
      (zr q5.1).bind fun z6 =>
      some (z6, q5.2)
    ) else (
      (f_R_placeOfName_14 3 (M.1 15 1) M).bind fun v7 =>
      if v7 < 0 then (
        (rd (M.1 30) 601 (M.1 14 2)).bind fun v9 =>
        (wr M 23 9 p0 (mn v9 6)).bind fun M10 =>
        lp_R_readNewName_14_81 FW p0 (mn v9 6) 0 M10
      ) else (
        (f_R_blame_14 3 M).bind fun q11 =>
        (zr q11.1).bind fun z12 =>
        some (z12, q11.2)
      )
    )
  )
noncomputable def f_R_readWare_14  (M : Mm) : Option (Int32 × Mm) :=
  if 3 ≤ (M.1 15 0) then (
    (f_R_blame_14 4 M).bind fun q2 =>
    (zr q2.1).bind fun z3 =>
    some (z3, q2.2)
  ) else (
    if (M.1 15 1) ≤ 0 then (
      (f_R_step_14 M).bind fun M5 =>
      (f_R_readNewName_14 (M5.1 15 0) M5).bind fun q6 =>
      if q6.1 = 0 then (
        some (0, q6.2)
      ) else (
        (some (u1 q6.2 15 0 ((q6.2.1 15 0) + 1))).bind fun M8 =>
        some (1, M8)
      )
    ) else (
      (f_R_blame_14 4 M).bind fun q9 =>
      (zr q9.1).bind fun z10 =>
      some (z10, q9.2)
    )
  )
noncomputable def f_R_readWhole_14 (p0 : Int32) (p1 : Int32) (M : Mm) : Option (Int32 × Mm) :=
  (f_R_isSort_14 2 M).bind fun v1 =>
  if v1 = 0 then (
    (f_R_blame_14 1 M).bind fun q9 =>
    some ((-1), q9.2)
  ) else (
    (rd (M.1 31) 601 (M.1 14 2)).bind fun v3 =>
    if v3 < p0 then (
      (f_R_blame_14 2 M).bind fun q5 =>
      some ((-1), q5.2)
    ) else (
      if v3 ≤ p1 then (
        (f_R_step_14 M).bind fun M7 =>
        some (v3, M7)
      ) else (
        (f_R_blame_14 2 M).bind fun q8 =>
        some ((-1), q8.2)
      )
    )
  )
noncomputable def f_P_cell (p0 : Int32) (p1 : Int32) : Option Int32 :=
  some ((3 * p0) + p1)
noncomputable def j_R_readTimes_14_51 (rc18 : Int32 → Int32 → Mm → Option (Int32 × Mm)) (x1 : Int32) (x2 : Int32) (M : Mm) : Option (Int32 × Mm) :=
  (f_R_readWhole_14 1 60 M).bind fun q1 =>
  if 0 ≤ q1.1 then (
    (f_P_cell x1 x2).bind fun v3 =>
    (wr q1.2 26 18 v3 q1.1).bind fun M4 =>
    (f_P_cell x1 x2).bind fun v5 =>
    (wr M4 25 18 v5 1).bind fun M6 =>
    rc18 x1 (x2 + 1) M6
  ) else (
    some (0, q1.2)
  )
noncomputable def blp_R_readTimes_14_18 (rc18 : Int32 → Int32 → Mm → Option (Int32 × Mm)) (x1 : Int32) (x2 : Int32) (M : Mm) : Option (Int32 × Mm) :=
  if (M.1 15 0) ≤ x2 then (
    some (1, M)
  ) else (
    if x2 ≤ 0 then (
      j_R_readTimes_14_51 rc18 x1 x2 M
    ) else (
      (f_R_isSort_14 4 M).bind fun v3 =>
      if v3 = 0 then (
        (f_R_blame_14 1 M).bind fun q6 =>
        (zr q6.1).bind fun z7 =>
        some (z7, q6.2)
      ) else (
        (f_R_step_14 M).bind fun M5 =>
        j_R_readTimes_14_51 rc18 x1 x2 M5
      )
    )
  )
noncomputable def lp_R_readTimes_14_18  : Nat → Int32 → Int32 → Mm → Option (Int32 × Mm)
  | 0, _, _, _ => none
  | n + 1, x1, x2, M => blp_R_readTimes_14_18  (lp_R_readTimes_14_18  n) x1 x2 M
noncomputable def f_R_readTimes_14 (p0 : Int32) (M : Mm) : Option (Int32 × Mm) :=
  if (M.1 15 0) = 0 then (
    (f_R_blame_14 1 M).bind fun q2 =>
    (zr q2.1).bind fun z3 =>
    some (z3, q2.2)
  ) else (
    lp_R_readTimes_14_18 FW p0 0 M
  )
noncomputable def f_R_readSetup_14 (p0 : Int32) (M : Mm) : Option (Int32 × Mm) :=
  (f_R_isWord_14 2 M).bind fun v1 =>
  if v1 = 0 then (
    some (1, M)
  ) else (
    (f_R_step_14 M).bind fun M3 =>
    (f_R_readWhole_14 0 60 M3).bind fun q4 =>
    if 0 ≤ q4.1 then (
      (wr q4.2 16 6 p0 q4.1).bind fun M6 =>
      some (1, M6)
    ) else (
      some (0, q4.2)
    )
  )
noncomputable def f_R_readWord_14 (p0 : Int32) (M : Mm) : Option (Int32 × Mm) :=
  (f_R_isWord_14 p0 M).bind fun v1 =>
  if v1 = 0 then (
    (f_R_blame_14 1 M).bind fun q4 =>
    (zr q4.1).bind fun z5 =>
    some (z5, q4.2)
  ) else (
    (f_R_step_14 M).bind fun M3 =>
    some (1, M3)
  )
noncomputable def f_R_readRest_14 (p0 : Int32) (M : Mm) : Option (Int32 × Mm) :=
  (f_R_isWord_14 3 M).bind fun v1 =>
  if v1 = 0 then (
    some (1, M)
  ) else (
    (f_R_step_14 M).bind fun M3 =>
    (f_R_readWhole_14 1 60 M3).bind fun q4 =>
    if q4.1 < 0 then (
      some (0, q4.2)
    ) else (
      (f_R_readWord_14 4 q4.2).bind fun q6 =>
      if q6.1 = 0 then (
        some (0, q6.2)
      ) else (
        (f_R_readWhole_14 1 99 q6.2).bind fun q8 =>
        if 0 ≤ q8.1 then (
          (wr q8.2 17 6 p0 q4.1).bind fun M10 =>
          (wr M10 18 6 p0 q8.1).bind fun M11 =>
          some (1, M11)
        ) else (
          some (0, q8.2)
        )
      )
    )
  )
noncomputable def f_R_readBench_14  (M : Mm) : Option (Int32 × Mm) :=
  if (M.1 15 1) < 6 then (
    (f_R_step_14 M).bind fun M2 =>
    (f_R_readNewName_14 (3 + (M.1 15 1)) M2).bind fun q3 =>
    if q3.1 = 0 then (
      some (0, q3.2)
    ) else (
      (some (u1 q3.2 15 1 ((q3.2.1 15 1) + 1))).bind fun M5 =>
      (f_R_readTimes_14 (M.1 15 1) M5).bind fun q6 =>
      if q6.1 = 0 then (
        some (0, q6.2)
      ) else (
        (f_R_readSetup_14 (M.1 15 1) q6.2).bind fun q8 =>
        if q8.1 = 0 then (
          some (0, q8.2)
        ) else (
          (f_R_readRest_14 (M.1 15 1) q8.2).bind fun q10 =>
          if q10.1 = 0 then (
            some (0, q10.2)
          ) else (
            some (1, q10.2)
          )
        )
      )
    )
  ) else (
    (f_R_blame_14 4 M).bind fun q12 =>
    (zr q12.1).bind fun z13 =>
    some (z13, q12.2)
  )
noncomputable def f_R_readOldName_14 (p0 : Int32) (p1 : Int32) (M : Mm) : Option (Int32 × Mm) :=
  (f_R_isWord_14 12 M).bind fun v1 =>
  if v1 = 0 then (
    (f_R_blame_14 1 M).bind fun q7 =>
    some ((-1), q7.2)
  ) else (
    (f_R_placeOfName_14 p0 p1 M).bind fun v3 =>
    if 0 ≤ v3 then (
      (f_R_step_14 M).bind fun M5 =>
      some (v3, M5)
    ) else (
      (f_R_blame_14 3 M).bind fun q6 =>
      some ((-1), q6.2)
    )
  )
noncomputable def f_R_readCards_14  (M : Mm) : Option (Int32 × Mm) :=
  (f_R_step_14 M).bind fun M1 =>
  (f_R_readOldName_14 3 (M1.1 15 1) M1).bind fun q2 =>
  if 0 ≤ q2.1 then (
    (f_R_readOldName_14 0 (q2.2.1 15 0) q2.2).bind fun q4 =>
    if 0 ≤ q4.1 then (
      (f_R_readWhole_14 0 9 q4.2).bind fun q6 =>
      if 0 ≤ q6.1 then (
        (f_P_cell q2.1 q4.1).bind fun v8 =>
        (wr q6.2 25 18 v8 q6.1).bind fun M9 =>
        some (1, M9)
      ) else (
        some (0, q6.2)
      )
    ) else (
      some (0, q4.2)
    )
  ) else (
    some (0, q2.2)
  )
noncomputable def f_R_readOrder_14  (M : Mm) : Option (Int32 × Mm) :=
  if (M.1 15 2) < 4 then (
    (f_R_step_14 M).bind fun M2 =>
    (f_R_readOldName_14 0 (M2.1 15 0) M2).bind fun q3 =>
    if q3.1 < 0 then (
      some (0, q3.2)
    ) else (
      (f_R_readWord_14 4 q3.2).bind fun q5 =>
      if q5.1 = 0 then (
        some (0, q5.2)
      ) else (
        (f_R_readWhole_14 1 99 q5.2).bind fun q7 =>
        if q7.1 < 0 then (
          some (0, q7.2)
        ) else (
          (f_R_readWord_14 7 q7.2).bind fun q9 =>
          if q9.1 = 0 then (
            some (0, q9.2)
          ) else (
            (f_R_readWhole_14 0 999 q9.2).bind fun q11 =>
            if 0 ≤ q11.1 then (
              (wr q11.2 19 4 (M.1 15 2) q3.1).bind fun M13 =>
              (wr M13 20 4 (M.1 15 2) q7.1).bind fun M14 =>
              (wr M14 21 4 (M.1 15 2) q11.1).bind fun M15 =>
              (some (u1 M15 15 2 ((M15.1 15 2) + 1))).bind fun M16 =>
              some (1, M16)
            ) else (
              some (0, q11.2)
            )
          )
        )
      )
    )
  ) else (
    (f_R_blame_14 4 M).bind fun q17 =>
    (zr q17.1).bind fun z18 =>
    some (z18, q17.2)
  )
noncomputable def f_R_readRule_14  (M : Mm) : Option (Int32 × Mm) :=
  if (M.1 14 3) = 0 then (
    (some (u1 M 14 3 1)).bind fun M2 =>
    (f_R_step_14 M2).bind fun M3 =>
    (f_R_isWord_14 9 M3).bind fun v4 =>
    if v4 = 0 then (
      (f_R_isWord_14 10 M3).bind fun v6 =>
      if v6 = 0 then (
        (f_R_isWord_14 11 M3).bind fun v8 =>
        if v8 = 0 then (
          (f_R_blame_14 1 M3).bind fun q10 =>
          (zr q10.1).bind fun z11 =>
          some (z11, q10.2)
        ) else (
          (some (u1 M3 24 2 2)).bind fun M12 =>
          (f_R_step_14 M12).bind fun M13 =>
          some (1, M13)
        )
      ) else (
        (some (u1 M3 24 2 1)).bind fun M14 =>
        (f_R_step_14 M14).bind fun M15 =>
        some (1, M15)
      )
    ) else (
      (some (u1 M3 24 2 0)).bind fun M16 =>
      (f_R_step_14 M16).bind fun M17 =>
      some (1, M17)
    )
  ) else (
    (f_R_blame_14 3 M).bind fun q18 =>
    (zr q18.1).bind fun z19 =>
    some (z19, q18.2)
  )
noncomputable def f_R_readLine_14  (M : Mm) : Option (Int32 × Mm) :=
  (f_R_isSort_14 1 M).bind fun v1 =>
  if v1 = 0 then (
    (f_R_blame_14 1 M).bind fun q33 =>
    (zr q33.1).bind fun z34 =>
    some (z34, q33.2)
  ) else (
    (rd (M.1 31) 601 (M.1 14 2)).bind fun v3 =>
    if v3 = 0 then (
      (f_R_readWare_14 M).bind fun q5 =>
      (zr q5.1).bind fun z6 =>
      some (z6, q5.2)
    ) else (
      if v3 = 1 then (
        (f_R_readBench_14 M).bind fun q8 =>
        (zr q8.1).bind fun z9 =>
        some (z9, q8.2)
      ) else (
        if v3 = 2 then (
          (f_R_blame_14 1 M).bind fun q11 =>
          (zr q11.1).bind fun z12 =>
          some (z12, q11.2)
        ) else (
          if v3 = 3 then (
            (f_R_blame_14 1 M).bind fun q14 =>
            (zr q14.1).bind fun z15 =>
            some (z15, q14.2)
          ) else (
            if v3 = 4 then (
              (f_R_blame_14 1 M).bind fun q17 =>
              (zr q17.1).bind fun z18 =>
              some (z18, q17.2)
            ) else (
              if v3 = 5 then (
                (f_R_readCards_14 M).bind fun q20 =>
                (zr q20.1).bind fun z21 =>
                some (z21, q20.2)
              ) else (
                if v3 = 6 then (
                  (f_R_readOrder_14 M).bind fun q23 =>
                  (zr q23.1).bind fun z24 =>
                  some (z24, q23.2)
                ) else (
                  if v3 = 7 then (
                    (f_R_blame_14 1 M).bind fun q26 =>
                    (zr q26.1).bind fun z27 =>
                    some (z27, q26.2)
                  ) else (
                    if v3 = 8 then (
                      (f_R_readRule_14 M).bind fun q29 =>
                      (zr q29.1).bind fun z30 =>
                      some (z30, q29.2)
                    ) else (
                      (f_R_blame_14 1 M).bind fun q31 =>
                      (zr q31.1).bind fun z32 =>
                      some (z32, q31.2)
    )))))))))
  )
noncomputable def j_R_read_14_54   (M : Mm) : Option (Int32 × Mm) :=
  if (M.1 15 0) = 0 then (
    (f_R_blame_14 5 M).bind fun q2 =>
    some ((q2.2.1 14 4), q2.2)
  ) else (
    if (M.1 15 1) = 0 then (
      (f_R_blame_14 5 M).bind fun q4 =>
      some ((q4.2.1 14 4), q4.2)
    ) else (
      some ((M.1 14 4), M)
    )
  )
noncomputable def blp_R_read_14_32 (rc32 : Int32 → Mm → Option (Int32 × Mm)) (x2 : Int32) (M : Mm) : Option (Int32 × Mm) :=
  if 600 < x2 then (
    some ((M.1 14 4), M)
  ) else (
    (f_R_readLine_14 M).bind fun q2 =>
    if q2.1 = 0 then (
      some ((q2.2.1 14 4), q2.2)
    ) else (
      (f_R_isSort_14 0 q2.2).bind fun v4 =>
      if v4 = 0 then (
        (f_R_isSort_14 3 q2.2).bind fun v6 =>
        if v6 = 0 then (
          (f_R_blame_14 1 q2.2).bind fun q9 =>
          some ((q9.2.1 14 4), q9.2)
        ) else (
          (f_R_step_14 q2.2).bind fun M8 =>
          rc32 (x2 + 1) M8
        )
      ) else (
        j_R_read_14_54 q2.2
      )
    )
  )
noncomputable def lp_R_read_14_32  : Nat → Int32 → Mm → Option (Int32 × Mm)
  | 0, _, _ => none
  | n + 1, x2, M => blp_R_read_14_32  (lp_R_read_14_32  n) x2 M
noncomputable def f_R_read_14 (p0 : Int32) (M : Mm) : Option (Int32 × Mm) :=
  (f_K_scan_27 p0 M).bind fun M1 =>
  (some (u1 M1 14 2 0)).bind fun M2 =>
  (some (u1 M2 14 4 0)).bind fun M3 =>
  (some (u1 M3 14 3 0)).bind fun M4 =>
  (f_N_clear_15 M4).bind fun M5 =>
  lp_R_read_14_32 FW 0 M5
noncomputable def f_V_copy_11_24  (M : Mm) : Option Mm :=
  (cpy M 25 18 12 18 0 0 18).bind fun M1 =>
  (cpy M1 26 18 13 18 0 0 18).bind fun M2 =>
  (some (u1 M2 11 2 (M2.1 24 2))).bind fun M3 =>
  some M3
noncomputable def f_N_copy_2_15  (M : Mm) : Option Mm :=
  (some (u1 M 2 0 (M.1 15 0))).bind fun M1 =>
  (some (u1 M1 2 1 (M1.1 15 1))).bind fun M2 =>
  (some (u1 M2 2 2 (M2.1 15 2))).bind fun M3 =>
  (cpy M3 16 6 3 6 0 0 6).bind fun M4 =>
  (cpy M4 17 6 4 6 0 0 6).bind fun M5 =>
  (cpy M5 18 6 5 6 0 0 6).bind fun M6 =>
  (cpy M6 19 4 6 4 0 0 4).bind fun M7 =>
  (cpy M7 20 4 7 4 0 0 4).bind fun M8 =>
  (cpy M8 21 4 8 4 0 0 4).bind fun M9 =>
  (cpy M9 22 54 9 54 0 0 54).bind fun M10 =>
  (cpy M10 23 9 10 9 0 0 9).bind fun M11 =>
  (f_V_copy_11_24 M11).bind fun M12 =>
  some M12
noncomputable def f_V_copy_32_11  (M : Mm) : Option Mm :=
  (cpy M 12 18 33 18 0 0 18).bind fun M1 =>
  (cpy M1 13 18 34 18 0 0 18).bind fun M2 =>
  (some (u1 M2 32 2 (M2.1 11 2))).bind fun M3 =>
  some M3
noncomputable def blp_L_waresIn_35_4 (rc4 : Int32 → Int32 → Int32 → Mm → Option Int32) (x1 : Int32) (x2 : Int32) (x3 : Int32) (M : Mm) : Option Int32 :=
  if (M.1 2 0) ≤ x3 then (
    some x2
  ) else (
    (f_P_cell x1 x3).bind fun v2 =>
    (rd (M.1 36) 18 v2).bind fun v3 =>
    rc4 x1 (x2 + v3) (x3 + 1) M
  )
noncomputable def lp_L_waresIn_35_4  : Nat → Int32 → Int32 → Int32 → Mm → Option Int32
  | 0, _, _, _, _ => none
  | n + 1, x1, x2, x3, M => blp_L_waresIn_35_4  (lp_L_waresIn_35_4  n) x1 x2 x3 M
noncomputable def f_L_waresIn_35 (p0 : Int32) (M : Mm) : Option Int32 :=
  lp_L_waresIn_35_4 FW p0 0 0 M
noncomputable def blp_L_raisePeaks_35_2 (rc2 : Int32 → Mm → Option Mm) (x1 : Int32) (M : Mm) : Option Mm :=
  if (M.1 2 1) ≤ x1 then (
    some M
  ) else (
    (rd (M.1 43) 6 x1).bind fun v2 =>
    (f_L_waresIn_35 x1 M).bind fun v3 =>
    (wr M 43 6 x1 (mx v2 v3)).bind fun M4 =>
    rc2 (x1 + 1) M4
  )
noncomputable def lp_L_raisePeaks_35_2  : Nat → Int32 → Mm → Option Mm
  | 0, _, _ => none
  | n + 1, x1, M => blp_L_raisePeaks_35_2  (lp_L_raisePeaks_35_2  n) x1 M
noncomputable def f_L_raisePeaks_35  (M : Mm) : Option Mm :=
  lp_L_raisePeaks_35_2 FW 0 M
noncomputable def j_L_start_35_56   (M : Mm) : Option Mm :=
  (some (s1 M 38 (fil (M.1 38) 6 0))).bind fun M1 =>
  (some (s1 M1 39 (fil (M1.1 39) 6 (-2)))).bind fun M2 =>
  (some (s1 M2 40 (fil (M2.1 40) 6 0))).bind fun M3 =>
  (some (s1 M3 41 (fil (M3.1 41) 6 0))).bind fun M4 =>
  (some (s1 M4 42 (fil (M4.1 42) 24 0))).bind fun M5 =>
  (some (s1 M5 43 (fil (M5.1 43) 6 0))).bind fun M6 =>
  (some (s1 M6 44 (fil (M6.1 44) 3 0))).bind fun M7 =>
  (some (s1 M7 45 (fil (M7.1 45) 3 0))).bind fun M8 =>
  (some (s1 M8 46 (fil (M8.1 46) 3 0))).bind fun M9 =>
  (some (s1 M9 47 (fil (M9.1 47) 3 (-2)))).bind fun M10 =>
  (some (u1 M10 35 14 0)).bind fun M11 =>
  (some (u1 M11 35 15 0)).bind fun M12 =>
  (some (u1 M12 35 16 (-2))).bind fun M13 =>
  (some (u1 M13 35 17 (-2))).bind fun M14 =>
  (f_L_raisePeaks_35 M14).bind fun M15 =>
  some M15
noncomputable def f_L_start_35 (p0 : Int32) (M : Mm) : Option Mm :=
  (some (s1 M 36 (fil (M.1 36) 18 0))).bind fun M1 =>
  (some (s1 M1 37 (fil (M1.1 37) 18 0))).bind fun M2 =>
  if p0 = 0 then (
    j_L_start_35_56 M2
  ) else (
    (cpy M2 33 18 36 18 0 0 18).bind fun M4 =>
    (cpy M4 33 18 37 18 0 0 18).bind fun M5 =>
    j_L_start_35_56 M5
  )
noncomputable def blp_P_forget_0_10 (rc10 : Int32 → Mm → Option Mm) (x1 : Int32) (M : Mm) : Option Mm :=
  if 2 ≤ x1 then (
    some M
  ) else (
    if x1 = 0 then (
      (some (u1 M 69 2 0)).bind fun M3 =>
      rc10 (x1 + 1) M3
    ) else (
      if x1 = 1 then (
        (some (u1 M 86 2 0)).bind fun M5 =>
        rc10 (x1 + 1) M5
      ) else (
        none))
  )
noncomputable def lp_P_forget_0_10  : Nat → Int32 → Mm → Option Mm
  | 0, _, _ => none
  | n + 1, x1, M => blp_P_forget_0_10  (lp_P_forget_0_10  n) x1 M
noncomputable def f_P_forget_0  (M : Mm) : Option Mm :=
  (some (u1 M 65 2 0)).bind fun M1 =>
  lp_P_forget_0_10 FW 0 M1
noncomputable def f_P_granted_0 (p0 : Int32) (M : Mm) : Option (Int32 × Mm) :=
  (some (u1 M 0 10 0)).bind fun M1 =>
  (some (u1 M1 0 12 (-1))).bind fun M2 =>
  some (p0, M2)
noncomputable def f_R_placeReached_14  (M : Mm) : Option Int32 :=
  (rd (M.1 29) 601 (M.1 14 2)).bind fun v1 =>
  some v1
noncomputable def f_P_text_0 (p0 : Int32) (M : Mm) : Option (Int32 × Mm) :=
  if p0 < 0 then (
    (f_P_refused_0 2 M).bind fun q2 =>
    some (q2.1, q2.2)
  ) else (
    if p0 ≤ (M.1 0 8) then (
      (some (u1 M 0 8 0)).bind fun M4 =>
      (f_R_read_14 p0 M4).bind fun q5 =>
      (some (u1 q5.2 0 11 q5.1)).bind fun M6 =>
      if (M6.1 0 11) = 0 then (
        (f_N_copy_2_15 M6).bind fun M8 =>
        (f_V_copy_32_11 M8).bind fun M9 =>
        (some (u1 M9 0 9 1)).bind fun M10 =>
        (f_L_start_35 0 M10).bind fun M11 =>
        (f_P_forget_0 M11).bind fun M12 =>
        (f_P_granted_0 (M12.1 2 1) M12).bind fun q13 =>
        some (q13.1, q13.2)
      ) else (
        (f_P_refused_0 4 M6).bind fun q14 =>
        (f_R_placeReached_14 q14.2).bind fun v15 =>
        (some (u1 q14.2 0 12 v15)).bind fun M16 =>
        some ((-1), M16)
      )
    ) else (
      (f_P_refused_0 2 M).bind fun q17 =>
      some (q17.1, q17.2)
    )
  )
noncomputable def f_P_fault_0  (M : Mm) : Option Int32 :=
  some (M.1 0 11)
noncomputable def f_P_where_0  (M : Mm) : Option Int32 :=
  some (M.1 0 12)
noncomputable def f_P_within (p0 : Int32) (p1 : Int32) : Option Int32 :=
  if p0 < 0 then (
    some 0
  ) else (
    if p1 < p0 then (
      some 0
    ) else (
      some 1
    )
  )
noncomputable def blp_V_allCards_32_4 (rc4 : Int32 → Int32 → Mm → Option Int32) (x1 : Int32) (x2 : Int32) (M : Mm) : Option Int32 :=
  if 18 ≤ x2 then (
    some x1
  ) else (
    (rd (M.1 33) 18 x2).bind fun v2 =>
    rc4 (x1 + v2) (x2 + 1) M
  )
noncomputable def lp_V_allCards_32_4  : Nat → Int32 → Int32 → Mm → Option Int32
  | 0, _, _, _ => none
  | n + 1, x1, x2, M => blp_V_allCards_32_4  (lp_V_allCards_32_4  n) x1 x2 M
noncomputable def f_V_allCards_32  (M : Mm) : Option Int32 :=
  lp_V_allCards_32_4 FW 0 0 M
noncomputable def blp_L_allHeld_35_4 (rc4 : Int32 → Int32 → Mm → Option Int32) (x1 : Int32) (x2 : Int32) (M : Mm) : Option Int32 :=
  if 18 ≤ x2 then (
    some x1
  ) else (
    (rd (M.1 37) 18 x2).bind fun v2 =>
    rc4 (x1 + v2) (x2 + 1) M
  )
noncomputable def lp_L_allHeld_35_4  : Nat → Int32 → Int32 → Mm → Option Int32
  | 0, _, _, _ => none
  | n + 1, x1, x2, M => blp_L_allHeld_35_4  (lp_L_allHeld_35_4  n) x1 x2 M
noncomputable def f_L_allHeld_35  (M : Mm) : Option Int32 :=
  lp_L_allHeld_35_4 FW 0 0 M
noncomputable def f_P_about_0 (p0 : Int32) (M : Mm) : Option (Int32 × Mm) :=
  if (M.1 0 9) = 0 then (
    (f_P_refused_0 1 M).bind fun q2 =>
    some (q2.1, q2.2)
  ) else (
    (f_P_within p0 7).bind fun v3 =>
    if v3 = 0 then (
      (f_P_refused_0 1 M).bind fun q22 =>
      some (q22.1, q22.2)
    ) else (
      if p0 = 0 then (
        (f_P_granted_0 (M.1 2 0) M).bind fun q6 =>
        some (q6.1, q6.2)
      ) else (
        if p0 = 1 then (
          (f_P_granted_0 (M.1 2 1) M).bind fun q8 =>
          some (q8.1, q8.2)
        ) else (
          if p0 = 2 then (
            (f_P_granted_0 (M.1 2 2) M).bind fun q10 =>
            some (q10.1, q10.2)
          ) else (
            if p0 = 3 then (
              (f_P_granted_0 (M.1 32 2) M).bind fun q12 =>
              some (q12.1, q12.2)
            ) else (
              if p0 = 4 then (
                (f_P_granted_0 (M.1 35 14) M).bind fun q14 =>
                some (q14.1, q14.2)
              ) else (
                if p0 = 5 then (
                  (f_V_allCards_32 M).bind fun v16 =>
                  (f_P_granted_0 v16 M).bind fun q17 =>
                  some (q17.1, q17.2)
                ) else (
                  if p0 = 6 then (
                    (f_L_allHeld_35 M).bind fun v19 =>
                    (f_P_granted_0 v19 M).bind fun q20 =>
                    some (q20.1, q20.2)
                  ) else (
                    (f_P_granted_0 (M.1 65 2) M).bind fun q21 =>
                    some (q21.1, q21.2)
      )))))))
    )
  )
noncomputable def f_P_isBench_0 (p0 : Int32) (M : Mm) : Option Int32 :=
  if (M.1 0 9) = 0 then (
    some 0
  ) else (
    (f_P_within p0 ((M.1 2 1) - 1)).bind fun v2 =>
    if v2 = 0 then (
      some 0
    ) else (
      some 1
    )
  )
noncomputable def blp_V_timesAt_32_4 (rc4 : Int32 → Int32 → Int32 → Mm → Option Int32) (x1 : Int32) (x2 : Int32) (x3 : Int32) (M : Mm) : Option Int32 :=
  if 3 ≤ x3 then (
    some x2
  ) else (
    (f_P_cell x1 x3).bind fun v2 =>
    (rd (M.1 34) 18 v2).bind fun v3 =>
    rc4 x1 (x2 + v3) (x3 + 1) M
  )
noncomputable def lp_V_timesAt_32_4  : Nat → Int32 → Int32 → Int32 → Mm → Option Int32
  | 0, _, _, _, _ => none
  | n + 1, x1, x2, x3, M => blp_V_timesAt_32_4  (lp_V_timesAt_32_4  n) x1 x2 x3 M
noncomputable def f_V_timesAt_32 (p0 : Int32) (M : Mm) : Option Int32 :=
  lp_V_timesAt_32_4 FW p0 0 0 M
noncomputable def f_P_bench_0 (p0 : Int32) (p1 : Int32) (M : Mm) : Option (Int32 × Mm) :=
  (f_P_isBench_0 p0 M).bind fun v1 =>
  if v1 = 0 then (
    (f_P_refused_0 1 M).bind fun q3 =>
    some (q3.1, q3.2)
  ) else (
    (f_P_within p1 3).bind fun v4 =>
    if v4 = 0 then (
      (f_P_refused_0 1 M).bind fun q17 =>
      some (q17.1, q17.2)
    ) else (
      if p1 = 0 then (
        (rd (M.1 3) 6 p0).bind fun v7 =>
        (f_P_granted_0 v7 M).bind fun q8 =>
        some (q8.1, q8.2)
      ) else (
        if p1 = 1 then (
          (rd (M.1 4) 6 p0).bind fun v10 =>
          (f_P_granted_0 v10 M).bind fun q11 =>
          some (q11.1, q11.2)
        ) else (
          if p1 = 2 then (
            (rd (M.1 5) 6 p0).bind fun v13 =>
            (f_P_granted_0 v13 M).bind fun q14 =>
            some (q14.1, q14.2)
          ) else (
            (f_V_timesAt_32 p0 M).bind fun v15 =>
            (f_P_granted_0 v15 M).bind fun q16 =>
            some (q16.1, q16.2)
      )))
    )
  )
noncomputable def f_P_isKind_0 (p0 : Int32) (M : Mm) : Option Int32 :=
  if (M.1 0 9) = 0 then (
    some 0
  ) else (
    (f_P_within p0 ((M.1 2 0) - 1)).bind fun v2 =>
    if v2 = 0 then (
      some 0
    ) else (
      some 1
    )
  )
noncomputable def f_P_timeOf_0 (p0 : Int32) (p1 : Int32) (M : Mm) : Option (Int32 × Mm) :=
  (f_P_isBench_0 p0 M).bind fun v1 =>
  if v1 = 0 then (
    (f_P_refused_0 1 M).bind fun q3 =>
    some (q3.1, q3.2)
  ) else (
    (f_P_isKind_0 p1 M).bind fun v4 =>
    if v4 = 0 then (
      (f_P_refused_0 1 M).bind fun q9 =>
      some (q9.1, q9.2)
    ) else (
      (f_P_cell p0 p1).bind fun v6 =>
      (rd (M.1 34) 18 v6).bind fun v7 =>
      (f_P_granted_0 v7 M).bind fun q8 =>
      some (q8.1, q8.2)
    )
  )
noncomputable def f_P_stream_0 (p0 : Int32) (p1 : Int32) (M : Mm) : Option (Int32 × Mm) :=
  if (M.1 0 9) = 0 then (
    (f_P_refused_0 1 M).bind fun q2 =>
    some (q2.1, q2.2)
  ) else (
    (f_P_within p0 ((M.1 2 2) - 1)).bind fun v3 =>
    if v3 = 0 then (
      (f_P_refused_0 1 M).bind fun q5 =>
      some (q5.1, q5.2)
    ) else (
      (f_P_within p1 2).bind fun v6 =>
      if v6 = 0 then (
        (f_P_refused_0 1 M).bind fun q16 =>
        some (q16.1, q16.2)
      ) else (
        if p1 = 0 then (
          (rd (M.1 6) 4 p0).bind fun v9 =>
          (f_P_granted_0 v9 M).bind fun q10 =>
          some (q10.1, q10.2)
        ) else (
          if p1 = 1 then (
            (rd (M.1 7) 4 p0).bind fun v12 =>
            (f_P_granted_0 v12 M).bind fun q13 =>
            some (q13.1, q13.2)
          ) else (
            (rd (M.1 8) 4 p0).bind fun v14 =>
            (f_P_granted_0 v14 M).bind fun q15 =>
            some (q15.1, q15.2)
        ))
      )
    )
  )
noncomputable def f_L_free_35 (p0 : Int32) (M : Mm) : Option Int32 :=
  (rd (M.1 33) 18 p0).bind fun v1 =>
  (rd (M.1 37) 18 p0).bind fun v2 =>
  some (mx 0 (v1 - v2))
noncomputable def f_P_cardsOf_0 (p0 : Int32) (p1 : Int32) (p2 : Int32) (M : Mm) : Option (Int32 × Mm) :=
  (f_P_isBench_0 p0 M).bind fun v1 =>
  if v1 = 0 then (
    (f_P_refused_0 1 M).bind fun q3 =>
    some (q3.1, q3.2)
  ) else (
    (f_P_isKind_0 p1 M).bind fun v4 =>
    if v4 = 0 then (
      (f_P_refused_0 1 M).bind fun q6 =>
      some (q6.1, q6.2)
    ) else (
      (f_P_within p2 3).bind fun v7 =>
      if v7 = 0 then (
        (f_P_refused_0 1 M).bind fun q22 =>
        some (q22.1, q22.2)
      ) else (
        (f_P_cell p0 p1).bind fun v9 =>
        if p2 = 0 then (
          (rd (M.1 33) 18 v9).bind fun v11 =>
          (f_P_granted_0 v11 M).bind fun q12 =>
          some (q12.1, q12.2)
        ) else (
          if p2 = 1 then (
            (rd (M.1 36) 18 v9).bind fun v14 =>
            (f_P_granted_0 v14 M).bind fun q15 =>
            some (q15.1, q15.2)
          ) else (
            if p2 = 2 then (
              (rd (M.1 37) 18 v9).bind fun v17 =>
              (rd (M.1 36) 18 v9).bind fun v18 =>
              (f_P_granted_0 (v17 - v18) M).bind fun q19 =>
              some (q19.1, q19.2)
            ) else (
              (f_L_free_35 v9 M).bind fun v20 =>
              (f_P_granted_0 v20 M).bind fun q21 =>
              some (q21.1, q21.2)
        )))
      )
    )
  )
noncomputable def f_P_begin_0 (p0 : Int32) (M : Mm) : Option (Int32 × Mm) :=
  if (M.1 0 9) = 0 then (
    (f_P_refused_0 1 M).bind fun q4 =>
    some (0, q4.2)
  ) else (
    (f_L_start_35 p0 M).bind fun M2 =>
    (f_P_granted_0 0 M2).bind fun q3 =>
    some (1, q3.2)
  )
noncomputable def blp_L_ageOrders_35_2 (rc2 : Int32 → Mm → Option Mm) (x1 : Int32) (M : Mm) : Option Mm :=
  if (M.1 2 0) ≤ x1 then (
    some M
  ) else (
    (rd (M.1 46) 3 x1).bind fun v2 =>
    (rd (M.1 45) 3 x1).bind fun v3 =>
    (wr M 46 3 x1 (v2 + v3)).bind fun M4 =>
    rc2 (x1 + 1) M4
  )
noncomputable def lp_L_ageOrders_35_2  : Nat → Int32 → Mm → Option Mm
  | 0, _, _ => none
  | n + 1, x1, M => blp_L_ageOrders_35_2  (lp_L_ageOrders_35_2  n) x1 M
noncomputable def f_L_ageOrders_35  (M : Mm) : Option Mm :=
  lp_L_ageOrders_35_2 FW 0 M
noncomputable def j_L_beginAt_35_109  (x1 : Int32) (x2 : Int32) (t0 : Int32) (t1 : Int32) (t2 : Int32) (M : Mm) : Option Mm :=
  (wr M 40 6 t2 (t1 + t0)).bind fun M1 =>
  (wr M1 38 6 x1 1).bind fun M2 =>
  (wr M2 39 6 x1 x2).bind fun M3 =>
  some M3
noncomputable def j_L_beginAt_35_70  (x1 : Int32) (x2 : Int32) (x3 : Int32) (t0 : Int32) (M : Mm) : Option Mm :=
  (rd (M.1 34) 18 x3).bind fun v1 =>
  if t0 = 0 then (
    j_L_beginAt_35_109 x1 x2 0 ((M.1 35 14) + v1) x1 M
  ) else (
    (rd (M.1 3) 6 x1).bind fun v3 =>
    j_L_beginAt_35_109 x1 x2 v3 ((M.1 35 14) + v1) x1 M
  )
noncomputable def j_L_beginAt_35_69  (x1 : Int32) (x2 : Int32) (x3 : Int32) (M : Mm) : Option Mm :=
  j_L_beginAt_35_70 x1 x2 x3 0 M
noncomputable def j_L_beginAt_35_34  (x1 : Int32) (x2 : Int32) (x3 : Int32) (M : Mm) : Option Mm :=
  (rd (M.1 37) 18 x3).bind fun v1 =>
  (wr M 37 18 x3 (v1 + 1)).bind fun M2 =>
  (rd (M2.1 39) 6 x1).bind fun v3 =>
  if v3 = (-2) then (
    j_L_beginAt_35_69 x1 x2 x3 M2
  ) else (
    (rd (M2.1 39) 6 x1).bind fun v5 =>
    if v5 = x2 then (
      j_L_beginAt_35_69 x1 x2 x3 M2
    ) else (
      j_L_beginAt_35_70 x1 x2 x3 1 M2
    )
  )
noncomputable def f_L_beginAt_35 (p0 : Int32) (p1 : Int32) (M : Mm) : Option Mm :=
  (f_P_cell p0 p1).bind fun v1 =>
  if p0 ≤ 0 then (
    j_L_beginAt_35_34 p0 p1 v1 M
  ) else (
    (rd (M.1 36) 18 (v1 - 3)).bind fun v3 =>
    (wr M 36 18 (v1 - 3) (v3 - 1)).bind fun M4 =>
    (rd (M4.1 37) 18 (v1 - 3)).bind fun v5 =>
    (wr M4 37 18 (v1 - 3) (v5 - 1)).bind fun M6 =>
    j_L_beginAt_35_34 p0 p1 v1 M6
  )
noncomputable def f_P_remainder (p0 : Int32) (p1 : Int32) : Option Int32 :=
  if p1 ≤ 0 then (
    some 0
  ) else (
    (rmI p0 p1).bind fun v2 =>
    some v2
  )
noncomputable def j_L_freeIfCan_35_23  (x3 : Int32) (M : Mm) : Option Int32 :=
  (rd (M.1 33) 18 x3).bind fun v1 =>
  (rd (M.1 37) 18 x3).bind fun v2 =>
  some (v1 - v2)
noncomputable def f_L_freeIfCan_35 (p0 : Int32) (p1 : Int32) (M : Mm) : Option Int32 :=
  if p0 ≤ 0 then (
    j_L_freeIfCan_35_23 ((3 * p0) + p1) M
  ) else (
    (rd (M.1 36) 18 (((3 * p0) + p1) - 3)).bind fun v2 =>
    if 0 < v2 then (
      j_L_freeIfCan_35_23 ((3 * p0) + p1) M
    ) else (
      some 0
    )
  )
noncomputable def j_L_chosen_35_126 (rc55 : Int32 → Int32 → Int32 → Int32 → Int32 → Mm → Option Int32) (x1 : Int32) (x3 : Int32) (x4 : Int32) (x5 : Int32) (x6 : Int32) (M : Mm) : Option Int32 :=
  rc55 x1 x3 x4 x5 (x6 + 1) M
noncomputable def j_L_chosen_35_111 (rc55 : Int32 → Int32 → Int32 → Int32 → Int32 → Mm → Option Int32) (x1 : Int32) (x3 : Int32) (x4 : Int32) (x5 : Int32) (x6 : Int32) (x7 : Int32) (x8 : Int32) (M : Mm) : Option Int32 :=
  if x8 ≤ x5 then (
    j_L_chosen_35_126 rc55 x1 x3 x4 x5 x6 M
  ) else (
    j_L_chosen_35_126 rc55 x1 x3 x7 x8 x6 M
  )
noncomputable def blp_L_chosen_35_55 (rc55 : Int32 → Int32 → Int32 → Int32 → Int32 → Mm → Option Int32) (x1 : Int32) (x3 : Int32) (x4 : Int32) (x5 : Int32) (x6 : Int32) (M : Mm) : Option Int32 :=
  if (M.1 2 0) ≤ x6 then (
    some x4
  ) else (
    (f_P_remainder (x3 + x6) (M.1 2 0)).bind fun v2 =>
    (f_L_freeIfCan_35 x1 v2 M).bind fun v3 =>
    if v3 ≤ 0 then (
      j_L_chosen_35_111 rc55 x1 x3 x4 x5 x6 v2 v3 M
    ) else (
      if (M.1 32 2) = 1 then (
        j_L_chosen_35_111 rc55 x1 x3 x4 x5 x6 v2 v3 M
      ) else (
        some v2
      )
    )
  )
noncomputable def lp_L_chosen_35_55  : Nat → Int32 → Int32 → Int32 → Int32 → Int32 → Mm → Option Int32
  | 0, _, _, _, _, _, _ => none
  | n + 1, x1, x3, x4, x5, x6, M => blp_L_chosen_35_55  (lp_L_chosen_35_55  n) x1 x3 x4 x5 x6 M
noncomputable def j_L_chosen_35_44  (x1 : Int32) (t0 : Int32) (M : Mm) : Option Int32 :=
  lp_L_chosen_35_55 FW x1 t0 (-2) 0 0 M
noncomputable def j_L_chosen_35_27  (x1 : Int32) (t0 : Int32) (M : Mm) : Option Int32 :=
  if t0 = 0 then (
    j_L_chosen_35_44 x1 0 M
  ) else (
    (rd (M.1 39) 6 x1).bind fun v2 =>
    j_L_chosen_35_44 x1 (v2 + 1) M
  )
noncomputable def j_L_chosen_35_26  (x1 : Int32) (M : Mm) : Option Int32 :=
  j_L_chosen_35_27 x1 0 M
noncomputable def f_L_chosen_35 (p0 : Int32) (M : Mm) : Option Int32 :=
  if (M.1 32 2) = 2 then (
    (rd (M.1 39) 6 p0).bind fun v2 =>
    if v2 = (-2) then (
      j_L_chosen_35_26 p0 M
    ) else (
      j_L_chosen_35_27 p0 1 M
    )
  ) else (
    j_L_chosen_35_26 p0 M
  )
noncomputable def j_L_deliver_35_37  (x1 : Int32) (x2 : Int32) (t0 : Int32) (M : Mm) : Option Mm :=
  if t0 ≤ 0 then (
    some M
  ) else (
    (rd (M.1 45) 3 x1).bind fun v2 =>
    (wr M 45 3 x1 (v2 - t0)).bind fun M3 =>
    (rd (M3.1 36) 18 x2).bind fun v4 =>
    (wr M3 36 18 x2 (v4 - t0)).bind fun M5 =>
    (rd (M5.1 37) 18 x2).bind fun v6 =>
    (wr M5 37 18 x2 (v6 - t0)).bind fun M7 =>
    (some (u1 M7 35 15 ((M7.1 35 15) + t0))).bind fun M8 =>
    (rd (M8.1 47) 3 x1).bind fun v9 =>
    if v9 = (-2) then (
      (wr M8 47 3 x1 (M8.1 35 14)).bind fun M11 =>
      some M11
    ) else (
      some M8
    )
  )
noncomputable def f_L_deliver_35 (p0 : Int32) (M : Mm) : Option Mm :=
  (f_P_cell ((M.1 2 1) - 1) p0).bind fun v1 =>
  if v1 < 0 then (
    j_L_deliver_35_37 p0 v1 0 M
  ) else (
    (rd (M.1 45) 3 p0).bind fun v3 =>
    (rd (M.1 36) 18 v1).bind fun v4 =>
    j_L_deliver_35_37 p0 v1 (mn v3 v4) M
  )
noncomputable def f_L_takeOrder_35 (p0 : Int32) (M : Mm) : Option Mm :=
  (rd (M.1 8) 4 p0).bind fun v1 =>
  if ((M.1 35 14) - v1) < 0 then (
    some M
  ) else (
    (rd (M.1 7) 4 p0).bind fun v3 =>
    (f_P_remainder ((M.1 35 14) - v1) v3).bind fun v4 =>
    if v4 = 0 then (
      (rd (M.1 6) 4 p0).bind fun v6 =>
      (rd (M.1 44) 3 v6).bind fun v7 =>
      (wr M 44 3 v6 (v7 + 1)).bind fun M8 =>
      (rd (M8.1 45) 3 v6).bind fun v9 =>
      (wr M8 45 3 v6 (v9 + 1)).bind fun M10 =>
      some M10
    ) else (
      some M
    )
  )
noncomputable def j_L_endAt_35_69  (x1 : Int32) (M : Mm) : Option Mm :=
  (rd (M.1 41) 6 x1).bind fun v1 =>
  (wr M 41 6 x1 (v1 + 1)).bind fun M2 =>
  (wr M2 38 6 x1 0).bind fun M3 =>
  (rd (M3.1 5) 6 x1).bind fun v4 =>
  if v4 ≤ 0 then (
    some M3
  ) else (
    (rd (M3.1 41) 6 x1).bind fun v6 =>
    (rd (M3.1 5) 6 x1).bind fun v7 =>
    (f_P_remainder v6 v7).bind fun v8 =>
    if v8 = 0 then (
      (wr M3 38 6 x1 2).bind fun M10 =>
      (rd (M10.1 4) 6 x1).bind fun v11 =>
      (wr M10 40 6 x1 ((M10.1 35 14) + v11)).bind fun M12 =>
      some M12
    ) else (
      some M3
    )
  )
noncomputable def f_L_endAt_35 (p0 : Int32) (M : Mm) : Option Mm :=
  (rd (M.1 38) 6 p0).bind fun v1 =>
  if v1 = 0 then (
    some M
  ) else (
    (rd (M.1 40) 6 p0).bind fun v3 =>
    if v3 = (M.1 35 14) then (
      (rd (M.1 38) 6 p0).bind fun v5 =>
      if v5 = 2 then (
        (wr M 38 6 p0 0).bind fun M13 =>
        some M13
      ) else (
        (rd (M.1 39) 6 p0).bind fun v7 =>
        if v7 < 0 then (
          j_L_endAt_35_69 p0 M
        ) else (
          (rd (M.1 39) 6 p0).bind fun v9 =>
          (f_P_cell p0 v9).bind fun v10 =>
          (rd (M.1 36) 18 v10).bind fun v11 =>
          (wr M 36 18 v10 (v11 + 1)).bind fun M12 =>
          j_L_endAt_35_69 p0 M12
        )
      )
    ) else (
      some M
    )
  )
noncomputable def j_L_change_35_116 (rc82 : Int32 → Mm → Option Mm) (x1 : Int32) (M : Mm) : Option Mm :=
  rc82 (x1 + (-1)) M
noncomputable def j_L_change_35_105 (rc82 : Int32 → Mm → Option Mm) (x1 : Int32) (t0 : Int32) (M : Mm) : Option Mm :=
  if t0 < 0 then (
    j_L_change_35_116 rc82 x1 M
  ) else (
    (f_L_beginAt_35 x1 t0 M).bind fun M2 =>
    j_L_change_35_116 rc82 x1 M2
  )
noncomputable def blp_L_change_35_82 (rc82 : Int32 → Mm → Option Mm) (x1 : Int32) (M : Mm) : Option Mm :=
  if x1 < 0 then (
    some M
  ) else (
    (rd (M.1 38) 6 x1).bind fun v2 =>
    if v2 = 0 then (
      (f_L_chosen_35 x1 M).bind fun v4 =>
      j_L_change_35_105 rc82 x1 v4 M
    ) else (
      j_L_change_35_105 rc82 x1 (-2) M
    )
  )
noncomputable def lp_L_change_35_82  : Nat → Int32 → Mm → Option Mm
  | 0, _, _ => none
  | n + 1, x1, M => blp_L_change_35_82  (lp_L_change_35_82  n) x1 M
noncomputable def j_L_change_35_72   (M : Mm) : Option Mm :=
  lp_L_change_35_82 FW ((M.1 2 1) - 1) M
noncomputable def blp_L_change_35_50 (rc50 : Int32 → Mm → Option Mm) (x1 : Int32) (M : Mm) : Option Mm :=
  if (M.1 2 0) ≤ x1 then (
    j_L_change_35_72 M
  ) else (
    (f_L_deliver_35 x1 M).bind fun M2 =>
    rc50 (x1 + 1) M2
  )
noncomputable def lp_L_change_35_50  : Nat → Int32 → Mm → Option Mm
  | 0, _, _ => none
  | n + 1, x1, M => blp_L_change_35_50  (lp_L_change_35_50  n) x1 M
noncomputable def j_L_change_35_48   (M : Mm) : Option Mm :=
  lp_L_change_35_50 FW 0 M
noncomputable def blp_L_change_35_26 (rc26 : Int32 → Mm → Option Mm) (x1 : Int32) (M : Mm) : Option Mm :=
  if (M.1 2 2) ≤ x1 then (
    j_L_change_35_48 M
  ) else (
    (f_L_takeOrder_35 x1 M).bind fun M2 =>
    rc26 (x1 + 1) M2
  )
noncomputable def lp_L_change_35_26  : Nat → Int32 → Mm → Option Mm
  | 0, _, _ => none
  | n + 1, x1, M => blp_L_change_35_26  (lp_L_change_35_26  n) x1 M
noncomputable def j_L_change_35_24   (M : Mm) : Option Mm :=
  lp_L_change_35_26 FW 0 M
noncomputable def blp_L_change_35_2 (rc2 : Int32 → Mm → Option Mm) (x1 : Int32) (M : Mm) : Option Mm :=
  if (M.1 2 1) ≤ x1 then (
    j_L_change_35_24 M
  ) else (
    (f_L_endAt_35 x1 M).bind fun M2 =>
    rc2 (x1 + 1) M2
  )
noncomputable def lp_L_change_35_2  : Nat → Int32 → Mm → Option Mm
  | 0, _, _ => none
  | n + 1, x1, M => blp_L_change_35_2  (lp_L_change_35_2  n) x1 M
noncomputable def f_L_change_35  (M : Mm) : Option Mm :=
  lp_L_change_35_2 FW 0 M
noncomputable def blp_L_sortOf_35_27 (rc27 : Int32 → Int32 → Mm → Option Int32) (x1 : Int32) (x2 : Int32) (M : Mm) : Option Int32 :=
  if (M.1 2 0) ≤ x2 then (
    some 3
  ) else (
    (f_P_cell x1 x2).bind fun v2 =>
    (f_L_free_35 v2 M).bind fun v3 =>
    if v3 ≤ 0 then (
      rc27 x1 (x2 + 1) M
    ) else (
      some 2
    )
  )
noncomputable def lp_L_sortOf_35_27  : Nat → Int32 → Int32 → Mm → Option Int32
  | 0, _, _, _ => none
  | n + 1, x1, x2, M => blp_L_sortOf_35_27  (lp_L_sortOf_35_27  n) x1 x2 M
noncomputable def f_L_sortOf_35 (p0 : Int32) (M : Mm) : Option Int32 :=
  (rd (M.1 38) 6 p0).bind fun v1 =>
  if v1 = 0 then (
    lp_L_sortOf_35_27 FW p0 0 M
  ) else (
    (rd (M.1 38) 6 p0).bind fun v3 =>
    if v3 = 1 then (
      some 0
    ) else (
      some 1
    )
  )
noncomputable def j_L_tallyMinute_35_92 (rc2 : Int32 → Mm → Option Mm) (x1 : Int32) (M : Mm) : Option Mm :=
  rc2 (x1 + 1) M
noncomputable def j_L_tallyMinute_35_58 (rc2 : Int32 → Mm → Option Mm) (x1 : Int32) (x2 : Int32) (t0 : Int32) (M : Mm) : Option Mm :=
  if x2 = 2 then (
    (rd (M.1 39) 6 x1).bind fun v2 =>
    if v2 = (-2) then (
      j_L_tallyMinute_35_92 rc2 x1 M
    ) else (
      if t0 = 0 then (
        j_L_tallyMinute_35_92 rc2 x1 M
      ) else (
        (some (u1 M 35 16 (M.1 35 14))).bind fun M5 =>
        (some (u1 M5 35 17 x1)).bind fun M6 =>
        j_L_tallyMinute_35_92 rc2 x1 M6
      )
    )
  ) else (
    j_L_tallyMinute_35_92 rc2 x1 M
  )
noncomputable def j_L_tallyMinute_35_53 (rc2 : Int32 → Mm → Option Mm) (x1 : Int32) (x2 : Int32) (M : Mm) : Option Mm :=
  j_L_tallyMinute_35_58 rc2 x1 x2 1 M
noncomputable def blp_L_tallyMinute_35_2 (rc2 : Int32 → Mm → Option Mm) (x1 : Int32) (M : Mm) : Option Mm :=
  if (M.1 2 1) ≤ x1 then (
    some M
  ) else (
    (f_L_sortOf_35 x1 M).bind fun v2 =>
    (rd (M.1 42) 24 ((4 * x1) + v2)).bind fun v3 =>
    (wr M 42 24 ((4 * x1) + v2) (v3 + 1)).bind fun M4 =>
    if (M4.1 35 16) = (-2) then (
      j_L_tallyMinute_35_53 rc2 x1 v2 M4
    ) else (
      if (M4.1 35 16) = (M4.1 35 14) then (
        j_L_tallyMinute_35_53 rc2 x1 v2 M4
      ) else (
        j_L_tallyMinute_35_58 rc2 x1 v2 0 M4
      )
    )
  )
noncomputable def lp_L_tallyMinute_35_2  : Nat → Int32 → Mm → Option Mm
  | 0, _, _ => none
  | n + 1, x1, M => blp_L_tallyMinute_35_2  (lp_L_tallyMinute_35_2  n) x1 M
noncomputable def f_L_tallyMinute_35  (M : Mm) : Option Mm :=
  lp_L_tallyMinute_35_2 FW 0 M
noncomputable def f_L_passMinute_35  (M : Mm) : Option Mm :=
  (f_L_ageOrders_35 M).bind fun M1 =>
  (f_L_change_35 M1).bind fun M2 =>
  (f_L_tallyMinute_35 M2).bind fun M3 =>
  (f_L_raisePeaks_35 M3).bind fun M4 =>
  (some (u1 M4 35 14 ((M4.1 35 14) + 1))).bind fun M5 =>
  some M5
noncomputable def j_P_run_0_80  (x2 : Int32) (M : Mm) : Option (Int32 × Mm) :=
  (f_P_granted_0 ((M.1 35 15) - x2) M).bind fun q1 =>
  some (q1.1, q1.2)
noncomputable def blp_P_run_0_62 (rc62 : Int32 → Int32 → Int32 → Mm → Option (Int32 × Mm)) (x1 : Int32) (x2 : Int32) (x3 : Int32) (M : Mm) : Option (Int32 × Mm) :=
  if x1 ≤ x3 then (
    j_P_run_0_80 x2 M
  ) else (
    (f_L_passMinute_35 M).bind fun M2 =>
    rc62 x1 x2 (x3 + 1) M2
  )
noncomputable def lp_P_run_0_62  : Nat → Int32 → Int32 → Int32 → Mm → Option (Int32 × Mm)
  | 0, _, _, _, _ => none
  | n + 1, x1, x2, x3, M => blp_P_run_0_62  (lp_P_run_0_62  n) x1 x2 x3 M
noncomputable def f_P_run_0 (p0 : Int32) (M : Mm) : Option (Int32 × Mm) :=
  if (M.1 0 9) = 0 then (
    (f_P_refused_0 1 M).bind fun q8 =>
    some (q8.1, q8.2)
  ) else (
    if p0 < 1 then (
      (f_P_refused_0 2 M).bind fun q3 =>
      some (q3.1, q3.2)
    ) else (
      if p0 ≤ 500 then (
        if ((M.1 35 14) + p0) ≤ 9999 then (
          lp_P_run_0_62 FW p0 (M.1 35 15) 0 M
        ) else (
          (f_P_refused_0 5 M).bind fun q6 =>
          some (q6.1, q6.2)
        )
      ) else (
        (f_P_refused_0 2 M).bind fun q7 =>
        some (q7.1, q7.2)
      )
    )
  )
noncomputable def f_L_minutesLeft_35 (p0 : Int32) (M : Mm) : Option Int32 :=
  (rd (M.1 38) 6 p0).bind fun v1 =>
  if v1 = 0 then (
    some 0
  ) else (
    (rd (M.1 40) 6 p0).bind fun v3 =>
    some (v3 - (M.1 35 14))
  )
noncomputable def f_P_does_0 (p0 : Int32) (p1 : Int32) (M : Mm) : Option (Int32 × Mm) :=
  (f_P_isBench_0 p0 M).bind fun v1 =>
  if v1 = 0 then (
    (f_P_refused_0 1 M).bind fun q3 =>
    some (q3.1, q3.2)
  ) else (
    (f_P_within p1 3).bind fun v4 =>
    if v4 = 0 then (
      (f_P_refused_0 1 M).bind fun q20 =>
      some (q20.1, q20.2)
    ) else (
      if p1 = 0 then (
        (rd (M.1 38) 6 p0).bind fun v7 =>
        (f_P_granted_0 v7 M).bind fun q8 =>
        some (q8.1, q8.2)
      ) else (
        if p1 = 1 then (
          (rd (M.1 38) 6 p0).bind fun v10 =>
          if v10 = 1 then (
            (rd (M.1 39) 6 p0).bind fun v13 =>
            (f_P_granted_0 v13 M).bind fun q14 =>
            some (q14.1, q14.2)
          ) else (
            (f_P_granted_0 (-2) M).bind fun q12 =>
            some (q12.1, q12.2)
          )
        ) else (
          if p1 = 2 then (
            (f_L_minutesLeft_35 p0 M).bind fun v16 =>
            (f_P_granted_0 v16 M).bind fun q17 =>
            some (q17.1, q17.2)
          ) else (
            (rd (M.1 39) 6 p0).bind fun v18 =>
            (f_P_granted_0 v18 M).bind fun q19 =>
            some (q19.1, q19.2)
      )))
    )
  )
noncomputable def f_L_minutesOf_35 (p0 : Int32) (p1 : Int32) (M : Mm) : Option Int32 :=
  (rd (M.1 42) 24 ((4 * p0) + p1)).bind fun v1 =>
  some v1
noncomputable def f_P_counts_0 (p0 : Int32) (p1 : Int32) (M : Mm) : Option (Int32 × Mm) :=
  (f_P_isBench_0 p0 M).bind fun v1 =>
  if v1 = 0 then (
    (f_P_refused_0 1 M).bind fun q3 =>
    some (q3.1, q3.2)
  ) else (
    (f_P_within p1 4).bind fun v4 =>
    if v4 = 0 then (
      (f_P_refused_0 1 M).bind fun q11 =>
      some (q11.1, q11.2)
    ) else (
      if p1 = 0 then (
        (rd (M.1 41) 6 p0).bind fun v9 =>
        (f_P_granted_0 v9 M).bind fun q10 =>
        some (q10.1, q10.2)
      ) else (
        (f_L_minutesOf_35 p0 (p1 - 1) M).bind fun v7 =>
        (f_P_granted_0 v7 M).bind fun q8 =>
        some (q8.1, q8.2)
      )
    )
  )
noncomputable def f_P_orders_0 (p0 : Int32) (p1 : Int32) (M : Mm) : Option (Int32 × Mm) :=
  (f_P_isKind_0 p0 M).bind fun v1 =>
  if v1 = 0 then (
    (f_P_refused_0 1 M).bind fun q3 =>
    some (q3.1, q3.2)
  ) else (
    (f_P_within p1 3).bind fun v4 =>
    if v4 = 0 then (
      (f_P_refused_0 1 M).bind fun q18 =>
      some (q18.1, q18.2)
    ) else (
      if p1 = 0 then (
        (rd (M.1 44) 3 p0).bind fun v7 =>
        (f_P_granted_0 v7 M).bind fun q8 =>
        some (q8.1, q8.2)
      ) else (
        if p1 = 1 then (
          (rd (M.1 44) 3 p0).bind fun v10 =>
          (rd (M.1 45) 3 p0).bind fun v11 =>
          (f_P_granted_0 (v10 - v11) M).bind fun q12 =>
          some (q12.1, q12.2)
        ) else (
          if p1 = 2 then (
            (rd (M.1 45) 3 p0).bind fun v14 =>
            (f_P_granted_0 v14 M).bind fun q15 =>
            some (q15.1, q15.2)
          ) else (
            (rd (M.1 46) 3 p0).bind fun v16 =>
            (f_P_granted_0 v16 M).bind fun q17 =>
            some (q17.1, q17.2)
      )))
    )
  )
noncomputable def f_P_starved_0 (p0 : Int32) (M : Mm) : Option (Int32 × Mm) :=
  if (M.1 0 9) = 0 then (
    (f_P_refused_0 1 M).bind fun q2 =>
    some (q2.1, q2.2)
  ) else (
    (f_P_within p0 1).bind fun v3 =>
    if v3 = 0 then (
      (f_P_refused_0 1 M).bind fun q10 =>
      some (q10.1, q10.2)
    ) else (
      if (M.1 35 16) = (-2) then (
        (f_P_refused_0 6 M).bind fun q9 =>
        some (q9.1, q9.2)
      ) else (
        if p0 = 0 then (
          (f_P_granted_0 (M.1 35 16) M).bind fun q8 =>
          some (q8.1, q8.2)
        ) else (
          (f_P_granted_0 (M.1 35 17) M).bind fun q7 =>
          some (q7.1, q7.2)
        )
      )
    )
  )
noncomputable def f_P_peak_0 (p0 : Int32) (M : Mm) : Option (Int32 × Mm) :=
  (f_P_isBench_0 p0 M).bind fun v1 =>
  if v1 = 0 then (
    (f_P_refused_0 1 M).bind fun q3 =>
    some (q3.1, q3.2)
  ) else (
    (rd (M.1 43) 6 p0).bind fun v4 =>
    (f_P_granted_0 v4 M).bind fun q5 =>
    some (q5.1, q5.2)
  )
noncomputable def f_P_firstOf_0 (p0 : Int32) (M : Mm) : Option (Int32 × Mm) :=
  (f_P_isKind_0 p0 M).bind fun v1 =>
  if v1 = 0 then (
    (f_P_refused_0 1 M).bind fun q3 =>
    some (q3.1, q3.2)
  ) else (
    (rd (M.1 47) 3 p0).bind fun v4 =>
    (f_P_granted_0 v4 M).bind fun q5 =>
    some (q5.1, q5.2)
  )
noncomputable def blp_P_commonDivisor_7 (rc7 : Int32 → Int32 → Int32 → Option Int32) (x2 : Int32) (x3 : Int32) (x4 : Int32) : Option Int32 :=
  if 64 ≤ x4 then (
    some x2
  ) else (
    if x3 = 0 then (
      some x2
    ) else (
      (f_P_remainder x2 x3).bind fun v3 =>
      rc7 x3 v3 (x4 + 1)
    )
  )
noncomputable def lp_P_commonDivisor_7  : Nat → Int32 → Int32 → Int32 → Option Int32
  | 0, _, _, _ => none
  | n + 1, x2, x3, x4 => blp_P_commonDivisor_7  (lp_P_commonDivisor_7  n) x2 x3 x4
noncomputable def f_P_commonDivisor (p0 : Int32) (p1 : Int32) : Option Int32 :=
  lp_P_commonDivisor_7 FW p0 p1 0
noncomputable def j_P_rate_0_76  (x2 : Int32) (t0 : Int32) (M : Mm) : Option (Int32 × Mm) :=
  if x2 ≤ 0 then (
    (f_P_granted_0 t0 M).bind fun q2 =>
    some (q2.1, q2.2)
  ) else (
    (dvI t0 x2).bind fun v3 =>
    (f_P_granted_0 v3 M).bind fun q4 =>
    some (q4.1, q4.2)
  )
noncomputable def f_P_rate_0 (p0 : Int32) (M : Mm) : Option (Int32 × Mm) :=
  if (M.1 0 9) = 0 then (
    (f_P_refused_0 1 M).bind fun q2 =>
    some (q2.1, q2.2)
  ) else (
    (f_P_within p0 1).bind fun v3 =>
    if v3 = 0 then (
      (f_P_refused_0 1 M).bind fun q9 =>
      some (q9.1, q9.2)
    ) else (
      if (M.1 35 14) = 0 then (
        (f_P_refused_0 5 M).bind fun q8 =>
        some (q8.1, q8.2)
      ) else (
        (f_P_commonDivisor (M.1 35 15) (M.1 35 14)).bind fun v6 =>
        if p0 = 0 then (
          j_P_rate_0_76 v6 (M.1 35 15) M
        ) else (
          j_P_rate_0_76 v6 (M.1 35 14) M
        )
      )
    )
  )
noncomputable def j_L_busiestBench_35_32 (rc4 : Int32 → Int32 → Mm → Option Int32) (x1 : Int32) (x2 : Int32) (M : Mm) : Option Int32 :=
  rc4 x1 (x2 + 1) M
noncomputable def blp_L_busiestBench_35_4 (rc4 : Int32 → Int32 → Mm → Option Int32) (x1 : Int32) (x2 : Int32) (M : Mm) : Option Int32 :=
  if (M.1 2 1) ≤ x2 then (
    some x1
  ) else (
    (f_L_minutesOf_35 x2 0 M).bind fun v2 =>
    (f_L_minutesOf_35 x1 0 M).bind fun v3 =>
    if v2 ≤ v3 then (
      j_L_busiestBench_35_32 rc4 x1 x2 M
    ) else (
      j_L_busiestBench_35_32 rc4 x2 x2 M
    )
  )
noncomputable def lp_L_busiestBench_35_4  : Nat → Int32 → Int32 → Mm → Option Int32
  | 0, _, _, _ => none
  | n + 1, x1, x2, M => blp_L_busiestBench_35_4  (lp_L_busiestBench_35_4  n) x1 x2 M
noncomputable def f_L_busiestBench_35  (M : Mm) : Option Int32 :=
  lp_L_busiestBench_35_4 FW 0 1 M
noncomputable def f_P_busiest_0  (M : Mm) : Option (Int32 × Mm) :=
  if (M.1 0 9) = 0 then (
    (f_P_refused_0 1 M).bind fun q2 =>
    some (q2.1, q2.2)
  ) else (
    (f_L_busiestBench_35 M).bind fun v3 =>
    (f_P_granted_0 v3 M).bind fun q4 =>
    some (q4.1, q4.2)
  )
noncomputable def f_P_refusesPaper_0 (p0 : Int32) (M : Mm) : Option (Int32 × Mm) :=
  if (M.1 0 9) = 0 then (
    (f_P_refused_0 1 M).bind fun q6 =>
    some (1, q6.2)
  ) else (
    if p0 < 1 then (
      (f_P_refused_0 2 M).bind fun q3 =>
      some (1, q3.2)
    ) else (
      if p0 ≤ 2000 then (
        some (0, M)
      ) else (
        (f_P_refused_0 2 M).bind fun q5 =>
        some (1, q5.2)
      )
    )
  )
noncomputable def f_V_copy_49_32  (M : Mm) : Option Mm :=
  (cpy M 33 18 50 18 0 0 18).bind fun M1 =>
  (cpy M1 34 18 51 18 0 0 18).bind fun M2 =>
  (some (u1 M2 49 2 (M2.1 32 2))).bind fun M3 =>
  some M3
noncomputable def blp_L_waresIn_52_4 (rc4 : Int32 → Int32 → Int32 → Mm → Option Int32) (x1 : Int32) (x2 : Int32) (x3 : Int32) (M : Mm) : Option Int32 :=
  if (M.1 2 0) ≤ x3 then (
    some x2
  ) else (
    (f_P_cell x1 x3).bind fun v2 =>
    (rd (M.1 53) 18 v2).bind fun v3 =>
    rc4 x1 (x2 + v3) (x3 + 1) M
  )
noncomputable def lp_L_waresIn_52_4  : Nat → Int32 → Int32 → Int32 → Mm → Option Int32
  | 0, _, _, _, _ => none
  | n + 1, x1, x2, x3, M => blp_L_waresIn_52_4  (lp_L_waresIn_52_4  n) x1 x2 x3 M
noncomputable def f_L_waresIn_52 (p0 : Int32) (M : Mm) : Option Int32 :=
  lp_L_waresIn_52_4 FW p0 0 0 M
noncomputable def blp_L_raisePeaks_52_2 (rc2 : Int32 → Mm → Option Mm) (x1 : Int32) (M : Mm) : Option Mm :=
  if (M.1 2 1) ≤ x1 then (
    some M
  ) else (
    (rd (M.1 60) 6 x1).bind fun v2 =>
    (f_L_waresIn_52 x1 M).bind fun v3 =>
    (wr M 60 6 x1 (mx v2 v3)).bind fun M4 =>
    rc2 (x1 + 1) M4
  )
noncomputable def lp_L_raisePeaks_52_2  : Nat → Int32 → Mm → Option Mm
  | 0, _, _ => none
  | n + 1, x1, M => blp_L_raisePeaks_52_2  (lp_L_raisePeaks_52_2  n) x1 M
noncomputable def f_L_raisePeaks_52  (M : Mm) : Option Mm :=
  lp_L_raisePeaks_52_2 FW 0 M
noncomputable def j_L_start_52_56   (M : Mm) : Option Mm :=
  (some (s1 M 55 (fil (M.1 55) 6 0))).bind fun M1 =>
  (some (s1 M1 56 (fil (M1.1 56) 6 (-2)))).bind fun M2 =>
  (some (s1 M2 57 (fil (M2.1 57) 6 0))).bind fun M3 =>
  (some (s1 M3 58 (fil (M3.1 58) 6 0))).bind fun M4 =>
  (some (s1 M4 59 (fil (M4.1 59) 24 0))).bind fun M5 =>
  (some (s1 M5 60 (fil (M5.1 60) 6 0))).bind fun M6 =>
  (some (s1 M6 61 (fil (M6.1 61) 3 0))).bind fun M7 =>
  (some (s1 M7 62 (fil (M7.1 62) 3 0))).bind fun M8 =>
  (some (s1 M8 63 (fil (M8.1 63) 3 0))).bind fun M9 =>
  (some (s1 M9 64 (fil (M9.1 64) 3 (-2)))).bind fun M10 =>
  (some (u1 M10 52 14 0)).bind fun M11 =>
  (some (u1 M11 52 15 0)).bind fun M12 =>
  (some (u1 M12 52 16 (-2))).bind fun M13 =>
  (some (u1 M13 52 17 (-2))).bind fun M14 =>
  (f_L_raisePeaks_52 M14).bind fun M15 =>
  some M15
noncomputable def f_L_start_52 (p0 : Int32) (M : Mm) : Option Mm :=
  (some (s1 M 53 (fil (M.1 53) 18 0))).bind fun M1 =>
  (some (s1 M1 54 (fil (M1.1 54) 18 0))).bind fun M2 =>
  if p0 = 0 then (
    j_L_start_52_56 M2
  ) else (
    (cpy M2 50 18 53 18 0 0 18).bind fun M4 =>
    (cpy M4 50 18 54 18 0 0 18).bind fun M5 =>
    j_L_start_52_56 M5
  )
noncomputable def j_L_beginAt_52_109  (x1 : Int32) (x2 : Int32) (t0 : Int32) (t1 : Int32) (t2 : Int32) (M : Mm) : Option Mm :=
  (wr M 57 6 t2 (t1 + t0)).bind fun M1 =>
  (wr M1 55 6 x1 1).bind fun M2 =>
  (wr M2 56 6 x1 x2).bind fun M3 =>
  some M3
noncomputable def j_L_beginAt_52_70  (x1 : Int32) (x2 : Int32) (x3 : Int32) (t0 : Int32) (M : Mm) : Option Mm :=
  (rd (M.1 51) 18 x3).bind fun v1 =>
  if t0 = 0 then (
    j_L_beginAt_52_109 x1 x2 0 ((M.1 52 14) + v1) x1 M
  ) else (
    (rd (M.1 3) 6 x1).bind fun v3 =>
    j_L_beginAt_52_109 x1 x2 v3 ((M.1 52 14) + v1) x1 M
  )
noncomputable def j_L_beginAt_52_69  (x1 : Int32) (x2 : Int32) (x3 : Int32) (M : Mm) : Option Mm :=
  j_L_beginAt_52_70 x1 x2 x3 0 M
noncomputable def j_L_beginAt_52_34  (x1 : Int32) (x2 : Int32) (x3 : Int32) (M : Mm) : Option Mm :=
  (rd (M.1 54) 18 x3).bind fun v1 =>
  (wr M 54 18 x3 (v1 + 1)).bind fun M2 =>
  (rd (M2.1 56) 6 x1).bind fun v3 =>
  if v3 = (-2) then (
    j_L_beginAt_52_69 x1 x2 x3 M2
  ) else (
    (rd (M2.1 56) 6 x1).bind fun v5 =>
    if v5 = x2 then (
      j_L_beginAt_52_69 x1 x2 x3 M2
    ) else (
      j_L_beginAt_52_70 x1 x2 x3 1 M2
    )
  )
noncomputable def f_L_beginAt_52 (p0 : Int32) (p1 : Int32) (M : Mm) : Option Mm :=
  (f_P_cell p0 p1).bind fun v1 =>
  if p0 ≤ 0 then (
    j_L_beginAt_52_34 p0 p1 v1 M
  ) else (
    (rd (M.1 53) 18 (v1 - 3)).bind fun v3 =>
    (wr M 53 18 (v1 - 3) (v3 - 1)).bind fun M4 =>
    (rd (M4.1 54) 18 (v1 - 3)).bind fun v5 =>
    (wr M4 54 18 (v1 - 3) (v5 - 1)).bind fun M6 =>
    j_L_beginAt_52_34 p0 p1 v1 M6
  )
noncomputable def j_L_freeIfCan_52_23  (x3 : Int32) (M : Mm) : Option Int32 :=
  (rd (M.1 50) 18 x3).bind fun v1 =>
  (rd (M.1 54) 18 x3).bind fun v2 =>
  some (v1 - v2)
noncomputable def f_L_freeIfCan_52 (p0 : Int32) (p1 : Int32) (M : Mm) : Option Int32 :=
  if p0 ≤ 0 then (
    j_L_freeIfCan_52_23 ((3 * p0) + p1) M
  ) else (
    (rd (M.1 53) 18 (((3 * p0) + p1) - 3)).bind fun v2 =>
    if 0 < v2 then (
      j_L_freeIfCan_52_23 ((3 * p0) + p1) M
    ) else (
      some 0
    )
  )
noncomputable def j_L_chosen_52_126 (rc55 : Int32 → Int32 → Int32 → Int32 → Int32 → Mm → Option Int32) (x1 : Int32) (x3 : Int32) (x4 : Int32) (x5 : Int32) (x6 : Int32) (M : Mm) : Option Int32 :=
  rc55 x1 x3 x4 x5 (x6 + 1) M
noncomputable def j_L_chosen_52_111 (rc55 : Int32 → Int32 → Int32 → Int32 → Int32 → Mm → Option Int32) (x1 : Int32) (x3 : Int32) (x4 : Int32) (x5 : Int32) (x6 : Int32) (x7 : Int32) (x8 : Int32) (M : Mm) : Option Int32 :=
  if x8 ≤ x5 then (
    j_L_chosen_52_126 rc55 x1 x3 x4 x5 x6 M
  ) else (
    j_L_chosen_52_126 rc55 x1 x3 x7 x8 x6 M
  )
noncomputable def blp_L_chosen_52_55 (rc55 : Int32 → Int32 → Int32 → Int32 → Int32 → Mm → Option Int32) (x1 : Int32) (x3 : Int32) (x4 : Int32) (x5 : Int32) (x6 : Int32) (M : Mm) : Option Int32 :=
  if (M.1 2 0) ≤ x6 then (
    some x4
  ) else (
    (f_P_remainder (x3 + x6) (M.1 2 0)).bind fun v2 =>
    (f_L_freeIfCan_52 x1 v2 M).bind fun v3 =>
    if v3 ≤ 0 then (
      j_L_chosen_52_111 rc55 x1 x3 x4 x5 x6 v2 v3 M
    ) else (
      if (M.1 49 2) = 1 then (
        j_L_chosen_52_111 rc55 x1 x3 x4 x5 x6 v2 v3 M
      ) else (
        some v2
      )
    )
  )
noncomputable def lp_L_chosen_52_55  : Nat → Int32 → Int32 → Int32 → Int32 → Int32 → Mm → Option Int32
  | 0, _, _, _, _, _, _ => none
  | n + 1, x1, x3, x4, x5, x6, M => blp_L_chosen_52_55  (lp_L_chosen_52_55  n) x1 x3 x4 x5 x6 M
noncomputable def j_L_chosen_52_44  (x1 : Int32) (t0 : Int32) (M : Mm) : Option Int32 :=
  lp_L_chosen_52_55 FW x1 t0 (-2) 0 0 M
noncomputable def j_L_chosen_52_27  (x1 : Int32) (t0 : Int32) (M : Mm) : Option Int32 :=
  if t0 = 0 then (
    j_L_chosen_52_44 x1 0 M
  ) else (
    (rd (M.1 56) 6 x1).bind fun v2 =>
    j_L_chosen_52_44 x1 (v2 + 1) M
  )
noncomputable def j_L_chosen_52_26  (x1 : Int32) (M : Mm) : Option Int32 :=
  j_L_chosen_52_27 x1 0 M
noncomputable def f_L_chosen_52 (p0 : Int32) (M : Mm) : Option Int32 :=
  if (M.1 49 2) = 2 then (
    (rd (M.1 56) 6 p0).bind fun v2 =>
    if v2 = (-2) then (
      j_L_chosen_52_26 p0 M
    ) else (
      j_L_chosen_52_27 p0 1 M
    )
  ) else (
    j_L_chosen_52_26 p0 M
  )
noncomputable def j_L_deliver_52_37  (x1 : Int32) (x2 : Int32) (t0 : Int32) (M : Mm) : Option Mm :=
  if t0 ≤ 0 then (
    some M
  ) else (
    (rd (M.1 62) 3 x1).bind fun v2 =>
    (wr M 62 3 x1 (v2 - t0)).bind fun M3 =>
    (rd (M3.1 53) 18 x2).bind fun v4 =>
    (wr M3 53 18 x2 (v4 - t0)).bind fun M5 =>
    (rd (M5.1 54) 18 x2).bind fun v6 =>
    (wr M5 54 18 x2 (v6 - t0)).bind fun M7 =>
    (some (u1 M7 52 15 ((M7.1 52 15) + t0))).bind fun M8 =>
    (rd (M8.1 64) 3 x1).bind fun v9 =>
    if v9 = (-2) then (
      (wr M8 64 3 x1 (M8.1 52 14)).bind fun M11 =>
      some M11
    ) else (
      some M8
    )
  )
noncomputable def f_L_deliver_52 (p0 : Int32) (M : Mm) : Option Mm :=
  (f_P_cell ((M.1 2 1) - 1) p0).bind fun v1 =>
  if v1 < 0 then (
    j_L_deliver_52_37 p0 v1 0 M
  ) else (
    (rd (M.1 62) 3 p0).bind fun v3 =>
    (rd (M.1 53) 18 v1).bind fun v4 =>
    j_L_deliver_52_37 p0 v1 (mn v3 v4) M
  )
noncomputable def f_L_takeOrder_52 (p0 : Int32) (M : Mm) : Option Mm :=
  (rd (M.1 8) 4 p0).bind fun v1 =>
  if ((M.1 52 14) - v1) < 0 then (
    some M
  ) else (
    (rd (M.1 7) 4 p0).bind fun v3 =>
    (f_P_remainder ((M.1 52 14) - v1) v3).bind fun v4 =>
    if v4 = 0 then (
      (rd (M.1 6) 4 p0).bind fun v6 =>
      (rd (M.1 61) 3 v6).bind fun v7 =>
      (wr M 61 3 v6 (v7 + 1)).bind fun M8 =>
      (rd (M8.1 62) 3 v6).bind fun v9 =>
      (wr M8 62 3 v6 (v9 + 1)).bind fun M10 =>
      some M10
    ) else (
      some M
    )
  )
noncomputable def j_L_endAt_52_69  (x1 : Int32) (M : Mm) : Option Mm :=
  (rd (M.1 58) 6 x1).bind fun v1 =>
  (wr M 58 6 x1 (v1 + 1)).bind fun M2 =>
  (wr M2 55 6 x1 0).bind fun M3 =>
  (rd (M3.1 5) 6 x1).bind fun v4 =>
  if v4 ≤ 0 then (
    some M3
  ) else (
    (rd (M3.1 58) 6 x1).bind fun v6 =>
    (rd (M3.1 5) 6 x1).bind fun v7 =>
    (f_P_remainder v6 v7).bind fun v8 =>
    if v8 = 0 then (
      (wr M3 55 6 x1 2).bind fun M10 =>
      (rd (M10.1 4) 6 x1).bind fun v11 =>
      (wr M10 57 6 x1 ((M10.1 52 14) + v11)).bind fun M12 =>
      some M12
    ) else (
      some M3
    )
  )
noncomputable def f_L_endAt_52 (p0 : Int32) (M : Mm) : Option Mm :=
  (rd (M.1 55) 6 p0).bind fun v1 =>
  if v1 = 0 then (
    some M
  ) else (
    (rd (M.1 57) 6 p0).bind fun v3 =>
    if v3 = (M.1 52 14) then (
      (rd (M.1 55) 6 p0).bind fun v5 =>
      if v5 = 2 then (
        (wr M 55 6 p0 0).bind fun M13 =>
        some M13
      ) else (
        (rd (M.1 56) 6 p0).bind fun v7 =>
        if v7 < 0 then (
          j_L_endAt_52_69 p0 M
        ) else (
          (rd (M.1 56) 6 p0).bind fun v9 =>
          (f_P_cell p0 v9).bind fun v10 =>
          (rd (M.1 53) 18 v10).bind fun v11 =>
          (wr M 53 18 v10 (v11 + 1)).bind fun M12 =>
          j_L_endAt_52_69 p0 M12
        )
      )
    ) else (
      some M
    )
  )
noncomputable def j_L_change_52_116 (rc82 : Int32 → Mm → Option Mm) (x1 : Int32) (M : Mm) : Option Mm :=
  rc82 (x1 + (-1)) M
noncomputable def j_L_change_52_105 (rc82 : Int32 → Mm → Option Mm) (x1 : Int32) (t0 : Int32) (M : Mm) : Option Mm :=
  if t0 < 0 then (
    j_L_change_52_116 rc82 x1 M
  ) else (
    (f_L_beginAt_52 x1 t0 M).bind fun M2 =>
    j_L_change_52_116 rc82 x1 M2
  )
noncomputable def blp_L_change_52_82 (rc82 : Int32 → Mm → Option Mm) (x1 : Int32) (M : Mm) : Option Mm :=
  if x1 < 0 then (
    some M
  ) else (
    (rd (M.1 55) 6 x1).bind fun v2 =>
    if v2 = 0 then (
      (f_L_chosen_52 x1 M).bind fun v4 =>
      j_L_change_52_105 rc82 x1 v4 M
    ) else (
      j_L_change_52_105 rc82 x1 (-2) M
    )
  )
noncomputable def lp_L_change_52_82  : Nat → Int32 → Mm → Option Mm
  | 0, _, _ => none
  | n + 1, x1, M => blp_L_change_52_82  (lp_L_change_52_82  n) x1 M
noncomputable def j_L_change_52_72   (M : Mm) : Option Mm :=
  lp_L_change_52_82 FW ((M.1 2 1) - 1) M
noncomputable def blp_L_change_52_50 (rc50 : Int32 → Mm → Option Mm) (x1 : Int32) (M : Mm) : Option Mm :=
  if (M.1 2 0) ≤ x1 then (
    j_L_change_52_72 M
  ) else (
    (f_L_deliver_52 x1 M).bind fun M2 =>
    rc50 (x1 + 1) M2
  )
noncomputable def lp_L_change_52_50  : Nat → Int32 → Mm → Option Mm
  | 0, _, _ => none
  | n + 1, x1, M => blp_L_change_52_50  (lp_L_change_52_50  n) x1 M
noncomputable def j_L_change_52_48   (M : Mm) : Option Mm :=
  lp_L_change_52_50 FW 0 M
noncomputable def blp_L_change_52_26 (rc26 : Int32 → Mm → Option Mm) (x1 : Int32) (M : Mm) : Option Mm :=
  if (M.1 2 2) ≤ x1 then (
    j_L_change_52_48 M
  ) else (
    (f_L_takeOrder_52 x1 M).bind fun M2 =>
    rc26 (x1 + 1) M2
  )
noncomputable def lp_L_change_52_26  : Nat → Int32 → Mm → Option Mm
  | 0, _, _ => none
  | n + 1, x1, M => blp_L_change_52_26  (lp_L_change_52_26  n) x1 M
noncomputable def j_L_change_52_24   (M : Mm) : Option Mm :=
  lp_L_change_52_26 FW 0 M
noncomputable def blp_L_change_52_2 (rc2 : Int32 → Mm → Option Mm) (x1 : Int32) (M : Mm) : Option Mm :=
  if (M.1 2 1) ≤ x1 then (
    j_L_change_52_24 M
  ) else (
    (f_L_endAt_52 x1 M).bind fun M2 =>
    rc2 (x1 + 1) M2
  )
noncomputable def lp_L_change_52_2  : Nat → Int32 → Mm → Option Mm
  | 0, _, _ => none
  | n + 1, x1, M => blp_L_change_52_2  (lp_L_change_52_2  n) x1 M
noncomputable def f_L_change_52  (M : Mm) : Option Mm :=
  lp_L_change_52_2 FW 0 M
noncomputable def f_L_nextOrder_52 (p0 : Int32) (M : Mm) : Option Int32 :=
  (rd (M.1 8) 4 p0).bind fun v1 =>
  if v1 ≤ (M.1 52 14) then (
    (rd (M.1 7) 4 p0).bind fun v3 =>
    (f_P_remainder ((M.1 52 14) - v1) v3).bind fun v4 =>
    some (((M.1 52 14) + v3) - v4)
  ) else (
    some v1
  )
noncomputable def blp_L_nextChange_52_49 (rc49 : Int32 → Int32 → Mm → Option Int32) (x2 : Int32) (x3 : Int32) (M : Mm) : Option Int32 :=
  if (M.1 2 2) ≤ x3 then (
    some (mx x2 ((M.1 52 14) + 1))
  ) else (
    (f_L_nextOrder_52 x3 M).bind fun v2 =>
    rc49 (mn x2 v2) (x3 + 1) M
  )
noncomputable def lp_L_nextChange_52_49  : Nat → Int32 → Int32 → Mm → Option Int32
  | 0, _, _, _ => none
  | n + 1, x2, x3, M => blp_L_nextChange_52_49  (lp_L_nextChange_52_49  n) x2 x3 M
noncomputable def j_L_nextChange_52_47  (x2 : Int32) (M : Mm) : Option Int32 :=
  lp_L_nextChange_52_49 FW x2 0 M
noncomputable def j_L_nextChange_52_41 (rc4 : Int32 → Int32 → Mm → Option Int32) (x2 : Int32) (x3 : Int32) (M : Mm) : Option Int32 :=
  rc4 x2 (x3 + 1) M
noncomputable def blp_L_nextChange_52_4 (rc4 : Int32 → Int32 → Mm → Option Int32) (x2 : Int32) (x3 : Int32) (M : Mm) : Option Int32 :=
  if (M.1 2 1) ≤ x3 then (
    j_L_nextChange_52_47 x2 M
  ) else (
    (rd (M.1 55) 6 x3).bind fun v2 =>
    if v2 = 0 then (
      j_L_nextChange_52_41 rc4 x2 x3 M
    ) else (
      (rd (M.1 57) 6 x3).bind fun v4 =>
      if x2 ≤ v4 then (
        j_L_nextChange_52_41 rc4 x2 x3 M
      ) else (
        (rd (M.1 57) 6 x3).bind fun v6 =>
        j_L_nextChange_52_41 rc4 v6 x3 M
      )
    )
  )
noncomputable def lp_L_nextChange_52_4  : Nat → Int32 → Int32 → Mm → Option Int32
  | 0, _, _, _ => none
  | n + 1, x2, x3, M => blp_L_nextChange_52_4  (lp_L_nextChange_52_4  n) x2 x3 M
noncomputable def f_L_nextChange_52 (p0 : Int32) (M : Mm) : Option Int32 :=
  lp_L_nextChange_52_4 FW p0 0 M
noncomputable def blp_L_hurryTo_52_2 (rc2 : Int32 → Int32 → Mm → Option Mm) (x1 : Int32) (x2 : Int32) (M : Mm) : Option Mm :=
  if x1 ≤ x2 then (
    some M
  ) else (
    if x1 ≤ (M.1 52 14) then (
      some M
    ) else (
      (f_L_change_52 M).bind fun M3 =>
      (f_L_nextChange_52 x1 M3).bind fun v4 =>
      (some (u1 M3 52 14 v4)).bind fun M5 =>
      rc2 x1 (x2 + 1) M5
    )
  )
noncomputable def lp_L_hurryTo_52_2  : Nat → Int32 → Int32 → Mm → Option Mm
  | 0, _, _, _ => none
  | n + 1, x1, x2, M => blp_L_hurryTo_52_2  (lp_L_hurryTo_52_2  n) x1 x2 M
noncomputable def f_L_hurryTo_52 (p0 : Int32) (M : Mm) : Option Mm :=
  lp_L_hurryTo_52_2 FW p0 0 M
noncomputable def f_Q_tried_48 (p0 : Int32) (M : Mm) : Option (Int32 × Mm) :=
  (f_L_start_52 0 M).bind fun M1 =>
  (f_L_hurryTo_52 p0 M1).bind fun M2 =>
  some ((M2.1 52 15), M2)
noncomputable def f_Q_asNow_48 (p0 : Int32) (M : Mm) : Option (Int32 × Mm) :=
  (f_V_copy_49_32 M).bind fun M1 =>
  (f_Q_tried_48 p0 M1).bind fun q2 =>
  some (q2.1, q2.2)
noncomputable def f_P_yields_0 (p0 : Int32) (M : Mm) : Option (Int32 × Mm) :=
  (f_P_refusesPaper_0 p0 M).bind fun q1 =>
  if q1.1 = 0 then (
    (f_Q_asNow_48 p0 q1.2).bind fun q3 =>
    (f_P_granted_0 q3.1 q3.2).bind fun q4 =>
    some (q4.1, q4.2)
  ) else (
    some ((-1), q1.2)
  )
noncomputable def f_Q_withCards_48 (p0 : Int32) (p1 : Int32) (p2 : Int32) (M : Mm) : Option (Int32 × Mm) :=
  (f_V_copy_49_32 M).bind fun M1 =>
  (wr M1 50 18 p0 p1).bind fun M2 =>
  (f_Q_tried_48 p2 M2).bind fun q3 =>
  some (q3.1, q3.2)
noncomputable def f_P_would_0 (p0 : Int32) (p1 : Int32) (p2 : Int32) (p3 : Int32) (M : Mm) : Option (Int32 × Mm) :=
  (f_P_isBench_0 p0 M).bind fun v1 =>
  if v1 = 0 then (
    (f_P_refused_0 1 M).bind fun q3 =>
    some (q3.1, q3.2)
  ) else (
    (f_P_isKind_0 p1 M).bind fun v4 =>
    if v4 = 0 then (
      (f_P_refused_0 1 M).bind fun q14 =>
      some (q14.1, q14.2)
    ) else (
      (f_P_within p2 9).bind fun v6 =>
      if v6 = 0 then (
        (f_P_refused_0 2 M).bind fun q13 =>
        some (q13.1, q13.2)
      ) else (
        (f_P_refusesPaper_0 p3 M).bind fun q8 =>
        if q8.1 = 0 then (
          (f_P_cell p0 p1).bind fun v10 =>
          (f_Q_withCards_48 v10 p2 p3 q8.2).bind fun q11 =>
          (f_P_granted_0 q11.1 q11.2).bind fun q12 =>
          some (q12.1, q12.2)
        ) else (
          some ((-1), q8.2)
        )
      )
    )
  )
noncomputable def j_Q_fewestFor_48_77 (rc13 : Int32 → Int32 → Int32 → Mm → Option (Int32 × Mm)) (x1 : Int32) (x2 : Int32) (x3 : Int32) (M : Mm) : Option (Int32 × Mm) :=
  (f_Q_tried_48 x2 M).bind fun q1 =>
  if q1.1 < x1 then (
    rc13 x1 x2 (x3 + 1) q1.2
  ) else (
    some (x3, q1.2)
  )
noncomputable def j_Q_fewestFor_48_71 (rc22 : Int32 → Int32 → Int32 → Int32 → Mm → Option (Int32 × Mm)) (x1 : Int32) (x2 : Int32) (x3 : Int32) (x4 : Int32) (M : Mm) : Option (Int32 × Mm) :=
  rc22 x1 x2 x3 (x4 + 1) M
noncomputable def blp_Q_fewestFor_48_37 (rc22 : Int32 → Int32 → Int32 → Int32 → Mm → Option (Int32 × Mm)) (rc37 : Int32 → Int32 → Int32 → Int32 → Int32 → Mm → Option (Int32 × Mm)) (x1 : Int32) (x2 : Int32) (x3 : Int32) (x4 : Int32) (x5 : Int32) (M : Mm) : Option (Int32 × Mm) :=
  if (M.1 2 0) ≤ x5 then (
    j_Q_fewestFor_48_71 rc22 x1 x2 x3 x4 M
  ) else (
    (f_P_cell x4 x5).bind fun v2 =>
    (wr M 50 18 v2 x3).bind fun M3 =>
    rc37 x1 x2 x3 x4 (x5 + 1) M3
  )
noncomputable def lp_Q_fewestFor_48_37 (rc22 : Int32 → Int32 → Int32 → Int32 → Mm → Option (Int32 × Mm)) : Nat → Int32 → Int32 → Int32 → Int32 → Int32 → Mm → Option (Int32 × Mm)
  | 0, _, _, _, _, _, _ => none
  | n + 1, x1, x2, x3, x4, x5, M => blp_Q_fewestFor_48_37 rc22 (lp_Q_fewestFor_48_37 rc22 n) x1 x2 x3 x4 x5 M
noncomputable def blp_Q_fewestFor_48_22 (rc13 : Int32 → Int32 → Int32 → Mm → Option (Int32 × Mm)) (rc22 : Int32 → Int32 → Int32 → Int32 → Mm → Option (Int32 × Mm)) (x1 : Int32) (x2 : Int32) (x3 : Int32) (x4 : Int32) (M : Mm) : Option (Int32 × Mm) :=
  if (M.1 2 1) ≤ x4 then (
    j_Q_fewestFor_48_77 rc13 x1 x2 x3 M
  ) else (
    lp_Q_fewestFor_48_37 rc22 FW x1 x2 x3 x4 0 M
  )
noncomputable def lp_Q_fewestFor_48_22 (rc13 : Int32 → Int32 → Int32 → Mm → Option (Int32 × Mm)) : Nat → Int32 → Int32 → Int32 → Int32 → Mm → Option (Int32 × Mm)
  | 0, _, _, _, _, _ => none
  | n + 1, x1, x2, x3, x4, M => blp_Q_fewestFor_48_22 rc13 (lp_Q_fewestFor_48_22 rc13 n) x1 x2 x3 x4 M
noncomputable def blp_Q_fewestFor_48_13 (rc13 : Int32 → Int32 → Int32 → Mm → Option (Int32 × Mm)) (x1 : Int32) (x2 : Int32) (x3 : Int32) (M : Mm) : Option (Int32 × Mm) :=
  if 9 < x3 then (
    some ((-2), M)
  ) else (
    lp_Q_fewestFor_48_22 rc13 FW x1 x2 x3 0 M
  )
noncomputable def lp_Q_fewestFor_48_13  : Nat → Int32 → Int32 → Int32 → Mm → Option (Int32 × Mm)
  | 0, _, _, _, _ => none
  | n + 1, x1, x2, x3, M => blp_Q_fewestFor_48_13  (lp_Q_fewestFor_48_13  n) x1 x2 x3 M
noncomputable def f_Q_fewestFor_48 (p0 : Int32) (p1 : Int32) (M : Mm) : Option (Int32 × Mm) :=
  (f_V_copy_49_32 M).bind fun M1 =>
  lp_Q_fewestFor_48_13 FW p0 p1 1 M1
noncomputable def f_P_fewest_0 (p0 : Int32) (p1 : Int32) (M : Mm) : Option (Int32 × Mm) :=
  (f_P_refusesPaper_0 p1 M).bind fun q1 =>
  if q1.1 = 0 then (
    (f_P_within p0 9999).bind fun v3 =>
    if v3 = 0 then (
      (f_P_refused_0 2 q1.2).bind fun q5 =>
      some (q5.1, q5.2)
    ) else (
      (f_Q_fewestFor_48 p0 p1 q1.2).bind fun q6 =>
      (f_P_granted_0 q6.1 q6.2).bind fun q7 =>
      some (q7.1, q7.2)
    )
  ) else (
    some ((-1), q1.2)
  )
noncomputable def j_Q_takeOut_48_103 (rc11 : Int32 → Int32 → Int32 → Int32 → Mm → Option Mm) (x1 : Int32) (x2 : Int32) (x3 : Int32) (x4 : Int32) (M : Mm) : Option Mm :=
  rc11 x1 x2 x3 (x4 + 1) M
noncomputable def j_Q_takeOut_48_97 (rc28 : Int32 → Int32 → Int32 → Int32 → Int32 → Mm → Option Mm) (x1 : Int32) (x2 : Int32) (x3 : Int32) (x4 : Int32) (x5 : Int32) (M : Mm) : Option Mm :=
  rc28 x1 x2 x3 x4 (x5 + 1) M
noncomputable def blp_Q_takeOut_48_28 (rc11 : Int32 → Int32 → Int32 → Int32 → Mm → Option Mm) (rc28 : Int32 → Int32 → Int32 → Int32 → Int32 → Mm → Option Mm) (x1 : Int32) (x2 : Int32) (x3 : Int32) (x4 : Int32) (x5 : Int32) (M : Mm) : Option Mm :=
  if 18 ≤ x5 then (
    j_Q_takeOut_48_103 rc11 x1 x2 x3 x4 M
  ) else (
    (rd (M.1 50) 18 x5).bind fun v2 =>
    if v2 ≤ 0 then (
      j_Q_takeOut_48_97 rc28 x1 x2 x3 x4 x5 M
    ) else (
      (rd (M.1 50) 18 x5).bind fun v4 =>
      (wr M 50 18 x5 (v4 - 1)).bind fun M5 =>
      (f_Q_tried_48 x1 M5).bind fun q6 =>
      if x2 ≤ q6.1 then (
        j_Q_takeOut_48_97 rc28 x1 q6.1 1 x4 x5 q6.2
      ) else (
        (rd (q6.2.1 50) 18 x5).bind fun v8 =>
        (wr q6.2 50 18 x5 (v8 + 1)).bind fun M9 =>
        j_Q_takeOut_48_97 rc28 x1 x2 x3 x4 x5 M9
      )
    )
  )
noncomputable def lp_Q_takeOut_48_28 (rc11 : Int32 → Int32 → Int32 → Int32 → Mm → Option Mm) : Nat → Int32 → Int32 → Int32 → Int32 → Int32 → Mm → Option Mm
  | 0, _, _, _, _, _, _ => none
  | n + 1, x1, x2, x3, x4, x5, M => blp_Q_takeOut_48_28 rc11 (lp_Q_takeOut_48_28 rc11 n) x1 x2 x3 x4 x5 M
noncomputable def blp_Q_takeOut_48_11 (rc11 : Int32 → Int32 → Int32 → Int32 → Mm → Option Mm) (x1 : Int32) (x2 : Int32) (x3 : Int32) (x4 : Int32) (M : Mm) : Option Mm :=
  if x3 = 0 then (
    some M
  ) else (
    if 162 < x4 then (
      some M
    ) else (
      lp_Q_takeOut_48_28 rc11 FW x1 x2 0 x4 0 M
    )
  )
noncomputable def lp_Q_takeOut_48_11  : Nat → Int32 → Int32 → Int32 → Int32 → Mm → Option Mm
  | 0, _, _, _, _, _ => none
  | n + 1, x1, x2, x3, x4, M => blp_Q_takeOut_48_11  (lp_Q_takeOut_48_11  n) x1 x2 x3 x4 M
noncomputable def f_Q_takeOut_48 (p0 : Int32) (M : Mm) : Option Mm :=
  (f_Q_asNow_48 p0 M).bind fun q1 =>
  lp_Q_takeOut_48_11 FW p0 q1.1 1 0 q1.2
noncomputable def blp_V_allCards_49_4 (rc4 : Int32 → Int32 → Mm → Option Int32) (x1 : Int32) (x2 : Int32) (M : Mm) : Option Int32 :=
  if 18 ≤ x2 then (
    some x1
  ) else (
    (rd (M.1 50) 18 x2).bind fun v2 =>
    rc4 (x1 + v2) (x2 + 1) M
  )
noncomputable def lp_V_allCards_49_4  : Nat → Int32 → Int32 → Mm → Option Int32
  | 0, _, _, _ => none
  | n + 1, x1, x2, M => blp_V_allCards_49_4  (lp_V_allCards_49_4  n) x1 x2 M
noncomputable def f_V_allCards_49  (M : Mm) : Option Int32 :=
  lp_V_allCards_49_4 FW 0 0 M
noncomputable def f_P_thin_0 (p0 : Int32) (M : Mm) : Option (Int32 × Mm) :=
  (f_P_refusesPaper_0 p0 M).bind fun q1 =>
  if q1.1 = 0 then (
    (f_Q_takeOut_48 p0 q1.2).bind fun M3 =>
    (f_V_allCards_49 M3).bind fun v4 =>
    (f_P_granted_0 v4 M3).bind fun q5 =>
    some (q5.1, q5.2)
  ) else (
    some ((-1), q1.2)
  )
noncomputable def f_P_thinAt_0 (p0 : Int32) (p1 : Int32) (p2 : Int32) (M : Mm) : Option (Int32 × Mm) :=
  (f_P_isBench_0 p0 M).bind fun v1 =>
  if v1 = 0 then (
    (f_P_refused_0 1 M).bind fun q3 =>
    some (q3.1, q3.2)
  ) else (
    (f_P_isKind_0 p1 M).bind fun v4 =>
    if v4 = 0 then (
      (f_P_refused_0 1 M).bind fun q12 =>
      some (q12.1, q12.2)
    ) else (
      (f_P_refusesPaper_0 p2 M).bind fun q6 =>
      if q6.1 = 0 then (
        (f_Q_takeOut_48 p2 q6.2).bind fun M8 =>
        (f_P_cell p0 p1).bind fun v9 =>
        (rd (M8.1 50) 18 v9).bind fun v10 =>
        (f_P_granted_0 v10 M8).bind fun q11 =>
        some (q11.1, q11.2)
      ) else (
        some ((-1), q6.2)
      )
    )
  )
noncomputable def j_Q_bestCardMore_48_102 (rc12 : Int32 → Int32 → Int32 → Int32 → Mm → Option (Int32 × Mm)) (x1 : Int32) (x2 : Int32) (x3 : Int32) (x4 : Int32) (M : Mm) : Option (Int32 × Mm) :=
  rc12 x1 x2 x3 (x4 + 1) M
noncomputable def j_Q_bestCardMore_48_96 (rc27 : Int32 → Int32 → Int32 → Int32 → Int32 → Mm → Option (Int32 × Mm)) (x1 : Int32) (x2 : Int32) (x3 : Int32) (x4 : Int32) (x5 : Int32) (M : Mm) : Option (Int32 × Mm) :=
  rc27 x1 x2 x3 x4 (x5 + 1) M
noncomputable def j_Q_bestCardMore_48_82 (rc27 : Int32 → Int32 → Int32 → Int32 → Int32 → Mm → Option (Int32 × Mm)) (x1 : Int32) (x2 : Int32) (x3 : Int32) (x4 : Int32) (x5 : Int32) (x6 : Int32) (t0 : Int32) (M : Mm) : Option (Int32 × Mm) :=
  if t0 ≤ x2 then (
    j_Q_bestCardMore_48_96 rc27 x1 x2 x3 x4 x5 M
  ) else (
    j_Q_bestCardMore_48_96 rc27 x1 t0 x6 x4 x5 M
  )
noncomputable def blp_Q_bestCardMore_48_27 (rc12 : Int32 → Int32 → Int32 → Int32 → Mm → Option (Int32 × Mm)) (rc27 : Int32 → Int32 → Int32 → Int32 → Int32 → Mm → Option (Int32 × Mm)) (x1 : Int32) (x2 : Int32) (x3 : Int32) (x4 : Int32) (x5 : Int32) (M : Mm) : Option (Int32 × Mm) :=
  if (M.1 2 0) ≤ x5 then (
    j_Q_bestCardMore_48_102 rc12 x1 x2 x3 x4 M
  ) else (
    (f_P_cell x4 x5).bind fun v2 =>
    (rd (M.1 33) 18 v2).bind fun v3 =>
    if 9 ≤ v3 then (
      j_Q_bestCardMore_48_82 rc27 x1 x2 x3 x4 x5 v2 0 M
    ) else (
      (f_Q_withCards_48 v2 (v3 + 1) x1 M).bind fun q5 =>
      j_Q_bestCardMore_48_82 rc27 x1 x2 x3 x4 x5 v2 q5.1 q5.2
    )
  )
noncomputable def lp_Q_bestCardMore_48_27 (rc12 : Int32 → Int32 → Int32 → Int32 → Mm → Option (Int32 × Mm)) : Nat → Int32 → Int32 → Int32 → Int32 → Int32 → Mm → Option (Int32 × Mm)
  | 0, _, _, _, _, _, _ => none
  | n + 1, x1, x2, x3, x4, x5, M => blp_Q_bestCardMore_48_27 rc12 (lp_Q_bestCardMore_48_27 rc12 n) x1 x2 x3 x4 x5 M
noncomputable def blp_Q_bestCardMore_48_12 (rc12 : Int32 → Int32 → Int32 → Int32 → Mm → Option (Int32 × Mm)) (x1 : Int32) (x2 : Int32) (x3 : Int32) (x4 : Int32) (M : Mm) : Option (Int32 × Mm) :=
  if (M.1 2 1) ≤ x4 then (
    some (x3, M)
  ) else (
    lp_Q_bestCardMore_48_27 rc12 FW x1 x2 x3 x4 0 M
  )
noncomputable def lp_Q_bestCardMore_48_12  : Nat → Int32 → Int32 → Int32 → Int32 → Mm → Option (Int32 × Mm)
  | 0, _, _, _, _, _ => none
  | n + 1, x1, x2, x3, x4, M => blp_Q_bestCardMore_48_12  (lp_Q_bestCardMore_48_12  n) x1 x2 x3 x4 M
noncomputable def f_Q_bestCardMore_48 (p0 : Int32) (M : Mm) : Option (Int32 × Mm) :=
  (f_Q_asNow_48 p0 M).bind fun q1 =>
  lp_Q_bestCardMore_48_12 FW p0 q1.1 (-2) 0 q1.2
noncomputable def f_P_helps_0 (p0 : Int32) (M : Mm) : Option (Int32 × Mm) :=
  (f_P_refusesPaper_0 p0 M).bind fun q1 =>
  if q1.1 = 0 then (
    (f_Q_bestCardMore_48 p0 q1.2).bind fun q3 =>
    (f_P_granted_0 q3.1 q3.2).bind fun q4 =>
    some (q4.1, q4.2)
  ) else (
    some ((-1), q1.2)
  )
noncomputable def j_Q_bestSwiftBench_48_86 (rc7 : Int32 → Int32 → Int32 → Int32 → Mm → Option (Int32 × Mm)) (x1 : Int32) (x2 : Int32) (x3 : Int32) (x4 : Int32) (M : Mm) : Option (Int32 × Mm) :=
  rc7 x1 x2 x3 (x4 + 1) M
noncomputable def j_Q_bestSwiftBench_48_67 (rc7 : Int32 → Int32 → Int32 → Int32 → Mm → Option (Int32 × Mm)) (x1 : Int32) (x2 : Int32) (x3 : Int32) (x4 : Int32) (M : Mm) : Option (Int32 × Mm) :=
  (f_Q_tried_48 x1 M).bind fun q1 =>
  if q1.1 ≤ x2 then (
    j_Q_bestSwiftBench_48_86 rc7 x1 x2 x3 x4 q1.2
  ) else (
    j_Q_bestSwiftBench_48_86 rc7 x1 q1.1 x4 x4 q1.2
  )
noncomputable def blp_Q_bestSwiftBench_48_33 (rc7 : Int32 → Int32 → Int32 → Int32 → Mm → Option (Int32 × Mm)) (rc33 : Int32 → Int32 → Int32 → Int32 → Int32 → Mm → Option (Int32 × Mm)) (x1 : Int32) (x2 : Int32) (x3 : Int32) (x4 : Int32) (x5 : Int32) (M : Mm) : Option (Int32 × Mm) :=
  if (M.1 2 0) ≤ x5 then (
    j_Q_bestSwiftBench_48_67 rc7 x1 x2 x3 x4 M
  ) else (
    (f_P_cell x4 x5).bind fun v2 =>
    (wr M 51 18 v2 1).bind fun M3 =>
    rc33 x1 x2 x3 x4 (x5 + 1) M3
  )
noncomputable def lp_Q_bestSwiftBench_48_33 (rc7 : Int32 → Int32 → Int32 → Int32 → Mm → Option (Int32 × Mm)) : Nat → Int32 → Int32 → Int32 → Int32 → Int32 → Mm → Option (Int32 × Mm)
  | 0, _, _, _, _, _, _ => none
  | n + 1, x1, x2, x3, x4, x5, M => blp_Q_bestSwiftBench_48_33 rc7 (lp_Q_bestSwiftBench_48_33 rc7 n) x1 x2 x3 x4 x5 M
noncomputable def blp_Q_bestSwiftBench_48_7 (rc7 : Int32 → Int32 → Int32 → Int32 → Mm → Option (Int32 × Mm)) (x1 : Int32) (x2 : Int32) (x3 : Int32) (x4 : Int32) (M : Mm) : Option (Int32 × Mm) :=
  if (M.1 2 1) ≤ x4 then (
    some (x3, M)
  ) else (
    (f_V_copy_49_32 M).bind fun M2 =>
    lp_Q_bestSwiftBench_48_33 rc7 FW x1 x2 x3 x4 0 M2
  )
noncomputable def lp_Q_bestSwiftBench_48_7  : Nat → Int32 → Int32 → Int32 → Int32 → Mm → Option (Int32 × Mm)
  | 0, _, _, _, _, _ => none
  | n + 1, x1, x2, x3, x4, M => blp_Q_bestSwiftBench_48_7  (lp_Q_bestSwiftBench_48_7  n) x1 x2 x3 x4 M
noncomputable def f_Q_bestSwiftBench_48 (p0 : Int32) (M : Mm) : Option (Int32 × Mm) :=
  lp_Q_bestSwiftBench_48_7 FW p0 (-1) 0 0 M
noncomputable def f_P_holds_0 (p0 : Int32) (M : Mm) : Option (Int32 × Mm) :=
  (f_P_refusesPaper_0 p0 M).bind fun q1 =>
  if q1.1 = 0 then (
    (f_Q_bestSwiftBench_48 p0 q1.2).bind fun q3 =>
    (f_P_granted_0 q3.1 q3.2).bind fun q4 =>
    some (q4.1, q4.2)
  ) else (
    some ((-1), q1.2)
  )
noncomputable def f_T_clear_103  (M : Mm) : Option Mm :=
  (some (s1 M 105 (fil (M.1 105) 1024 (-1)))).bind fun M1 =>
  some M1
noncomputable def blp_L_allStreamsBegun_52_2 (rc2 : Int32 → Mm → Option Int32) (x1 : Int32) (M : Mm) : Option Int32 :=
  if (M.1 2 2) ≤ x1 then (
    some 1
  ) else (
    (rd (M.1 8) 4 x1).bind fun v2 =>
    if v2 < (M.1 52 14) then (
      rc2 (x1 + 1) M
    ) else (
      some 0
    )
  )
noncomputable def lp_L_allStreamsBegun_52_2  : Nat → Int32 → Mm → Option Int32
  | 0, _, _ => none
  | n + 1, x1, M => blp_L_allStreamsBegun_52_2  (lp_L_allStreamsBegun_52_2  n) x1 M
noncomputable def f_L_allStreamsBegun_52  (M : Mm) : Option Int32 :=
  lp_L_allStreamsBegun_52_2 FW 0 M
noncomputable def f_L_minutesLeft_52 (p0 : Int32) (M : Mm) : Option Int32 :=
  (rd (M.1 55) 6 p0).bind fun v1 =>
  if v1 = 0 then (
    some 0
  ) else (
    (rd (M.1 57) 6 p0).bind fun v3 =>
    some (v3 - (M.1 52 14))
  )
noncomputable def blp_L_signOfBench_52_75 (rc75 : Int32 → Int64 → Int32 → Mm → Option Int64) (x1 : Int32) (x2 : Int64) (x4 : Int32) (M : Mm) : Option Int64 :=
  if 3 ≤ x4 then (
    some x2
  ) else (
    (f_P_cell x1 x4).bind fun v2 =>
    (rd (M.1 53) 18 v2).bind fun v3 =>
    (some ((x2 <<< (Int32.toInt64 4 &&& 63)) + (Int32.toInt64 v3))).bind fun w4 =>
    rc75 x1 w4 (x4 + 1) M
  )
noncomputable def lp_L_signOfBench_52_75  : Nat → Int32 → Int64 → Int32 → Mm → Option Int64
  | 0, _, _, _, _ => none
  | n + 1, x1, x2, x4, M => blp_L_signOfBench_52_75  (lp_L_signOfBench_52_75  n) x1 x2 x4 M
noncomputable def j_L_signOfBench_52_32  (x1 : Int32) (t0 : Int32) (t1 : Int64) (M : Mm) : Option Int64 :=
  (f_L_minutesLeft_52 x1 M).bind fun v1 =>
  (some (((t1 + (Int32.toInt64 t0)) <<< (Int32.toInt64 7 &&& 63)) + (Int32.toInt64 v1))).bind fun w2 =>
  (rd (M.1 58) 6 x1).bind fun v3 =>
  (rd (M.1 5) 6 x1).bind fun v4 =>
  (f_P_remainder v3 v4).bind fun v5 =>
  (some ((w2 <<< (Int32.toInt64 7 &&& 63)) + (Int32.toInt64 v5))).bind fun w6 =>
  lp_L_signOfBench_52_75 FW x1 w6 0 M
noncomputable def f_L_signOfBench_52 (p0 : Int32) (M : Mm) : Option Int64 :=
  (rd (M.1 55) 6 p0).bind fun v1 =>
  (rd (M.1 56) 6 p0).bind fun v2 =>
  if v2 = (-2) then (
    j_L_signOfBench_52_32 p0 3 ((Int32.toInt64 v1) <<< (Int32.toInt64 2 &&& 63)) M
  ) else (
    (rd (M.1 56) 6 p0).bind fun v4 =>
    j_L_signOfBench_52_32 p0 v4 ((Int32.toInt64 v1) <<< (Int32.toInt64 2 &&& 63)) M
  )
noncomputable def blp_L_sign_52_104_108 (rc108 : Int32 → Int32 → Mm → Option Mm) (x2 : Int32) (x3 : Int32) (M : Mm) : Option Mm :=
  if (M.1 2 2) ≤ x3 then (
    some M
  ) else (
    (rdL (M.2 104) 10000 (x2 + 4)).bind fun w2 =>
    (f_L_nextOrder_52 x3 M).bind fun v3 =>
    (wrL M 104 10000 (x2 + 4) ((w2 <<< (Int32.toInt64 10 &&& 63)) + (Int32.toInt64 (v3 - (M.1 52 14))))).bind fun M4 =>
    rc108 x2 (x3 + 1) M4
  )
noncomputable def lp_L_sign_52_104_108  : Nat → Int32 → Int32 → Mm → Option Mm
  | 0, _, _, _ => none
  | n + 1, x2, x3, M => blp_L_sign_52_104_108  (lp_L_sign_52_104_108  n) x2 x3 M
noncomputable def j_L_sign_52_104_106  (x2 : Int32) (M : Mm) : Option Mm :=
  lp_L_sign_52_104_108 FW x2 0 M
noncomputable def blp_L_sign_52_104_68 (rc68 : Int32 → Int32 → Mm → Option Mm) (x2 : Int32) (x3 : Int32) (M : Mm) : Option Mm :=
  if (M.1 2 0) ≤ x3 then (
    j_L_sign_52_104_106 x2 M
  ) else (
    (rdL (M.2 104) 10000 (x2 + 3)).bind fun w2 =>
    (rd (M.1 62) 3 x3).bind fun v3 =>
    (wrL M 104 10000 (x2 + 3) ((w2 <<< (Int32.toInt64 20 &&& 63)) + (Int32.toInt64 v3))).bind fun M4 =>
    rc68 x2 (x3 + 1) M4
  )
noncomputable def lp_L_sign_52_104_68  : Nat → Int32 → Int32 → Mm → Option Mm
  | 0, _, _, _ => none
  | n + 1, x2, x3, M => blp_L_sign_52_104_68  (lp_L_sign_52_104_68  n) x2 x3 M
noncomputable def j_L_sign_52_104_66  (x2 : Int32) (M : Mm) : Option Mm :=
  lp_L_sign_52_104_68 FW x2 0 M
noncomputable def j_L_sign_52_104_57 (rc21 : Int32 → Int32 → Mm → Option Mm) (x2 : Int32) (x3 : Int32) (t0 : Int32) (t1 : Int64) (t2 : Int64) (t3 : Int32) (M : Mm) : Option Mm :=
  (wrL M 104 10000 t3 (t2 ||| (t1 <<< (Int32.toInt64 t0 &&& 63)))).bind fun M1 =>
  rc21 x2 (x3 + 1) M1
noncomputable def blp_L_sign_52_104_21 (rc21 : Int32 → Int32 → Mm → Option Mm) (x2 : Int32) (x3 : Int32) (M : Mm) : Option Mm :=
  if (M.1 2 1) ≤ x3 then (
    j_L_sign_52_104_66 x2 M
  ) else (
    (dvI x3 2).bind fun v2 =>
    (rdL (M.2 104) 10000 (x2 + v2)).bind fun w3 =>
    (f_L_signOfBench_52 x3 M).bind fun w4 =>
    (rmI x3 2).bind fun v5 =>
    if v5 = 0 then (
      j_L_sign_52_104_57 rc21 x2 x3 0 w4 w3 (x2 + v2) M
    ) else (
      j_L_sign_52_104_57 rc21 x2 x3 32 w4 w3 (x2 + v2) M
    )
  )
noncomputable def lp_L_sign_52_104_21  : Nat → Int32 → Int32 → Mm → Option Mm
  | 0, _, _, _ => none
  | n + 1, x2, x3, M => blp_L_sign_52_104_21  (lp_L_sign_52_104_21  n) x2 x3 M
noncomputable def j_L_sign_52_104_19  (x2 : Int32) (M : Mm) : Option Mm :=
  lp_L_sign_52_104_21 FW x2 0 M
noncomputable def blp_L_sign_52_104_2 (rc2 : Int32 → Int32 → Mm → Option Mm) (x2 : Int32) (x3 : Int32) (M : Mm) : Option Mm :=
  if 5 ≤ x3 then (
    j_L_sign_52_104_19 x2 M
  ) else (
    (wrL M 104 10000 (x2 + x3) 0).bind fun M2 =>
    rc2 x2 (x3 + 1) M2
  )
noncomputable def lp_L_sign_52_104_2  : Nat → Int32 → Int32 → Mm → Option Mm
  | 0, _, _, _ => none
  | n + 1, x2, x3, M => blp_L_sign_52_104_2  (lp_L_sign_52_104_2  n) x2 x3 M
noncomputable def f_L_sign_52_104 (p0 : Int32) (M : Mm) : Option Mm :=
  lp_L_sign_52_104_2 FW p0 0 M
noncomputable def blp_T_bucketOf_103_5 (rc5 : Int32 → Int64 → Int32 → Mm → Option Int32) (x1 : Int32) (x2 : Int64) (x4 : Int32) (M : Mm) : Option Int32 :=
  if 5 ≤ x4 then (
    some (Int64.toInt32 (Int64.toUInt64 (x2 * (-7046029254386353131)) >>> ((Int32.toInt64 54).toUInt64 &&& Int64.toUInt64 63)).toInt64)
  ) else (
    (rdL (M.2 104) 10000 ((5 * x1) + x4)).bind fun w2 =>
    (some (((x2 ^^^ w2) * (-7046029254386353131)) ^^^ (Int64.toUInt64 ((x2 ^^^ w2) * (-7046029254386353131)) >>> ((Int32.toInt64 32).toUInt64 &&& Int64.toUInt64 63)).toInt64)).bind fun w3 =>
    rc5 x1 w3 (x4 + 1) M
  )
noncomputable def lp_T_bucketOf_103_5  : Nat → Int32 → Int64 → Int32 → Mm → Option Int32
  | 0, _, _, _, _ => none
  | n + 1, x1, x2, x4, M => blp_T_bucketOf_103_5  (lp_T_bucketOf_103_5  n) x1 x2 x4 M
noncomputable def f_T_bucketOf_103 (p0 : Int32) (M : Mm) : Option Int32 :=
  lp_T_bucketOf_103_5 FW p0 0 0 M
noncomputable def blp_T_isAlike_103_2 (rc2 : Int32 → Int32 → Int32 → Mm → Option Int32) (x1 : Int32) (x2 : Int32) (x3 : Int32) (M : Mm) : Option Int32 :=
  if 5 ≤ x3 then (
    some 1
  ) else (
    (rdL (M.2 104) 10000 ((5 * x1) + x3)).bind fun w2 =>
    (rdL (M.2 104) 10000 ((5 * x2) + x3)).bind fun w3 =>
    if (lg_cmp w2 w3) = 0 then (
      rc2 x1 x2 (x3 + 1) M
    ) else (
      some 0
    )
  )
noncomputable def lp_T_isAlike_103_2  : Nat → Int32 → Int32 → Int32 → Mm → Option Int32
  | 0, _, _, _, _ => none
  | n + 1, x1, x2, x3, M => blp_T_isAlike_103_2  (lp_T_isAlike_103_2  n) x1 x2 x3 M
noncomputable def f_T_isAlike_103 (p0 : Int32) (p1 : Int32) (M : Mm) : Option Int32 :=
  lp_T_isAlike_103_2 FW p0 p1 0 M
noncomputable def j_T_earlierLike_103_52_83  (x2 : Int32) (x3 : Int32) (M : Mm) : Option (Int32 × Mm) :=
  (rd (M.1 105) 1024 x3).bind fun v1 =>
  (wr M 106 2000 x2 v1).bind fun M2 =>
  (wr M2 105 1024 x3 x2).bind fun M3 =>
  some ((-1), M3)
noncomputable def blp_T_earlierLike_103_52_41 (rc41 : Int32 → Int32 → Int32 → Int32 → Mm → Option (Int32 × Mm)) (x2 : Int32) (x3 : Int32) (x4 : Int32) (x5 : Int32) (M : Mm) : Option (Int32 × Mm) :=
  if 2000 ≤ x5 then (
    j_T_earlierLike_103_52_83 x2 x3 M
  ) else (
    if x4 = (-1) then (
      j_T_earlierLike_103_52_83 x2 x3 M
    ) else (
      (f_T_isAlike_103 x2 x4 M).bind fun v3 =>
      if v3 = 0 then (
        (rd (M.1 106) 2000 x4).bind fun v5 =>
        rc41 x2 x3 v5 (x5 + 1) M
      ) else (
        some (x4, M)
      )
    )
  )
noncomputable def lp_T_earlierLike_103_52_41  : Nat → Int32 → Int32 → Int32 → Int32 → Mm → Option (Int32 × Mm)
  | 0, _, _, _, _, _ => none
  | n + 1, x2, x3, x4, x5, M => blp_T_earlierLike_103_52_41  (lp_T_earlierLike_103_52_41  n) x2 x3 x4 x5 M
noncomputable def f_T_earlierLike_103_52 (p0 : Int32) (M : Mm) : Option (Int32 × Mm) :=
  if p0 < 0 then (
    some ((-1), M)
  ) else (
    if p0 < 2000 then (
      (f_L_sign_52_104 (5 * p0) M).bind fun M3 =>
      (f_T_bucketOf_103 p0 M3).bind fun v4 =>
      (rd (M3.1 105) 1024 v4).bind fun v5 =>
      lp_T_earlierLike_103_52_41 FW p0 v4 v5 0 M3
    ) else (
      some ((-1), M)
    )
  )
noncomputable def j_Q_firstAgain_48_107 (rc46 : Int32 → Int32 → Mm → Option (Int32 × Mm)) (x1 : Int32) (x2 : Int32) (M : Mm) : Option (Int32 × Mm) :=
  rc46 x1 (x2 + 1) M
noncomputable def blp_Q_firstAgain_48_46 (rc46 : Int32 → Int32 → Mm → Option (Int32 × Mm)) (x1 : Int32) (x2 : Int32) (M : Mm) : Option (Int32 × Mm) :=
  if x1 ≤ x2 then (
    some ((-2), M)
  ) else (
    (f_L_change_52 M).bind fun M2 =>
    (some (u1 M2 52 14 ((M2.1 52 14) + 1))).bind fun M3 =>
    (f_L_allStreamsBegun_52 M3).bind fun v4 =>
    if v4 = 0 then (
      j_Q_firstAgain_48_107 rc46 x1 x2 M3
    ) else (
      (f_T_earlierLike_103_52 x2 M3).bind fun q6 =>
      (some (u1 q6.2 48 5 q6.1)).bind fun M7 =>
      if (M7.1 48 5) = (-1) then (
        j_Q_firstAgain_48_107 rc46 x1 x2 M7
      ) else (
        some (x2, M7)
      )
    )
  )
noncomputable def lp_Q_firstAgain_48_46  : Nat → Int32 → Int32 → Mm → Option (Int32 × Mm)
  | 0, _, _, _ => none
  | n + 1, x1, x2, M => blp_Q_firstAgain_48_46  (lp_Q_firstAgain_48_46  n) x1 x2 M
noncomputable def j_Q_firstAgain_48_18  (x1 : Int32) (M : Mm) : Option (Int32 × Mm) :=
  (f_V_copy_49_32 M).bind fun M1 =>
  (f_L_start_52 0 M1).bind fun M2 =>
  (f_T_clear_103 M2).bind fun M3 =>
  lp_Q_firstAgain_48_46 FW x1 0 M3
noncomputable def f_Q_firstAgain_48 (p0 : Int32) (M : Mm) : Option (Int32 × Mm) :=
  j_Q_firstAgain_48_18 p0 M
noncomputable def f_P_comesAgain_0 (p0 : Int32) (p1 : Int32) (M : Mm) : Option (Int32 × Mm) :=
  if (M.1 0 9) = 0 then (
    (f_P_refused_0 1 M).bind fun q2 =>
    some (q2.1, q2.2)
  ) else (
    (f_P_within p1 1).bind fun v3 =>
    if v3 = 0 then (
      (f_P_refused_0 1 M).bind fun q13 =>
      some (q13.1, q13.2)
    ) else (
      (f_P_refusesPaper_0 p0 M).bind fun q5 =>
      if q5.1 = 0 then (
        (f_Q_firstAgain_48 p0 q5.2).bind fun q7 =>
        if p1 = 0 then (
          (f_P_granted_0 q7.1 q7.2).bind fun q9 =>
          some (q9.1, q9.2)
        ) else (
          if q7.1 = (-2) then (
            (f_P_granted_0 q7.1 q7.2).bind fun q12 =>
            some (q12.1, q12.2)
          ) else (
            (f_P_granted_0 (q7.1 - (q7.2.1 48 5)) q7.2).bind fun q11 =>
            some (q11.1, q11.2)
          )
        )
      ) else (
        some ((-1), q5.2)
      )
    )
  )
noncomputable def j_V_turn_32_62  (x2 : Int32) (M : Mm) : Option (Int32 × Mm) :=
  (some (u1 M 32 2 x2)).bind fun M1 =>
  some ((M.1 32 2), M1)
noncomputable def j_V_turn_32_27  (x1 : Int32) (x2 : Int32) (M : Mm) : Option (Int32 × Mm) :=
  if x1 < 18 then (
    j_V_turn_32_62 x2 M
  ) else (
    if 36 ≤ x1 then (
      j_V_turn_32_62 x2 M
    ) else (
      (rd (M.1 34) 18 (x1 - 18)).bind fun v3 =>
      (wr M 34 18 (x1 - 18) x2).bind fun M4 =>
      some (v3, M4)
    )
  )
noncomputable def f_V_turn_32 (p0 : Int32) (p1 : Int32) (M : Mm) : Option (Int32 × Mm) :=
  if p0 < 0 then (
    j_V_turn_32_27 p0 p1 M
  ) else (
    if 18 ≤ p0 then (
      j_V_turn_32_27 p0 p1 M
    ) else (
      (rd (M.1 33) 18 p0).bind fun v3 =>
      (wr M 33 18 p0 p1).bind fun M4 =>
      some (v3, M4)
    )
  )
noncomputable def j_A_perform_65_32_45  (x2 : Int32) (x3 : Int32) (M : Mm) : Option (Int32 × Mm) :=
  (f_V_turn_32 x2 x3 M).bind fun q1 =>
  (wr q1.2 66 10 (q1.2.1 65 2) x2).bind fun M2 =>
  (wr M2 67 10 (M2.1 65 2) q1.1).bind fun M3 =>
  (some (u1 M3 65 2 ((M3.1 65 2) + 1))).bind fun M4 =>
  some (q1.1, M4)
noncomputable def f_A_perform_65_32 (p0 : Int32) (p1 : Int32) (M : Mm) : Option (Int32 × Mm) :=
  if (M.1 65 2) < 10 then (
    j_A_perform_65_32_45 p0 p1 M
  ) else (
    (cpy M 66 10 66 10 1 0 9).bind fun M2 =>
    (cpy M2 67 10 67 10 1 0 9).bind fun M3 =>
    (some (u1 M3 65 2 9)).bind fun M4 =>
    j_A_perform_65_32_45 p0 p1 M4
  )
noncomputable def f_P_cards_0 (p0 : Int32) (p1 : Int32) (p2 : Int32) (M : Mm) : Option (Int32 × Mm) :=
  (f_P_isBench_0 p0 M).bind fun v1 =>
  if v1 = 0 then (
    (f_P_refused_0 1 M).bind fun q3 =>
    some (q3.1, q3.2)
  ) else (
    (f_P_isKind_0 p1 M).bind fun v4 =>
    if v4 = 0 then (
      (f_P_refused_0 1 M).bind fun q12 =>
      some (q12.1, q12.2)
    ) else (
      (f_P_within p2 9).bind fun v6 =>
      if v6 = 0 then (
        (f_P_refused_0 2 M).bind fun q11 =>
        some (q11.1, q11.2)
      ) else (
        (f_P_cell p0 p1).bind fun v8 =>
        (f_A_perform_65_32 v8 p2 M).bind fun q9 =>
        (f_P_granted_0 q9.1 q9.2).bind fun q10 =>
        some (q10.1, q10.2)
      )
    )
  )
noncomputable def f_P_time_0 (p0 : Int32) (p1 : Int32) (p2 : Int32) (M : Mm) : Option (Int32 × Mm) :=
  (f_P_isBench_0 p0 M).bind fun v1 =>
  if v1 = 0 then (
    (f_P_refused_0 1 M).bind fun q3 =>
    some (q3.1, q3.2)
  ) else (
    (f_P_isKind_0 p1 M).bind fun v4 =>
    if v4 = 0 then (
      (f_P_refused_0 1 M).bind fun q13 =>
      some (q13.1, q13.2)
    ) else (
      if p2 < 1 then (
        (f_P_refused_0 2 M).bind fun q7 =>
        some (q7.1, q7.2)
      ) else (
        if p2 ≤ 60 then (
          (f_P_cell p0 p1).bind fun v9 =>
          (f_A_perform_65_32 (18 + v9) p2 M).bind fun q10 =>
          (f_P_granted_0 q10.1 q10.2).bind fun q11 =>
          some (q11.1, q11.2)
        ) else (
          (f_P_refused_0 2 M).bind fun q12 =>
          some (q12.1, q12.2)
        )
      )
    )
  )
noncomputable def f_P_rule_0 (p0 : Int32) (M : Mm) : Option (Int32 × Mm) :=
  if (M.1 0 9) = 0 then (
    (f_P_refused_0 1 M).bind fun q7 =>
    some (q7.1, q7.2)
  ) else (
    (f_P_within p0 2).bind fun v2 =>
    if v2 = 0 then (
      (f_P_refused_0 2 M).bind fun q6 =>
      some (q6.1, q6.2)
    ) else (
      (f_A_perform_65_32 36 p0 M).bind fun q4 =>
      (f_P_granted_0 q4.1 q4.2).bind fun q5 =>
      some (q5.1, q5.2)
    )
  )
noncomputable def f_A_takeBack_65_32  (M : Mm) : Option Mm :=
  if (M.1 65 2) ≤ 0 then (
    some M
  ) else (
    (some (u1 M 65 2 ((M.1 65 2) - 1))).bind fun M2 =>
    (rd (M2.1 66) 10 (M2.1 65 2)).bind fun v3 =>
    (rd (M2.1 67) 10 (M2.1 65 2)).bind fun v4 =>
    (f_V_turn_32 v3 v4 M2).bind fun q5 =>
    some q5.2
  )
noncomputable def f_P_undo_0  (M : Mm) : Option (Int32 × Mm) :=
  if (M.1 0 9) = 0 then (
    (f_P_refused_0 1 M).bind fun q6 =>
    some (q6.1, q6.2)
  ) else (
    if (M.1 65 2) = 0 then (
      (f_P_refused_0 5 M).bind fun q5 =>
      some (q5.1, q5.2)
    ) else (
      (f_A_takeBack_65_32 M).bind fun M3 =>
      (f_P_granted_0 (M3.1 65 2) M3).bind fun q4 =>
      some (q4.1, q4.2)
    )
  )
noncomputable def f_L_copy_73_35  (M : Mm) : Option Mm :=
  (cpy M 36 18 74 18 0 0 18).bind fun M1 =>
  (cpy M1 37 18 75 18 0 0 18).bind fun M2 =>
  (cpy M2 38 6 76 6 0 0 6).bind fun M3 =>
  (cpy M3 39 6 77 6 0 0 6).bind fun M4 =>
  (cpy M4 40 6 78 6 0 0 6).bind fun M5 =>
  (cpy M5 41 6 79 6 0 0 6).bind fun M6 =>
  (cpy M6 42 24 80 24 0 0 24).bind fun M7 =>
  (cpy M7 43 6 81 6 0 0 6).bind fun M8 =>
  (cpy M8 44 3 82 3 0 0 3).bind fun M9 =>
  (cpy M9 45 3 83 3 0 0 3).bind fun M10 =>
  (cpy M10 46 3 84 3 0 0 3).bind fun M11 =>
  (cpy M11 47 3 85 3 0 0 3).bind fun M12 =>
  (some (u1 M12 73 14 (M12.1 35 14))).bind fun M13 =>
  (some (u1 M13 73 15 (M13.1 35 15))).bind fun M14 =>
  (some (u1 M14 73 16 (M14.1 35 16))).bind fun M15 =>
  (some (u1 M15 73 17 (M15.1 35 17))).bind fun M16 =>
  some M16
noncomputable def f_V_copy_70_32  (M : Mm) : Option Mm :=
  (cpy M 33 18 71 18 0 0 18).bind fun M1 =>
  (cpy M1 34 18 72 18 0 0 18).bind fun M2 =>
  (some (u1 M2 70 2 (M2.1 32 2))).bind fun M3 =>
  some M3
noncomputable def f_L_copy_90_35  (M : Mm) : Option Mm :=
  (cpy M 36 18 91 18 0 0 18).bind fun M1 =>
  (cpy M1 37 18 92 18 0 0 18).bind fun M2 =>
  (cpy M2 38 6 93 6 0 0 6).bind fun M3 =>
  (cpy M3 39 6 94 6 0 0 6).bind fun M4 =>
  (cpy M4 40 6 95 6 0 0 6).bind fun M5 =>
  (cpy M5 41 6 96 6 0 0 6).bind fun M6 =>
  (cpy M6 42 24 97 24 0 0 24).bind fun M7 =>
  (cpy M7 43 6 98 6 0 0 6).bind fun M8 =>
  (cpy M8 44 3 99 3 0 0 3).bind fun M9 =>
  (cpy M9 45 3 100 3 0 0 3).bind fun M10 =>
  (cpy M10 46 3 101 3 0 0 3).bind fun M11 =>
  (cpy M11 47 3 102 3 0 0 3).bind fun M12 =>
  (some (u1 M12 90 14 (M12.1 35 14))).bind fun M13 =>
  (some (u1 M13 90 15 (M13.1 35 15))).bind fun M14 =>
  (some (u1 M14 90 16 (M14.1 35 16))).bind fun M15 =>
  (some (u1 M15 90 17 (M15.1 35 17))).bind fun M16 =>
  some M16
noncomputable def f_V_copy_87_32  (M : Mm) : Option Mm :=
  (cpy M 33 18 88 18 0 0 18).bind fun M1 =>
  (cpy M1 34 18 89 18 0 0 18).bind fun M2 =>
  (some (u1 M2 87 2 (M2.1 32 2))).bind fun M3 =>
  some M3
noncomputable def f_P_keep_0 (p0 : Int32) (M : Mm) : Option (Int32 × Mm) :=
  if (M.1 0 9) = 0 then (
    (f_P_refused_0 1 M).bind fun q2 =>
    some (0, q2.2)
  ) else (
    (f_P_within p0 1).bind fun v3 =>
    if v3 = 0 then (
      (f_P_refused_0 1 M).bind fun q15 =>
      some (0, q15.2)
    ) else (
      if p0 = 0 then (
        (some (u1 M 69 2 1)).bind fun M6 =>
        (f_L_copy_73_35 M6).bind fun M7 =>
        (f_V_copy_70_32 M7).bind fun M8 =>
        (f_P_granted_0 0 M8).bind fun q9 =>
        some (1, q9.2)
      ) else (
        if p0 = 1 then (
          (some (u1 M 86 2 1)).bind fun M11 =>
          (f_L_copy_90_35 M11).bind fun M12 =>
          (f_V_copy_87_32 M12).bind fun M13 =>
          (f_P_granted_0 0 M13).bind fun q14 =>
          some (1, q14.2)
        ) else (
          none))
    )
  )
noncomputable def f_L_copy_35_73  (M : Mm) : Option Mm :=
  (cpy M 74 18 36 18 0 0 18).bind fun M1 =>
  (cpy M1 75 18 37 18 0 0 18).bind fun M2 =>
  (cpy M2 76 6 38 6 0 0 6).bind fun M3 =>
  (cpy M3 77 6 39 6 0 0 6).bind fun M4 =>
  (cpy M4 78 6 40 6 0 0 6).bind fun M5 =>
  (cpy M5 79 6 41 6 0 0 6).bind fun M6 =>
  (cpy M6 80 24 42 24 0 0 24).bind fun M7 =>
  (cpy M7 81 6 43 6 0 0 6).bind fun M8 =>
  (cpy M8 82 3 44 3 0 0 3).bind fun M9 =>
  (cpy M9 83 3 45 3 0 0 3).bind fun M10 =>
  (cpy M10 84 3 46 3 0 0 3).bind fun M11 =>
  (cpy M11 85 3 47 3 0 0 3).bind fun M12 =>
  (some (u1 M12 35 14 (M12.1 73 14))).bind fun M13 =>
  (some (u1 M13 35 15 (M13.1 73 15))).bind fun M14 =>
  (some (u1 M14 35 16 (M14.1 73 16))).bind fun M15 =>
  (some (u1 M15 35 17 (M15.1 73 17))).bind fun M16 =>
  some M16
noncomputable def f_V_copy_32_70  (M : Mm) : Option Mm :=
  (cpy M 71 18 33 18 0 0 18).bind fun M1 =>
  (cpy M1 72 18 34 18 0 0 18).bind fun M2 =>
  (some (u1 M2 32 2 (M2.1 70 2))).bind fun M3 =>
  some M3
noncomputable def f_L_copy_35_90  (M : Mm) : Option Mm :=
  (cpy M 91 18 36 18 0 0 18).bind fun M1 =>
  (cpy M1 92 18 37 18 0 0 18).bind fun M2 =>
  (cpy M2 93 6 38 6 0 0 6).bind fun M3 =>
  (cpy M3 94 6 39 6 0 0 6).bind fun M4 =>
  (cpy M4 95 6 40 6 0 0 6).bind fun M5 =>
  (cpy M5 96 6 41 6 0 0 6).bind fun M6 =>
  (cpy M6 97 24 42 24 0 0 24).bind fun M7 =>
  (cpy M7 98 6 43 6 0 0 6).bind fun M8 =>
  (cpy M8 99 3 44 3 0 0 3).bind fun M9 =>
  (cpy M9 100 3 45 3 0 0 3).bind fun M10 =>
  (cpy M10 101 3 46 3 0 0 3).bind fun M11 =>
  (cpy M11 102 3 47 3 0 0 3).bind fun M12 =>
  (some (u1 M12 35 14 (M12.1 90 14))).bind fun M13 =>
  (some (u1 M13 35 15 (M13.1 90 15))).bind fun M14 =>
  (some (u1 M14 35 16 (M14.1 90 16))).bind fun M15 =>
  (some (u1 M15 35 17 (M15.1 90 17))).bind fun M16 =>
  some M16
noncomputable def f_V_copy_32_87  (M : Mm) : Option Mm :=
  (cpy M 88 18 33 18 0 0 18).bind fun M1 =>
  (cpy M1 89 18 34 18 0 0 18).bind fun M2 =>
  (some (u1 M2 32 2 (M2.1 87 2))).bind fun M3 =>
  some M3
noncomputable def f_P_back_0 (p0 : Int32) (M : Mm) : Option (Int32 × Mm) :=
  if (M.1 0 9) = 0 then (
    (f_P_refused_0 1 M).bind fun q2 =>
    some (0, q2.2)
  ) else (
    (f_P_within p0 1).bind fun v3 =>
    if v3 = 0 then (
      (f_P_refused_0 1 M).bind fun q5 =>
      some (0, q5.2)
    ) else (
      if p0 = 0 then (
        if (M.1 69 2) = 0 then (
          (f_P_refused_0 1 M).bind fun q18 =>
          some (0, q18.2)
        ) else (
          if p0 = 0 then (
            (f_L_copy_35_73 M).bind fun M9 =>
            (f_V_copy_32_70 M9).bind fun M10 =>
            (some (u1 M10 65 2 0)).bind fun M11 =>
            (f_P_granted_0 0 M11).bind fun q12 =>
            some (1, q12.2)
          ) else (
            if p0 = 1 then (
              (f_L_copy_35_90 M).bind fun M14 =>
              (f_V_copy_32_87 M14).bind fun M15 =>
              (some (u1 M15 65 2 0)).bind fun M16 =>
              (f_P_granted_0 0 M16).bind fun q17 =>
              some (1, q17.2)
            ) else (
              none))
        )
      ) else (
        if p0 = 1 then (
          if (M.1 86 2) = 0 then (
            (f_P_refused_0 1 M).bind fun q31 =>
            some (0, q31.2)
          ) else (
            if p0 = 0 then (
              (f_L_copy_35_73 M).bind fun M22 =>
              (f_V_copy_32_70 M22).bind fun M23 =>
              (some (u1 M23 65 2 0)).bind fun M24 =>
              (f_P_granted_0 0 M24).bind fun q25 =>
              some (1, q25.2)
            ) else (
              if p0 = 1 then (
                (f_L_copy_35_90 M).bind fun M27 =>
                (f_V_copy_32_87 M27).bind fun M28 =>
                (some (u1 M28 65 2 0)).bind fun M29 =>
                (f_P_granted_0 0 M29).bind fun q30 =>
                some (1, q30.2)
              ) else (
                none))
          )
        ) else (
          none))
    )
  )
noncomputable def f_P_bytes_0  (M : Mm) : Option Int32 :=
  some (M.1 0 8)
noncomputable def f_P_trouble_0  (M : Mm) : Option Int32 :=
  some (M.1 0 10)
noncomputable def j_P_letter_0_42  (x3 : Int32) (t0 : Int32) (M : Mm) : Option Int32 :=
  (rd (M.1 10) 9 t0).bind fun v1 =>
  (f_P_within x3 (v1 - 1)).bind fun v2 =>
  if v2 = 0 then (
    none
  ) else (
    (rd (M.1 9) 54 ((6 * t0) + x3)).bind fun v4 =>
    some v4
  )
noncomputable def j_P_letter_0_31  (x1 : Int32) (x2 : Int32) (x3 : Int32) (M : Mm) : Option Int32 :=
  if x1 = 0 then (
    j_P_letter_0_42 x3 (3 + x2) M
  ) else (
    j_P_letter_0_42 x3 x2 M
  )
noncomputable def j_P_letter_0_23   (M : Mm) : Option Int32 :=
  none
noncomputable def f_P_letter_0 (p0 : Int32) (p1 : Int32) (p2 : Int32) (M : Mm) : Option Int32 :=
  if p0 = 0 then (
    (f_P_isBench_0 p1 M).bind fun v2 =>
    if v2 = 0 then (
      j_P_letter_0_23 M
    ) else (
      j_P_letter_0_31 p0 p1 p2 M
    )
  ) else (
    (f_P_isKind_0 p1 M).bind fun v4 =>
    if v4 = 0 then (
      j_P_letter_0_23 M
    ) else (
      j_P_letter_0_31 p0 p1 p2 M
    )
  )
noncomputable def f_M_thrown_0  (M : Mm) : Option Int32 :=
  some (M.1 0 0)
noncomputable def j_M_feed_0_113   (M : Mm) : Option (Int32 × Mm) :=
  (some (u1 M 0 4 ((M.1 0 4) + 20))).bind fun M1 =>
  some ((M1.1 0 4), M1)
noncomputable def j_M_feed_0_76 (rc23 : Int32 → Int32 → Int32 → Int32 → Int32 → Int32 → Mm → Option (Int32 × Mm)) (x1 : Int32) (x2 : Int32) (x3 : Int32) (x4 : Int32) (x5 : Int32) (x6 : Int32) (t0 : Int32) (M : Mm) : Option (Int32 × Mm) :=
  (rmI x6 4).bind fun v1 =>
  (wr M 1 600 ((M.1 0 4) + x6) ((t0 >>> ((24 - (8 * v1)) &&& 31)) &&& 255)).bind fun M2 =>
  rc23 x1 x2 x3 x4 x5 (x6 + 1) M2
noncomputable def blp_M_feed_0_23 (rc23 : Int32 → Int32 → Int32 → Int32 → Int32 → Int32 → Mm → Option (Int32 × Mm)) (x1 : Int32) (x2 : Int32) (x3 : Int32) (x4 : Int32) (x5 : Int32) (x6 : Int32) (M : Mm) : Option (Int32 × Mm) :=
  if 20 ≤ x6 then (
    j_M_feed_0_113 M
  ) else (
    if 4 ≤ x6 then (
      if 8 ≤ x6 then (
        if 12 ≤ x6 then (
          if 16 ≤ x6 then (
            j_M_feed_0_76 rc23 x1 x2 x3 x4 x5 x6 x5 M
          ) else (
            j_M_feed_0_76 rc23 x1 x2 x3 x4 x5 x6 x4 M
          )
        ) else (
          j_M_feed_0_76 rc23 x1 x2 x3 x4 x5 x6 x3 M
        )
      ) else (
        j_M_feed_0_76 rc23 x1 x2 x3 x4 x5 x6 x2 M
      )
    ) else (
      j_M_feed_0_76 rc23 x1 x2 x3 x4 x5 x6 x1 M
    )
  )
noncomputable def lp_M_feed_0_23  : Nat → Int32 → Int32 → Int32 → Int32 → Int32 → Int32 → Mm → Option (Int32 × Mm)
  | 0, _, _, _, _, _, _, _ => none
  | n + 1, x1, x2, x3, x4, x5, x6, M => blp_M_feed_0_23  (lp_M_feed_0_23  n) x1 x2 x3 x4 x5 x6 M
noncomputable def f_M_feed_0 (p0 : Int32) (p1 : Int32) (p2 : Int32) (p3 : Int32) (p4 : Int32) (M : Mm) : Option (Int32 × Mm) :=
  (some (u1 M 0 0 0)).bind fun M1 =>
  if ((M1.1 0 4) + 20) ≤ 600 then (
    lp_M_feed_0_23 FW p0 p1 p2 p3 p4 0 M1
  ) else (
    some ((-1), M1)
  )
noncomputable def f_M_fault_0  (M : Mm) : Option (Int32 × Mm) :=
  (some (u1 M 0 0 0)).bind fun M1 =>
  some ((M1.1 0 7), M1)
noncomputable def f_M_where_0  (M : Mm) : Option (Int32 × Mm) :=
  (some (u1 M 0 0 0)).bind fun M1 =>
  some ((M1.1 0 2), M1)
noncomputable def f_M_in (p0 : Int32) (p1 : Int32) (p2 : Int32) : Option Int32 :=
  if p0 < p1 then (
    some 0
  ) else (
    if p2 < p0 then (
      some 0
    ) else (
      some 1
    )
  )
noncomputable def f_M_isLetterAt_0 (p0 : Int32) (M : Mm) : Option Int32 :=
  if (M.1 0 5) ≤ p0 then (
    some 0
  ) else (
    (rd (M.1 1) 600 p0).bind fun v2 =>
    (f_M_in v2 97 122).bind fun v3 =>
    if v3 = 0 then (
      some 0
    ) else (
      some 1
    )
  )
noncomputable def f_M_isDigitAt_0 (p0 : Int32) (M : Mm) : Option Int32 :=
  if (M.1 0 5) ≤ p0 then (
    some 0
  ) else (
    (rd (M.1 1) 600 p0).bind fun v2 =>
    (f_M_in v2 48 57).bind fun v3 =>
    if v3 = 0 then (
      some 0
    ) else (
      some 1
    )
  )
noncomputable def j_M_goOn_0_321  (t0 : Int32) (M : Mm) : Option Mm :=
  (some (u1 M 0 9 t0)).bind fun M1 =>
  (some (u1 M1 0 6 ((M1.1 0 6) + 1))).bind fun M2 =>
  some M2
noncomputable def j_M_goOn_0_316   (M : Mm) : Option Mm :=
  j_M_goOn_0_321 4 M
noncomputable def j_M_goOn_0_259   (M : Mm) : Option Mm :=
  if ((M.1 0 6) - (M.1 0 10)) ≤ 4 then (
    (some (u1 M 0 9 3)).bind fun M2 =>
    some M2
  ) else (
    (some (u1 M 0 9 0)).bind fun M3 =>
    some M3
  )
noncomputable def j_M_goOn_0_246 (rc198 : Mm → Option Mm)  (M : Mm) : Option Mm :=
  (some (u1 M 0 6 ((M.1 0 6) + 1))).bind fun M1 =>
  rc198 M1
noncomputable def blp_M_goOn_0_198 (rc198 : Mm → Option Mm)  (M : Mm) : Option Mm :=
  (f_M_isDigitAt_0 (M.1 0 6) M).bind fun v1 =>
  if v1 = 0 then (
    j_M_goOn_0_259 M
  ) else (
    if 4 ≤ ((M.1 0 6) - (M.1 0 10)) then (
      j_M_goOn_0_246 rc198 M
    ) else (
      (rd (M.1 1) 600 (M.1 0 6)).bind fun v4 =>
      (some (u1 M 0 12 (((10 * (M.1 0 12)) + v4) - 48))).bind fun M5 =>
      j_M_goOn_0_246 rc198 M5
    )
  )
noncomputable def lp_M_goOn_0_198  : Nat → Mm → Option Mm
  | 0, _ => none
  | n + 1, M => blp_M_goOn_0_198  (lp_M_goOn_0_198  n) M
noncomputable def j_M_goOn_0_156   (M : Mm) : Option Mm :=
  if ((M.1 0 6) - (M.1 0 10)) ≤ 6 then (
    (some (u1 M 0 9 2)).bind fun M2 =>
    some M2
  ) else (
    (some (u1 M 0 9 0)).bind fun M3 =>
    some M3
  )
noncomputable def j_M_goOn_0_143 (rc89 : Mm → Option Mm)  (M : Mm) : Option Mm :=
  (some (u1 M 0 6 ((M.1 0 6) + 1))).bind fun M1 =>
  rc89 M1
noncomputable def blp_M_goOn_0_89 (rc89 : Mm → Option Mm)  (M : Mm) : Option Mm :=
  (f_M_isLetterAt_0 (M.1 0 6) M).bind fun v1 =>
  if v1 = 0 then (
    j_M_goOn_0_156 M
  ) else (
    if 6 ≤ ((M.1 0 6) - (M.1 0 10)) then (
      j_M_goOn_0_143 rc89 M
    ) else (
      (rd (M.1 1) 600 (M.1 0 6)).bind fun v4 =>
      (some (u2 M 0 13 (((((M.2 0 13) * 32) + (Int32.toInt64 v4)) - 97) + 1))).bind fun M5 =>
      j_M_goOn_0_143 rc89 M5
    )
  )
noncomputable def lp_M_goOn_0_89  : Nat → Mm → Option Mm
  | 0, _ => none
  | n + 1, M => blp_M_goOn_0_89  (lp_M_goOn_0_89  n) M
noncomputable def j_M_goOn_0_46   (M : Mm) : Option Mm :=
  (some (u1 M 0 10 (M.1 0 6))).bind fun M1 =>
  if (M1.1 0 6) = (M1.1 0 5) then (
    (some (u1 M1 0 9 1)).bind fun M13 =>
    some M13
  ) else (
    (f_M_isLetterAt_0 (M1.1 0 6) M1).bind fun v3 =>
    if v3 = 0 then (
      (f_M_isDigitAt_0 (M1.1 0 6) M1).bind fun v5 =>
      if v5 = 0 then (
        (rd (M1.1 1) 600 (M1.1 0 6)).bind fun v7 =>
        (some (u1 M1 0 11 v7)).bind fun M8 =>
        if (M8.1 0 11) = 59 then (
          j_M_goOn_0_316 M8
        ) else (
          if (M8.1 0 11) = 44 then (
            j_M_goOn_0_316 M8
          ) else (
            j_M_goOn_0_321 0 M8
          )
        )
      ) else (
        (some (u1 M1 0 12 0)).bind fun M11 =>
        lp_M_goOn_0_198 FW M11
      )
    ) else (
      (some (u2 M1 0 13 0)).bind fun M12 =>
      lp_M_goOn_0_89 FW M12
    )
  )
noncomputable def blp_M_goOn_0_8 (rc8 : Mm → Option Mm)  (M : Mm) : Option Mm :=
  if (M.1 0 5) ≤ (M.1 0 6) then (
    j_M_goOn_0_46 M
  ) else (
    (rd (M.1 1) 600 (M.1 0 6)).bind fun v2 =>
    if v2 = 32 then (
      (some (u1 M 0 6 ((M.1 0 6) + 1))).bind fun M4 =>
      rc8 M4
    ) else (
      j_M_goOn_0_46 M
    )
  )
noncomputable def lp_M_goOn_0_8  : Nat → Mm → Option Mm
  | 0, _ => none
  | n + 1, M => blp_M_goOn_0_8  (lp_M_goOn_0_8  n) M
noncomputable def f_M_goOn_0  (M : Mm) : Option Mm :=
  if (M.1 0 7) ≤ 0 then (
    lp_M_goOn_0_8 FW M
  ) else (
    some M
  )
noncomputable def blp_M_wordOf_4 (rc4 : Nat → Int64 → Int32 → Option Int64) (x0 : Nat) (x1 : Int64) (x3 : Int32) : Option Int64 :=
  (sln x0).bind fun v1 =>
  if v1 ≤ x3 then (
    some x1
  ) else (
    (sch x0 x3).bind fun v3 =>
    (some ((((x1 * 32) + (Int32.toInt64 v3)) - 97) + 1)).bind fun w4 =>
    rc4 x0 w4 (x3 + 1)
  )
noncomputable def lp_M_wordOf_4  : Nat → Nat → Int64 → Int32 → Option Int64
  | 0, _, _, _ => none
  | n + 1, x0, x1, x3 => blp_M_wordOf_4  (lp_M_wordOf_4  n) x0 x1 x3
noncomputable def f_M_wordOf (p0 : Nat) : Option Int64 :=
  lp_M_wordOf_4 FW p0 0 0
noncomputable def f_M_isWord_0 (p0 : Nat) (M : Mm) : Option Int32 :=
  if (M.1 0 7) = 0 then (
    if (M.1 0 9) = 2 then (
      (f_M_wordOf p0).bind fun w3 =>
      if (lg_cmp (M.2 0 13) w3) = 0 then (
        some 1
      ) else (
        some 0
      )
    ) else (
      some 0
    )
  ) else (
    some 0
  )
noncomputable def f_M_flaw_0 (p0 : Int32) (M : Mm) : Option Mm :=
  if (M.1 0 7) ≤ 0 then (
    (some (u1 M 0 7 p0)).bind fun M2 =>
    (some (u1 M2 0 8 (M2.1 0 10))).bind fun M3 =>
    some M3
  ) else (
    some M
  )
noncomputable def j_M_readRule_0_72  (x1 : Int32) (M : Mm) : Option Mm :=
  (f_M_goOn_0 M).bind fun M1 =>
  if (M1.1 0 7) = 0 then (
    (wr M1 11 37 36 x1).bind fun M3 =>
    some M3
  ) else (
    some M1
  )
noncomputable def j_M_readRule_0_61  (t0 : Int32) (M : Mm) : Option Mm :=
  if t0 = (-1) then (
    (f_M_flaw_0 1 M).bind fun M2 =>
    j_M_readRule_0_72 t0 M2
  ) else (
    j_M_readRule_0_72 t0 M
  )
noncomputable def j_M_readRule_0_12   (M : Mm) : Option Mm :=
  (some (u1 M 0 29 1)).bind fun M1 =>
  (f_M_goOn_0 M1).bind fun M2 =>
  (f_M_isWord_0 10 M2).bind fun v3 =>
  if v3 = 0 then (
    (f_M_isWord_0 11 M2).bind fun v5 =>
    if v5 = 0 then (
      (f_M_isWord_0 12 M2).bind fun v7 =>
      if v7 = 0 then (
        j_M_readRule_0_61 (-1) M2
      ) else (
        j_M_readRule_0_61 2 M2
      )
    ) else (
      j_M_readRule_0_61 1 M2
    )
  ) else (
    j_M_readRule_0_61 0 M2
  )
noncomputable def f_M_readRule_0  (M : Mm) : Option Mm :=
  if (M.1 0 29) = 0 then (
    j_M_readRule_0_12 M
  ) else (
    (f_M_flaw_0 3 M).bind fun M2 =>
    j_M_readRule_0_12 M2
  )
noncomputable def blp_M_benchOf_0_2 (rc2 : Int32 → Mm → Option Int32) (x1 : Int32) (M : Mm) : Option Int32 :=
  if (M.1 0 26) ≤ x1 then (
    some (-1)
  ) else (
    (rdL (M.2 3) 12 (6 + x1)).bind fun w2 =>
    if (lg_cmp w2 (M.2 0 13)) = 0 then (
      some x1
    ) else (
      rc2 (x1 + 1) M
    )
  )
noncomputable def lp_M_benchOf_0_2  : Nat → Int32 → Mm → Option Int32
  | 0, _, _ => none
  | n + 1, x1, M => blp_M_benchOf_0_2  (lp_M_benchOf_0_2  n) x1 M
noncomputable def f_M_benchOf_0  (M : Mm) : Option Int32 :=
  lp_M_benchOf_0_2 FW 0 M
noncomputable def blp_M_kindOf_0_2 (rc2 : Int32 → Mm → Option Int32) (x1 : Int32) (M : Mm) : Option Int32 :=
  if (M.1 0 25) ≤ x1 then (
    some (-1)
  ) else (
    (rdL (M.2 2) 6 (3 + x1)).bind fun w2 =>
    if (lg_cmp w2 (M.2 0 13)) = 0 then (
      some x1
    ) else (
      rc2 (x1 + 1) M
    )
  )
noncomputable def lp_M_kindOf_0_2  : Nat → Int32 → Mm → Option Int32
  | 0, _, _ => none
  | n + 1, x1, M => blp_M_kindOf_0_2  (lp_M_kindOf_0_2  n) x1 M
noncomputable def f_M_kindOf_0  (M : Mm) : Option Int32 :=
  lp_M_kindOf_0_2 FW 0 M
noncomputable def j_M_isOwn_0_59  (t0 : Int32) (M : Mm) : Option Int32 :=
  if t0 = 0 then (
    (f_M_isWord_0 7 M).bind fun v2 =>
    if v2 = 0 then (
      (f_M_isWord_0 8 M).bind fun v4 =>
      if v4 = 0 then (
        (f_M_isWord_0 9 M).bind fun v6 =>
        if v6 = 0 then (
          (f_M_isWord_0 10 M).bind fun v8 =>
          if v8 = 0 then (
            (f_M_isWord_0 11 M).bind fun v10 =>
            if v10 = 0 then (
              (f_M_isWord_0 12 M).bind fun v12 =>
              if v12 = 0 then (
                some 0
              ) else (
                some 1
              )
            ) else (
              some 1
            )
          ) else (
            some 1
          )
        ) else (
          some 1
        )
      ) else (
        some 1
      )
    ) else (
      some 1
    )
  ) else (
    some 1
  )
noncomputable def j_M_isOwn_0_54   (M : Mm) : Option Int32 :=
  j_M_isOwn_0_59 1 M
noncomputable def f_M_isOwn_0  (M : Mm) : Option Int32 :=
  (f_M_isWord_0 1 M).bind fun v1 =>
  if v1 = 0 then (
    (f_M_isWord_0 2 M).bind fun v3 =>
    if v3 = 0 then (
      (f_M_isWord_0 3 M).bind fun v5 =>
      if v5 = 0 then (
        (f_M_isWord_0 4 M).bind fun v7 =>
        if v7 = 0 then (
          (f_M_isWord_0 5 M).bind fun v9 =>
          if v9 = 0 then (
            (f_M_isWord_0 6 M).bind fun v11 =>
            if v11 = 0 then (
              j_M_isOwn_0_59 0 M
            ) else (
              j_M_isOwn_0_54 M
            )
          ) else (
            j_M_isOwn_0_54 M
          )
        ) else (
          j_M_isOwn_0_54 M
        )
      ) else (
        j_M_isOwn_0_54 M
      )
    ) else (
      j_M_isOwn_0_54 M
    )
  ) else (
    j_M_isOwn_0_54 M
  )
noncomputable def j_M_readTold_0_42  (t0 : Int32) (M : Mm) : Option (Int32 × Mm) :=
  if t0 = (-1) then (
    (f_M_flaw_0 3 M).bind fun M3 =>
    (f_M_goOn_0 M3).bind fun M4 =>
    some (t0, M4)
  ) else (
    (f_M_goOn_0 M).bind fun M2 =>
    some (t0, M2)
  )
noncomputable def j_M_readTold_0_27  (x1 : Int32) (M : Mm) : Option (Int32 × Mm) :=
  if x1 = 0 then (
    (f_M_benchOf_0 M).bind fun v2 =>
    j_M_readTold_0_42 v2 M
  ) else (
    (f_M_kindOf_0 M).bind fun v3 =>
    j_M_readTold_0_42 v3 M
  )
noncomputable def j_M_readTold_0_22  (x1 : Int32) (M : Mm) : Option (Int32 × Mm) :=
  (f_M_flaw_0 1 M).bind fun M1 =>
  j_M_readTold_0_27 x1 M1
noncomputable def f_M_readTold_0 (p0 : Int32) (M : Mm) : Option (Int32 × Mm) :=
  if (M.1 0 7) = 0 then (
    if (M.1 0 9) = 2 then (
      (f_M_isOwn_0 M).bind fun v3 =>
      if v3 = 0 then (
        j_M_readTold_0_27 p0 M
      ) else (
        j_M_readTold_0_22 p0 M
      )
    ) else (
      j_M_readTold_0_22 p0 M
    )
  ) else (
    j_M_readTold_0_27 p0 M
  )
noncomputable def f_M_needs_0 (p0 : Nat) (M : Mm) : Option Mm :=
  (f_M_isWord_0 p0 M).bind fun v1 =>
  if v1 = 0 then (
    (f_M_flaw_0 1 M).bind fun M4 =>
    (f_M_goOn_0 M4).bind fun M5 =>
    some M5
  ) else (
    (f_M_goOn_0 M).bind fun M3 =>
    some M3
  )
noncomputable def f_M_readWhole_0 (p0 : Int32) (p1 : Int32) (M : Mm) : Option (Int32 × Mm) :=
  if (M.1 0 9) = 3 then (
    (f_M_in (M.1 0 12) p0 p1).bind fun v2 =>
    if v2 = 0 then (
      (f_M_flaw_0 2 M).bind fun M5 =>
      (f_M_goOn_0 M5).bind fun M6 =>
      some ((M5.1 0 12), M6)
    ) else (
      (f_M_goOn_0 M).bind fun M4 =>
      some ((M.1 0 12), M4)
    )
  ) else (
    (f_M_flaw_0 1 M).bind fun M7 =>
    (f_M_goOn_0 M7).bind fun M8 =>
    some ((M7.1 0 12), M8)
  )
noncomputable def j_M_readOrder_0_13   (M : Mm) : Option Mm :=
  (f_M_goOn_0 M).bind fun M1 =>
  (f_M_readTold_0 1 M1).bind fun q2 =>
  (f_M_needs_0 5 q2.2).bind fun M3 =>
  (f_M_readWhole_0 1 99 M3).bind fun q4 =>
  (f_M_needs_0 8 q4.2).bind fun M5 =>
  (f_M_readWhole_0 0 999 M5).bind fun q6 =>
  if (q6.2.1 0 7) ≤ 0 then (
    (wr q6.2 7 8 (4 + (q6.2.1 0 27)) q2.1).bind fun M8 =>
    (wr M8 8 8 (4 + (M8.1 0 27)) q4.1).bind fun M9 =>
    (wr M9 9 8 (4 + (M9.1 0 27)) q6.1).bind fun M10 =>
    (some (u1 M10 0 27 ((M10.1 0 27) + 1))).bind fun M11 =>
    some M11
  ) else (
    some q6.2
  )
noncomputable def f_M_readOrder_0  (M : Mm) : Option Mm :=
  if (M.1 0 27) = 4 then (
    (f_M_flaw_0 4 M).bind fun M2 =>
    j_M_readOrder_0_13 M2
  ) else (
    j_M_readOrder_0_13 M
  )
noncomputable def f_M_readCards_0  (M : Mm) : Option Mm :=
  (f_M_goOn_0 M).bind fun M1 =>
  (f_M_readTold_0 0 M1).bind fun q2 =>
  (f_M_readTold_0 1 q2.2).bind fun q3 =>
  (f_M_readWhole_0 0 9 q3.2).bind fun q4 =>
  if (q4.2.1 0 7) = 0 then (
    (wr q4.2 11 37 ((3 * q2.1) + q3.1) q4.1).bind fun M6 =>
    some M6
  ) else (
    some q4.2
  )
noncomputable def j_M_readNew_0_50   (M : Mm) : Option (Int64 × Mm) :=
  (f_M_flaw_0 3 M).bind fun M1 =>
  (f_M_goOn_0 M1).bind fun M2 =>
  some ((M1.2 0 13), M2)
noncomputable def j_M_readNew_0_27   (M : Mm) : Option (Int64 × Mm) :=
  if (M.1 0 7) = 0 then (
    (f_M_kindOf_0 M).bind fun v3 =>
    if v3 = (-1) then (
      (f_M_benchOf_0 M).bind fun v5 =>
      if v5 = (-1) then (
        (f_M_goOn_0 M).bind fun M7 =>
        some ((M.2 0 13), M7)
      ) else (
        j_M_readNew_0_50 M
      )
    ) else (
      j_M_readNew_0_50 M
    )
  ) else (
    (f_M_goOn_0 M).bind fun M2 =>
    some ((M.2 0 13), M2)
  )
noncomputable def j_M_readNew_0_22   (M : Mm) : Option (Int64 × Mm) :=
  (f_M_flaw_0 1 M).bind fun M1 =>
  j_M_readNew_0_27 M1
noncomputable def f_M_readNew_0  (M : Mm) : Option (Int64 × Mm) :=
  if (M.1 0 7) = 0 then (
    if (M.1 0 9) = 2 then (
      (f_M_isOwn_0 M).bind fun v3 =>
      if v3 = 0 then (
        j_M_readNew_0_27 M
      ) else (
        j_M_readNew_0_22 M
      )
    ) else (
      j_M_readNew_0_22 M
    )
  ) else (
    j_M_readNew_0_27 M
  )
noncomputable def f_M_passes_0 (p0 : Nat) (M : Mm) : Option (Int32 × Mm) :=
  (f_M_isWord_0 p0 M).bind fun v1 =>
  if v1 = 0 then (
    some (0, M)
  ) else (
    (f_M_goOn_0 M).bind fun M3 =>
    some (1, M3)
  )
noncomputable def f_M_isSign_0 (p0 : Int32) (M : Mm) : Option Int32 :=
  if (M.1 0 7) = 0 then (
    if (M.1 0 9) = 4 then (
      if (M.1 0 11) = p0 then (
        some 1
      ) else (
        some 0
      )
    ) else (
      some 0
    )
  ) else (
    some 0
  )
noncomputable def j_M_readBench_0_182  (x1 : Int64) (x3 : Int32) (x4 : Int32) (x5 : Int32) (x6 : Int32) (M : Mm) : Option Mm :=
  if (M.1 0 7) ≤ 0 then (
    (wrL M 3 12 (6 + x3) x1).bind fun M2 =>
    (wr M2 4 12 (6 + x3) x4).bind fun M3 =>
    (wr M3 5 12 (6 + x3) x5).bind fun M4 =>
    (wr M4 6 12 (6 + x3) x6).bind fun M5 =>
    (some (u1 M5 0 26 ((M5.1 0 26) + 1))).bind fun M6 =>
    some M6
  ) else (
    some M
  )
noncomputable def j_M_readBench_0_141  (x1 : Int64) (x3 : Int32) (t0 : Int32) (M : Mm) : Option Mm :=
  (f_M_passes_0 4 M).bind fun q1 =>
  if q1.1 = 0 then (
    j_M_readBench_0_182 x1 x3 t0 0 0 q1.2
  ) else (
    (f_M_readWhole_0 1 60 q1.2).bind fun q3 =>
    (f_M_needs_0 5 q3.2).bind fun M4 =>
    (f_M_readWhole_0 1 99 M4).bind fun q5 =>
    j_M_readBench_0_182 x1 x3 t0 q3.1 q5.1 q5.2
  )
noncomputable def j_M_readBench_0_121  (x1 : Int64) (x3 : Int32) (M : Mm) : Option Mm :=
  (f_M_passes_0 3 M).bind fun q1 =>
  if q1.1 = 0 then (
    j_M_readBench_0_141 x1 x3 0 q1.2
  ) else (
    (f_M_readWhole_0 0 60 q1.2).bind fun q3 =>
    j_M_readBench_0_141 x1 x3 q3.1 q3.2
  )
noncomputable def j_M_readBench_0_82 (rc43 : Int64 → Int32 → Int32 → Mm → Option Mm) (x1 : Int64) (x3 : Int32) (x4 : Int32) (M : Mm) : Option Mm :=
  (f_M_readWhole_0 1 60 M).bind fun q1 =>
  (wr q1.2 11 37 ((18 + (3 * x3)) + x4) q1.1).bind fun M2 =>
  (wr M2 11 37 ((3 * x3) + x4) 1).bind fun M3 =>
  rc43 x1 x3 (x4 + 1) M3
noncomputable def j_M_readBench_0_78 (rc43 : Int64 → Int32 → Int32 → Mm → Option Mm) (x1 : Int64) (x3 : Int32) (x4 : Int32) (M : Mm) : Option Mm :=
  (f_M_goOn_0 M).bind fun M1 =>
  j_M_readBench_0_82 rc43 x1 x3 x4 M1
noncomputable def blp_M_readBench_0_43 (rc43 : Int64 → Int32 → Int32 → Mm → Option Mm) (x1 : Int64) (x3 : Int32) (x4 : Int32) (M : Mm) : Option Mm :=
  if (M.1 0 25) ≤ x4 then (
    j_M_readBench_0_121 x1 x3 M
  ) else (
    if (M.1 0 7) = 0 then (
      if x4 ≤ 0 then (
        j_M_readBench_0_82 rc43 x1 x3 x4 M
      ) else (
        (f_M_isSign_0 44 M).bind fun v4 =>
        if v4 = 0 then (
          (f_M_flaw_0 1 M).bind fun M6 =>
          j_M_readBench_0_78 rc43 x1 x3 x4 M6
        ) else (
          j_M_readBench_0_78 rc43 x1 x3 x4 M
        )
      )
    ) else (
      j_M_readBench_0_121 x1 x3 M
    )
  )
noncomputable def lp_M_readBench_0_43  : Nat → Int64 → Int32 → Int32 → Mm → Option Mm
  | 0, _, _, _, _ => none
  | n + 1, x1, x3, x4, M => blp_M_readBench_0_43  (lp_M_readBench_0_43  n) x1 x3 x4 M
noncomputable def j_M_readBench_0_40  (x1 : Int64) (x3 : Int32) (M : Mm) : Option Mm :=
  lp_M_readBench_0_43 FW x1 x3 0 M
noncomputable def j_M_readBench_0_14   (M : Mm) : Option Mm :=
  (f_M_goOn_0 M).bind fun M1 =>
  (f_M_readNew_0 M1).bind fun q2 =>
  if (q2.2.1 0 25) = 0 then (
    (f_M_flaw_0 1 q2.2).bind fun M4 =>
    j_M_readBench_0_40 q2.1 (q2.2.1 0 26) M4
  ) else (
    j_M_readBench_0_40 q2.1 (q2.2.1 0 26) q2.2
  )
noncomputable def f_M_readBench_0  (M : Mm) : Option Mm :=
  if (M.1 0 26) = 6 then (
    (f_M_flaw_0 4 M).bind fun M2 =>
    j_M_readBench_0_14 M2
  ) else (
    j_M_readBench_0_14 M
  )
noncomputable def j_M_readWare_0_20   (M : Mm) : Option Mm :=
  (f_M_goOn_0 M).bind fun M1 =>
  (f_M_readNew_0 M1).bind fun q2 =>
  if (q2.2.1 0 7) ≤ 0 then (
    (wrL q2.2 2 6 (3 + (q2.2.1 0 25)) q2.1).bind fun M4 =>
    (some (u1 M4 0 25 ((M4.1 0 25) + 1))).bind fun M5 =>
    some M5
  ) else (
    some q2.2
  )
noncomputable def j_M_readWare_0_15   (M : Mm) : Option Mm :=
  (f_M_flaw_0 4 M).bind fun M1 =>
  j_M_readWare_0_20 M1
noncomputable def f_M_readWare_0  (M : Mm) : Option Mm :=
  if 0 < (M.1 0 26) then (
    j_M_readWare_0_15 M
  ) else (
    if (M.1 0 25) = 3 then (
      j_M_readWare_0_15 M
    ) else (
      j_M_readWare_0_20 M
    )
  )
noncomputable def f_M_readLine_0  (M : Mm) : Option Mm :=
  (f_M_isWord_0 1 M).bind fun v1 =>
  if v1 = 0 then (
    (f_M_isWord_0 2 M).bind fun v3 =>
    if v3 = 0 then (
      (f_M_isWord_0 6 M).bind fun v5 =>
      if v5 = 0 then (
        (f_M_isWord_0 7 M).bind fun v7 =>
        if v7 = 0 then (
          (f_M_isWord_0 9 M).bind fun v9 =>
          if v9 = 0 then (
            (f_M_flaw_0 1 M).bind fun M11 =>
            some M11
          ) else (
            (f_M_readRule_0 M).bind fun M12 =>
            some M12
          )
        ) else (
          (f_M_readOrder_0 M).bind fun M13 =>
          some M13
        )
      ) else (
        (f_M_readCards_0 M).bind fun M14 =>
        some M14
      )
    ) else (
      (f_M_readBench_0 M).bind fun M15 =>
      some M15
    )
  ) else (
    (f_M_readWare_0 M).bind fun M16 =>
    some M16
  )
noncomputable def f_M_of (p0 : Int32) (p1 : Int32) : Option Int32 :=
  some ((3 + (9 * p0)) + p1)
noncomputable def blp_M_begins_0_15_45 (rc45 : Int32 → Mm → Option Mm) (x2 : Int32) (M : Mm) : Option Mm :=
  if 6 ≤ x2 then (
    some M
  ) else (
    (f_M_of x2 1).bind fun v2 =>
    (wr M 15 99 v2 (-2)).bind fun M3 =>
    (f_M_of x2 3).bind fun v4 =>
    (wr M3 15 99 v4 (-2)).bind fun M5 =>
    rc45 (x2 + 1) M5
  )
noncomputable def lp_M_begins_0_15_45  : Nat → Int32 → Mm → Option Mm
  | 0, _, _ => none
  | n + 1, x2, M => blp_M_begins_0_15_45  (lp_M_begins_0_15_45  n) x2 M
noncomputable def j_M_begins_0_15_43   (M : Mm) : Option Mm :=
  lp_M_begins_0_15_45 FW 0 M
noncomputable def blp_M_begins_0_15_24 (rc24 : Int32 → Mm → Option Mm) (x2 : Int32) (M : Mm) : Option Mm :=
  if 3 ≤ x2 then (
    j_M_begins_0_15_43 M
  ) else (
    (wr M 15 99 (96 + x2) (-2)).bind fun M2 =>
    rc24 (x2 + 1) M2
  )
noncomputable def lp_M_begins_0_15_24  : Nat → Int32 → Mm → Option Mm
  | 0, _, _ => none
  | n + 1, x2, M => blp_M_begins_0_15_24  (lp_M_begins_0_15_24  n) x2 M
noncomputable def j_M_begins_0_15_18   (M : Mm) : Option Mm :=
  (wr M 15 99 1 (-1)).bind fun M1 =>
  lp_M_begins_0_15_24 FW 0 M1
noncomputable def blp_M_begins_0_15_2 (rc2 : Int32 → Mm → Option Mm) (x2 : Int32) (M : Mm) : Option Mm :=
  if 99 ≤ x2 then (
    j_M_begins_0_15_18 M
  ) else (
    (wr M 15 99 x2 0).bind fun M2 =>
    rc2 (x2 + 1) M2
  )
noncomputable def lp_M_begins_0_15_2  : Nat → Int32 → Mm → Option Mm
  | 0, _, _ => none
  | n + 1, x2, M => blp_M_begins_0_15_2  (lp_M_begins_0_15_2  n) x2 M
noncomputable def f_M_begins_0_15  (M : Mm) : Option Mm :=
  lp_M_begins_0_15_2 FW 0 M
noncomputable def j_M_becomes_0_206   (M : Mm) : Option Mm :=
  (some (u1 M 0 35 0)).bind fun M1 =>
  (wrZ M1 18 2 0 0).bind fun M2 =>
  (wrZ M2 18 2 1 0).bind fun M3 =>
  (some (u1 M3 0 28 1)).bind fun M4 =>
  (f_M_begins_0_15 M4).bind fun M5 =>
  some M5
noncomputable def blp_M_becomes_0_182 (rc182 : Int32 → Mm → Option Mm) (x1 : Int32) (M : Mm) : Option Mm :=
  if 37 ≤ x1 then (
    j_M_becomes_0_206 M
  ) else (
    (rd (M.1 11) 37 x1).bind fun v2 =>
    (wr M 10 37 x1 v2).bind fun M3 =>
    rc182 (x1 + 1) M3
  )
noncomputable def lp_M_becomes_0_182  : Nat → Int32 → Mm → Option Mm
  | 0, _, _ => none
  | n + 1, x1, M => blp_M_becomes_0_182  (lp_M_becomes_0_182  n) x1 M
noncomputable def j_M_becomes_0_180   (M : Mm) : Option Mm :=
  lp_M_becomes_0_182 FW 0 M
noncomputable def blp_M_becomes_0_127 (rc127 : Int32 → Mm → Option Mm) (x1 : Int32) (M : Mm) : Option Mm :=
  if 4 ≤ x1 then (
    j_M_becomes_0_180 M
  ) else (
    (rd (M.1 7) 8 (4 + x1)).bind fun v2 =>
    (wr M 7 8 x1 v2).bind fun M3 =>
    (rd (M3.1 8) 8 (4 + x1)).bind fun v4 =>
    (wr M3 8 8 x1 v4).bind fun M5 =>
    (rd (M5.1 9) 8 (4 + x1)).bind fun v6 =>
    (wr M5 9 8 x1 v6).bind fun M7 =>
    rc127 (x1 + 1) M7
  )
noncomputable def lp_M_becomes_0_127  : Nat → Int32 → Mm → Option Mm
  | 0, _, _ => none
  | n + 1, x1, M => blp_M_becomes_0_127  (lp_M_becomes_0_127  n) x1 M
noncomputable def j_M_becomes_0_125   (M : Mm) : Option Mm :=
  lp_M_becomes_0_127 FW 0 M
noncomputable def blp_M_becomes_0_53 (rc53 : Int32 → Mm → Option Mm) (x1 : Int32) (M : Mm) : Option Mm :=
  if 6 ≤ x1 then (
    j_M_becomes_0_125 M
  ) else (
    (rdL (M.2 3) 12 (6 + x1)).bind fun w2 =>
    (wrL M 3 12 x1 w2).bind fun M3 =>
    (rd (M3.1 4) 12 (6 + x1)).bind fun v4 =>
    (wr M3 4 12 x1 v4).bind fun M5 =>
    (rd (M5.1 5) 12 (6 + x1)).bind fun v6 =>
    (wr M5 5 12 x1 v6).bind fun M7 =>
    (rd (M7.1 6) 12 (6 + x1)).bind fun v8 =>
    (wr M7 6 12 x1 v8).bind fun M9 =>
    rc53 (x1 + 1) M9
  )
noncomputable def lp_M_becomes_0_53  : Nat → Int32 → Mm → Option Mm
  | 0, _, _ => none
  | n + 1, x1, M => blp_M_becomes_0_53  (lp_M_becomes_0_53  n) x1 M
noncomputable def j_M_becomes_0_51   (M : Mm) : Option Mm :=
  lp_M_becomes_0_53 FW 0 M
noncomputable def blp_M_becomes_0_26 (rc26 : Int32 → Mm → Option Mm) (x1 : Int32) (M : Mm) : Option Mm :=
  if 3 ≤ x1 then (
    j_M_becomes_0_51 M
  ) else (
    (rdL (M.2 2) 6 (3 + x1)).bind fun w2 =>
    (wrL M 2 6 x1 w2).bind fun M3 =>
    rc26 (x1 + 1) M3
  )
noncomputable def lp_M_becomes_0_26  : Nat → Int32 → Mm → Option Mm
  | 0, _, _ => none
  | n + 1, x1, M => blp_M_becomes_0_26  (lp_M_becomes_0_26  n) x1 M
noncomputable def f_M_becomes_0  (M : Mm) : Option Mm :=
  (some (u1 M 0 22 (M.1 0 25))).bind fun M1 =>
  (some (u1 M1 0 23 (M1.1 0 26))).bind fun M2 =>
  (some (u1 M2 0 24 (M2.1 0 27))).bind fun M3 =>
  lp_M_becomes_0_26 FW 0 M3
noncomputable def f_M_good_0 (p0 : Int32) (M : Mm) : Option (Int32 × Mm) :=
  (some (u1 M 0 1 0)).bind fun M1 =>
  (some (u1 M1 0 2 (-1))).bind fun M2 =>
  some (p0, M2)
noncomputable def f_M_refused_0 (p0 : Int32) (M : Mm) : Option (Int32 × Mm) :=
  (some (u1 M 0 1 p0)).bind fun M1 =>
  (some (u1 M1 0 2 (-1))).bind fun M2 =>
  some ((-1), M2)
noncomputable def j_M_text_0_158   (M : Mm) : Option (Int32 × Mm) :=
  if (M.1 0 7) ≤ 0 then (
    (f_M_becomes_0 M).bind fun M2 =>
    (f_M_good_0 (M2.1 0 23) M2).bind fun q3 =>
    some (q3.1, q3.2)
  ) else (
    (some (u1 M 0 1 4)).bind fun M4 =>
    (some (u1 M4 0 2 (M4.1 0 8))).bind fun M5 =>
    some ((-1), M5)
  )
noncomputable def j_M_text_0_153   (M : Mm) : Option (Int32 × Mm) :=
  (f_M_flaw_0 5 M).bind fun M1 =>
  j_M_text_0_158 M1
noncomputable def j_M_text_0_132   (M : Mm) : Option (Int32 × Mm) :=
  if (M.1 0 7) = 0 then (
    if (M.1 0 25) = 0 then (
      j_M_text_0_153 M
    ) else (
      if (M.1 0 26) = 0 then (
        j_M_text_0_153 M
      ) else (
        j_M_text_0_158 M
      )
    )
  ) else (
    j_M_text_0_158 M
  )
noncomputable def j_M_text_0_112   (M : Mm) : Option (Int32 × Mm) :=
  if (M.1 0 7) = 0 then (
    if (M.1 0 9) = 1 then (
      j_M_text_0_132 M
    ) else (
      (f_M_flaw_0 1 M).bind fun M3 =>
      j_M_text_0_132 M3
    )
  ) else (
    j_M_text_0_132 M
  )
noncomputable def blp_M_text_0_92 (rc92 : Mm → Option (Int32 × Mm))  (M : Mm) : Option (Int32 × Mm) :=
  (f_M_isSign_0 59 M).bind fun v1 =>
  if v1 = 0 then (
    j_M_text_0_112 M
  ) else (
    (f_M_goOn_0 M).bind fun M3 =>
    (f_M_readLine_0 M3).bind fun M4 =>
    rc92 M4
  )
noncomputable def lp_M_text_0_92  : Nat → Mm → Option (Int32 × Mm)
  | 0, _ => none
  | n + 1, M => blp_M_text_0_92  (lp_M_text_0_92  n) M
noncomputable def j_M_text_0_84   (M : Mm) : Option (Int32 × Mm) :=
  (f_M_goOn_0 M).bind fun M1 =>
  (f_M_readLine_0 M1).bind fun M2 =>
  lp_M_text_0_92 FW M2
noncomputable def blp_M_text_0_65 (rc65 : Int32 → Mm → Option (Int32 × Mm)) (x2 : Int32) (M : Mm) : Option (Int32 × Mm) :=
  if 37 ≤ x2 then (
    j_M_text_0_84 M
  ) else (
    (wr M 11 37 x2 0).bind fun M2 =>
    rc65 (x2 + 1) M2
  )
noncomputable def lp_M_text_0_65  : Nat → Int32 → Mm → Option (Int32 × Mm)
  | 0, _, _ => none
  | n + 1, x2, M => blp_M_text_0_65  (lp_M_text_0_65  n) x2 M
noncomputable def f_M_text_0 (p0 : Int32) (M : Mm) : Option (Int32 × Mm) :=
  (some (u1 M 0 0 0)).bind fun M1 =>
  (f_M_in p0 0 (M1.1 0 4)).bind fun v2 =>
  if v2 = 0 then (
    (f_M_refused_0 2 M1).bind fun q12 =>
    some (q12.1, q12.2)
  ) else (
    (some (u1 M1 0 5 p0)).bind fun M4 =>
    (some (u1 M4 0 4 0)).bind fun M5 =>
    (some (u1 M5 0 6 0)).bind fun M6 =>
    (some (u1 M6 0 7 0)).bind fun M7 =>
    (some (u1 M7 0 25 0)).bind fun M8 =>
    (some (u1 M8 0 26 0)).bind fun M9 =>
    (some (u1 M9 0 27 0)).bind fun M10 =>
    (some (u1 M10 0 29 0)).bind fun M11 =>
    lp_M_text_0_65 FW 0 M11
  )
noncomputable def j_M_toldCards_0_41 (rc4 : Int32 → Int32 → Mm → Option Int32) (x1 : Int32) (x2 : Int32) (M : Mm) : Option Int32 :=
  rc4 x1 (x2 + 1) M
noncomputable def blp_M_toldCards_0_14 (rc4 : Int32 → Int32 → Mm → Option Int32) (rc14 : Int32 → Int32 → Int32 → Mm → Option Int32) (x1 : Int32) (x2 : Int32) (x3 : Int32) (M : Mm) : Option Int32 :=
  if (M.1 0 22) ≤ x3 then (
    j_M_toldCards_0_41 rc4 x1 x2 M
  ) else (
    (rd (M.1 10) 37 ((3 * x2) + x3)).bind fun v2 =>
    rc14 (x1 + v2) x2 (x3 + 1) M
  )
noncomputable def lp_M_toldCards_0_14 (rc4 : Int32 → Int32 → Mm → Option Int32) : Nat → Int32 → Int32 → Int32 → Mm → Option Int32
  | 0, _, _, _, _ => none
  | n + 1, x1, x2, x3, M => blp_M_toldCards_0_14 rc4 (lp_M_toldCards_0_14 rc4 n) x1 x2 x3 M
noncomputable def blp_M_toldCards_0_4 (rc4 : Int32 → Int32 → Mm → Option Int32) (x1 : Int32) (x2 : Int32) (M : Mm) : Option Int32 :=
  if (M.1 0 23) ≤ x2 then (
    some x1
  ) else (
    lp_M_toldCards_0_14 rc4 FW x1 x2 0 M
  )
noncomputable def lp_M_toldCards_0_4  : Nat → Int32 → Int32 → Mm → Option Int32
  | 0, _, _, _ => none
  | n + 1, x1, x2, M => blp_M_toldCards_0_4  (lp_M_toldCards_0_4  n) x1 x2 M
noncomputable def f_M_toldCards_0  (M : Mm) : Option Int32 :=
  lp_M_toldCards_0_4 FW 0 0 M
noncomputable def f_M_store (p0 : Int32) (p1 : Int32) : Option Int32 :=
  some ((57 + (3 * p0)) + p1)
noncomputable def f_M_atWork_0_15 (p0 : Int32) (p1 : Int32) (M : Mm) : Option Int32 :=
  (f_M_of p0 0).bind fun v1 =>
  (rd (M.1 15) 99 v1).bind fun v2 =>
  if v2 = 1 then (
    (f_M_of p0 1).bind fun v4 =>
    (rd (M.1 15) 99 v4).bind fun v5 =>
    if v5 = p1 then (
      some 1
    ) else (
      some 0
    )
  ) else (
    some 0
  )
noncomputable def j_M_heldCards_0_52 (rc4 : Int32 → Int32 → Mm → Option Int32) (x1 : Int32) (x2 : Int32) (M : Mm) : Option Int32 :=
  rc4 x1 (x2 + 1) M
noncomputable def blp_M_heldCards_0_14 (rc4 : Int32 → Int32 → Mm → Option Int32) (rc14 : Int32 → Int32 → Int32 → Mm → Option Int32) (x1 : Int32) (x2 : Int32) (x3 : Int32) (M : Mm) : Option Int32 :=
  if (M.1 0 22) ≤ x3 then (
    j_M_heldCards_0_52 rc4 x1 x2 M
  ) else (
    (f_M_store x2 x3).bind fun v2 =>
    (rd (M.1 15) 99 v2).bind fun v3 =>
    (f_M_atWork_0_15 x2 x3 M).bind fun v4 =>
    rc14 (x1 + (v3 + v4)) x2 (x3 + 1) M
  )
noncomputable def lp_M_heldCards_0_14 (rc4 : Int32 → Int32 → Mm → Option Int32) : Nat → Int32 → Int32 → Int32 → Mm → Option Int32
  | 0, _, _, _, _ => none
  | n + 1, x1, x2, x3, M => blp_M_heldCards_0_14 rc4 (lp_M_heldCards_0_14 rc4 n) x1 x2 x3 M
noncomputable def blp_M_heldCards_0_4 (rc4 : Int32 → Int32 → Mm → Option Int32) (x1 : Int32) (x2 : Int32) (M : Mm) : Option Int32 :=
  if (M.1 0 23) ≤ x2 then (
    some x1
  ) else (
    lp_M_heldCards_0_14 rc4 FW x1 x2 0 M
  )
noncomputable def lp_M_heldCards_0_4  : Nat → Int32 → Int32 → Mm → Option Int32
  | 0, _, _, _ => none
  | n + 1, x1, x2, M => blp_M_heldCards_0_4  (lp_M_heldCards_0_4  n) x1 x2 M
noncomputable def f_M_heldCards_0  (M : Mm) : Option Int32 :=
  lp_M_heldCards_0_4 FW 0 0 M
noncomputable def f_M_about_0 (p0 : Int32) (M : Mm) : Option (Int32 × Mm) :=
  (some (u1 M 0 0 0)).bind fun M1 =>
  if (M1.1 0 28) = 0 then (
    (f_M_refused_0 1 M1).bind fun q24 =>
    some (q24.1, q24.2)
  ) else (
    if p0 = 0 then (
      (f_M_good_0 (M1.1 0 22) M1).bind fun q4 =>
      some (q4.1, q4.2)
    ) else (
      if p0 = 1 then (
        (f_M_good_0 (M1.1 0 23) M1).bind fun q6 =>
        some (q6.1, q6.2)
      ) else (
        if p0 = 2 then (
          (f_M_good_0 (M1.1 0 24) M1).bind fun q8 =>
          some (q8.1, q8.2)
        ) else (
          if p0 = 3 then (
            (rd (M1.1 10) 37 36).bind fun v10 =>
            (f_M_good_0 v10 M1).bind fun q11 =>
            some (q11.1, q11.2)
          ) else (
            if p0 = 4 then (
              (rd (M1.1 15) 99 0).bind fun v13 =>
              (f_M_good_0 v13 M1).bind fun q14 =>
              some (q14.1, q14.2)
            ) else (
              if p0 = 5 then (
                (f_M_toldCards_0 M1).bind fun v16 =>
                (f_M_good_0 v16 M1).bind fun q17 =>
                some (q17.1, q17.2)
              ) else (
                if p0 = 6 then (
                  (f_M_heldCards_0 M1).bind fun v19 =>
                  (f_M_good_0 v19 M1).bind fun q20 =>
                  some (q20.1, q20.2)
                ) else (
                  if p0 = 7 then (
                    (f_M_good_0 (M1.1 0 35) M1).bind fun q22 =>
                    some (q22.1, q22.2)
                  ) else (
                    (f_M_refused_0 1 M1).bind fun q23 =>
                    some (q23.1, q23.2)
    ))))))))
  )
noncomputable def f_M_isBench_0 (p0 : Int32) (M : Mm) : Option Int32 :=
  if (M.1 0 28) = 0 then (
    some 0
  ) else (
    (f_M_in p0 0 ((M.1 0 23) - 1)).bind fun v2 =>
    if v2 = 0 then (
      some 0
    ) else (
      some 1
    )
  )
noncomputable def j_M_bench_0_65  (x1 : Int32) (x2 : Int32) (x3 : Int32) (M : Mm) : Option (Int32 × Mm) :=
  if x2 = 0 then (
    (rd (M.1 4) 12 x1).bind fun v9 =>
    (f_M_good_0 v9 M).bind fun q10 =>
    some (q10.1, q10.2)
  ) else (
    if x2 = 1 then (
      (rd (M.1 5) 12 x1).bind fun v7 =>
      (f_M_good_0 v7 M).bind fun q8 =>
      some (q8.1, q8.2)
    ) else (
      if x2 = 2 then (
        (rd (M.1 6) 12 x1).bind fun v5 =>
        (f_M_good_0 v5 M).bind fun q6 =>
        some (q6.1, q6.2)
      ) else (
        (f_M_good_0 x3 M).bind fun q4 =>
        some (q4.1, q4.2)
      )
    )
  )
noncomputable def blp_M_bench_0_33 (rc33 : Int32 → Int32 → Int32 → Int32 → Mm → Option (Int32 × Mm)) (x1 : Int32) (x2 : Int32) (x3 : Int32) (x4 : Int32) (M : Mm) : Option (Int32 × Mm) :=
  if (M.1 0 22) ≤ x4 then (
    j_M_bench_0_65 x1 x2 x3 M
  ) else (
    (rd (M.1 10) 37 ((18 + (3 * x1)) + x4)).bind fun v2 =>
    rc33 x1 x2 (x3 + v2) (x4 + 1) M
  )
noncomputable def lp_M_bench_0_33  : Nat → Int32 → Int32 → Int32 → Int32 → Mm → Option (Int32 × Mm)
  | 0, _, _, _, _, _ => none
  | n + 1, x1, x2, x3, x4, M => blp_M_bench_0_33  (lp_M_bench_0_33  n) x1 x2 x3 x4 M
noncomputable def f_M_bench_0 (p0 : Int32) (p1 : Int32) (M : Mm) : Option (Int32 × Mm) :=
  (some (u1 M 0 0 0)).bind fun M1 =>
  (f_M_isBench_0 p0 M1).bind fun v2 =>
  if v2 = 0 then (
    (f_M_refused_0 1 M1).bind fun q4 =>
    some (q4.1, q4.2)
  ) else (
    (f_M_in p1 0 3).bind fun v5 =>
    if v5 = 0 then (
      (f_M_refused_0 1 M1).bind fun q7 =>
      some (q7.1, q7.2)
    ) else (
      lp_M_bench_0_33 FW p0 p1 0 0 M1
    )
  )
noncomputable def f_M_isKind_0 (p0 : Int32) (M : Mm) : Option Int32 :=
  if (M.1 0 28) = 0 then (
    some 0
  ) else (
    (f_M_in p0 0 ((M.1 0 22) - 1)).bind fun v2 =>
    if v2 = 0 then (
      some 0
    ) else (
      some 1
    )
  )
noncomputable def f_M_timeOf_0 (p0 : Int32) (p1 : Int32) (M : Mm) : Option (Int32 × Mm) :=
  (some (u1 M 0 0 0)).bind fun M1 =>
  (f_M_isBench_0 p0 M1).bind fun v2 =>
  if v2 = 0 then (
    (f_M_refused_0 1 M1).bind fun q4 =>
    some (q4.1, q4.2)
  ) else (
    (f_M_isKind_0 p1 M1).bind fun v5 =>
    if v5 = 0 then (
      (f_M_refused_0 1 M1).bind fun q7 =>
      some (q7.1, q7.2)
    ) else (
      (rd (M1.1 10) 37 ((18 + (3 * p0)) + p1)).bind fun v8 =>
      (f_M_good_0 v8 M1).bind fun q9 =>
      some (q9.1, q9.2)
    )
  )
noncomputable def f_M_stream_0 (p0 : Int32) (p1 : Int32) (M : Mm) : Option (Int32 × Mm) :=
  (some (u1 M 0 0 0)).bind fun M1 =>
  if (M1.1 0 28) = 0 then (
    (f_M_refused_0 1 M1).bind fun q3 =>
    some (q3.1, q3.2)
  ) else (
    (f_M_in p0 0 ((M1.1 0 24) - 1)).bind fun v4 =>
    if v4 = 0 then (
      (f_M_refused_0 1 M1).bind fun q6 =>
      some (q6.1, q6.2)
    ) else (
      (f_M_in p1 0 2).bind fun v7 =>
      if v7 = 0 then (
        (f_M_refused_0 1 M1).bind fun q17 =>
        some (q17.1, q17.2)
      ) else (
        if p1 = 0 then (
          (rd (M1.1 7) 8 p0).bind fun v15 =>
          (f_M_good_0 v15 M1).bind fun q16 =>
          some (q16.1, q16.2)
        ) else (
          if p1 = 1 then (
            (rd (M1.1 8) 8 p0).bind fun v13 =>
            (f_M_good_0 v13 M1).bind fun q14 =>
            some (q14.1, q14.2)
          ) else (
            (rd (M1.1 9) 8 p0).bind fun v11 =>
            (f_M_good_0 v11 M1).bind fun q12 =>
            some (q12.1, q12.2)
          )
        )
      )
    )
  )
noncomputable def f_M_free_0_15_10 (p0 : Int32) (p1 : Int32) (M : Mm) : Option Int32 :=
  (rd (M.1 10) 37 ((3 * p0) + p1)).bind fun v1 =>
  (f_M_store p0 p1).bind fun v2 =>
  (rd (M.1 15) 99 v2).bind fun v3 =>
  (f_M_atWork_0_15 p0 p1 M).bind fun v4 =>
  if ((v1 - v3) - v4) ≤ 0 then (
    some 0
  ) else (
    some ((v1 - v3) - v4)
  )
noncomputable def f_M_cardsOf_0 (p0 : Int32) (p1 : Int32) (p2 : Int32) (M : Mm) : Option (Int32 × Mm) :=
  (some (u1 M 0 0 0)).bind fun M1 =>
  (f_M_isBench_0 p0 M1).bind fun v2 =>
  if v2 = 0 then (
    (f_M_refused_0 1 M1).bind fun q4 =>
    some (q4.1, q4.2)
  ) else (
    (f_M_isKind_0 p1 M1).bind fun v5 =>
    if v5 = 0 then (
      (f_M_refused_0 1 M1).bind fun q7 =>
      some (q7.1, q7.2)
    ) else (
      (f_M_in p2 0 3).bind fun v8 =>
      if v8 = 0 then (
        (f_M_refused_0 1 M1).bind fun q22 =>
        some (q22.1, q22.2)
      ) else (
        if p2 = 0 then (
          (rd (M1.1 10) 37 ((3 * p0) + p1)).bind fun v20 =>
          (f_M_good_0 v20 M1).bind fun q21 =>
          some (q21.1, q21.2)
        ) else (
          if p2 = 1 then (
            (f_M_store p0 p1).bind fun v17 =>
            (rd (M1.1 15) 99 v17).bind fun v18 =>
            (f_M_good_0 v18 M1).bind fun q19 =>
            some (q19.1, q19.2)
          ) else (
            if p2 = 2 then (
              (f_M_atWork_0_15 p0 p1 M1).bind fun v15 =>
              (f_M_good_0 v15 M1).bind fun q16 =>
              some (q16.1, q16.2)
            ) else (
              (f_M_free_0_15_10 p0 p1 M1).bind fun v13 =>
              (f_M_good_0 v13 M1).bind fun q14 =>
              some (q14.1, q14.2)
            )
          )
        )
      )
    )
  )
noncomputable def f_M_granted_0 (p0 : Int32) (M : Mm) : Option (Int32 × Mm) :=
  (some (u1 M 0 1 p0)).bind fun M1 =>
  (some (u1 M1 0 2 (-1))).bind fun M2 =>
  if p0 = 0 then (
    some (1, M2)
  ) else (
    some (0, M2)
  )
noncomputable def j_M_peaks_0_15_31  (x2 : Int32) (x3 : Int32) (M : Mm) : Option Mm :=
  (rd (M.1 15) 99 (90 + x2)).bind fun v1 =>
  if x3 ≤ v1 then (
    some M
  ) else (
    (wr M 15 99 (90 + x2) x3).bind fun M3 =>
    some M3
  )
noncomputable def blp_M_peaks_0_15_5 (rc5 : Int32 → Int32 → Int32 → Mm → Option Mm) (x2 : Int32) (x3 : Int32) (x4 : Int32) (M : Mm) : Option Mm :=
  if (M.1 0 22) ≤ x4 then (
    j_M_peaks_0_15_31 x2 x3 M
  ) else (
    (f_M_store x2 x4).bind fun v2 =>
    (rd (M.1 15) 99 v2).bind fun v3 =>
    rc5 x2 (x3 + v3) (x4 + 1) M
  )
noncomputable def lp_M_peaks_0_15_5  : Nat → Int32 → Int32 → Int32 → Mm → Option Mm
  | 0, _, _, _, _ => none
  | n + 1, x2, x3, x4, M => blp_M_peaks_0_15_5  (lp_M_peaks_0_15_5  n) x2 x3 x4 M
noncomputable def f_M_peaks_0_15 (p0 : Int32) (M : Mm) : Option Mm :=
  lp_M_peaks_0_15_5 FW p0 0 0 M
noncomputable def j_M_begin_0_76 (rc28 : Int32 → Int32 → Mm → Option (Int32 × Mm)) (x1 : Int32) (x2 : Int32) (M : Mm) : Option (Int32 × Mm) :=
  (f_M_peaks_0_15 x2 M).bind fun M1 =>
  rc28 x1 (x2 + 1) M1
noncomputable def blp_M_begin_0_42 (rc28 : Int32 → Int32 → Mm → Option (Int32 × Mm)) (rc42 : Int32 → Int32 → Int32 → Mm → Option (Int32 × Mm)) (x1 : Int32) (x2 : Int32) (x3 : Int32) (M : Mm) : Option (Int32 × Mm) :=
  if (M.1 0 22) ≤ x3 then (
    j_M_begin_0_76 rc28 x1 x2 M
  ) else (
    (f_M_store x2 x3).bind fun v2 =>
    (rd (M.1 10) 37 ((3 * x2) + x3)).bind fun v3 =>
    (wr M 15 99 v2 v3).bind fun M4 =>
    rc42 x1 x2 (x3 + 1) M4
  )
noncomputable def lp_M_begin_0_42 (rc28 : Int32 → Int32 → Mm → Option (Int32 × Mm)) : Nat → Int32 → Int32 → Int32 → Mm → Option (Int32 × Mm)
  | 0, _, _, _, _ => none
  | n + 1, x1, x2, x3, M => blp_M_begin_0_42 rc28 (lp_M_begin_0_42 rc28 n) x1 x2 x3 M
noncomputable def blp_M_begin_0_28 (rc28 : Int32 → Int32 → Mm → Option (Int32 × Mm)) (x1 : Int32) (x2 : Int32) (M : Mm) : Option (Int32 × Mm) :=
  if (M.1 0 23) ≤ x2 then (
    (f_M_granted_0 0 M).bind fun q2 =>
    (zr q2.1).bind fun z3 =>
    some (z3, q2.2)
  ) else (
    if x1 = 0 then (
      (f_M_granted_0 0 M).bind fun q5 =>
      (zr q5.1).bind fun z6 =>
      some (z6, q5.2)
    ) else (
      lp_M_begin_0_42 rc28 FW x1 x2 0 M
    )
  )
noncomputable def lp_M_begin_0_28  : Nat → Int32 → Int32 → Mm → Option (Int32 × Mm)
  | 0, _, _, _ => none
  | n + 1, x1, x2, M => blp_M_begin_0_28  (lp_M_begin_0_28  n) x1 x2 M
noncomputable def f_M_begin_0 (p0 : Int32) (M : Mm) : Option (Int32 × Mm) :=
  (some (u1 M 0 0 0)).bind fun M1 =>
  if (M1.1 0 28) = 0 then (
    (f_M_granted_0 1 M1).bind fun q4 =>
    (zr q4.1).bind fun z5 =>
    some (z5, q4.2)
  ) else (
    (f_M_begins_0_15 M1).bind fun M3 =>
    lp_M_begin_0_28 FW p0 0 M3
  )
noncomputable def f_M_ofKind (p0 : Int32) (p1 : Int32) : Option Int32 :=
  some ((75 + (5 * p0)) + p1)
noncomputable def blp_M_delivered_0_15_4 (rc4 : Int32 → Int32 → Mm → Option Int32) (x2 : Int32) (x3 : Int32) (M : Mm) : Option Int32 :=
  if (M.1 0 22) ≤ x3 then (
    some x2
  ) else (
    (f_M_ofKind x3 1).bind fun v2 =>
    (rd (M.1 15) 99 v2).bind fun v3 =>
    rc4 (x2 + v3) (x3 + 1) M
  )
noncomputable def lp_M_delivered_0_15_4  : Nat → Int32 → Int32 → Mm → Option Int32
  | 0, _, _, _ => none
  | n + 1, x2, x3, M => blp_M_delivered_0_15_4  (lp_M_delivered_0_15_4  n) x2 x3 M
noncomputable def f_M_delivered_0_15  (M : Mm) : Option Int32 :=
  lp_M_delivered_0_15_4 FW 0 0 M
noncomputable def j_M_tallies_0_15_10_137  (x3 : Int32) (x4 : Int32) (M : Mm) : Option Mm :=
  (wr M 15 99 1 x4).bind fun M1 =>
  (wr M1 15 99 2 x3).bind fun M2 =>
  some M2
noncomputable def j_M_tallies_0_15_10_96  (x3 : Int32) (x4 : Int32) (x6 : Int32) (t0 : Int32) (t1 : Int32) (M : Mm) : Option Mm :=
  (f_M_of t1 t0).bind fun v1 =>
  (rd (M.1 15) 99 v1).bind fun v2 =>
  (wr M 15 99 v1 (v2 + 1)).bind fun M3 =>
  if x6 = 0 then (
    some M3
  ) else (
    (f_M_of x3 3).bind fun v5 =>
    (rd (M3.1 15) 99 v5).bind fun v6 =>
    if v6 = (-2) then (
      some M3
    ) else (
      (rd (M3.1 15) 99 1).bind fun v8 =>
      if v8 = (-1) then (
        j_M_tallies_0_15_10_137 x3 x4 M3
      ) else (
        (rd (M3.1 15) 99 1).bind fun v10 =>
        if v10 = x4 then (
          j_M_tallies_0_15_10_137 x3 x4 M3
        ) else (
          some M3
        )
      )
    )
  )
noncomputable def j_M_tallies_0_15_10_82  (x3 : Int32) (x4 : Int32) (x6 : Int32) (M : Mm) : Option Mm :=
  if x6 = 0 then (
    j_M_tallies_0_15_10_96 x3 x4 x6 8 x3 M
  ) else (
    j_M_tallies_0_15_10_96 x3 x4 x6 7 x3 M
  )
noncomputable def j_M_tallies_0_15_10_74 (rc43 : Int32 → Int32 → Int32 → Int32 → Mm → Option Mm) (x3 : Int32) (x4 : Int32) (x7 : Int32) (t0 : Int32) (M : Mm) : Option Mm :=
  rc43 x3 x4 t0 (x7 + 1) M
noncomputable def j_M_tallies_0_15_10_69 (rc43 : Int32 → Int32 → Int32 → Int32 → Mm → Option Mm) (x3 : Int32) (x4 : Int32) (x7 : Int32) (M : Mm) : Option Mm :=
  j_M_tallies_0_15_10_74 rc43 x3 x4 x7 1 M
noncomputable def blp_M_tallies_0_15_10_43 (rc43 : Int32 → Int32 → Int32 → Int32 → Mm → Option Mm) (x3 : Int32) (x4 : Int32) (x6 : Int32) (x7 : Int32) (M : Mm) : Option Mm :=
  if (M.1 0 22) ≤ x7 then (
    j_M_tallies_0_15_10_82 x3 x4 x6 M
  ) else (
    if x6 = 0 then (
      (f_M_free_0_15_10 x3 x7 M).bind fun v3 =>
      if v3 ≤ 0 then (
        j_M_tallies_0_15_10_74 rc43 x3 x4 x7 0 M
      ) else (
        j_M_tallies_0_15_10_69 rc43 x3 x4 x7 M
      )
    ) else (
      j_M_tallies_0_15_10_69 rc43 x3 x4 x7 M
    )
  )
noncomputable def lp_M_tallies_0_15_10_43  : Nat → Int32 → Int32 → Int32 → Int32 → Mm → Option Mm
  | 0, _, _, _, _, _ => none
  | n + 1, x3, x4, x6, x7, M => blp_M_tallies_0_15_10_43  (lp_M_tallies_0_15_10_43  n) x3 x4 x6 x7 M
noncomputable def f_M_tallies_0_15_10 (p0 : Int32) (p1 : Int32) (M : Mm) : Option Mm :=
  (f_M_of p0 0).bind fun v1 =>
  (rd (M.1 15) 99 v1).bind fun v2 =>
  if v2 ≤ 0 then (
    lp_M_tallies_0_15_10_43 FW p0 p1 0 0 M
  ) else (
    if v2 = 1 then (
      (f_M_of p0 5).bind fun v8 =>
      (rd (M.1 15) 99 v8).bind fun v9 =>
      (wr M 15 99 v8 (v9 + 1)).bind fun M10 =>
      some M10
    ) else (
      (f_M_of p0 6).bind fun v5 =>
      (rd (M.1 15) 99 v5).bind fun v6 =>
      (wr M 15 99 v5 (v6 + 1)).bind fun M7 =>
      some M7
    )
  )
noncomputable def f_M_can_0_15_10 (p0 : Int32) (p1 : Int32) (M : Mm) : Option Int32 :=
  (f_M_free_0_15_10 p0 p1 M).bind fun v1 =>
  if v1 ≤ 0 then (
    some 0
  ) else (
    if p0 = 0 then (
      some 1
    ) else (
      (f_M_store (p0 - 1) p1).bind fun v4 =>
      (rd (M.1 15) 99 v4).bind fun v5 =>
      if v5 ≤ 0 then (
        some 0
      ) else (
        some 1
      )
    )
  )
noncomputable def j_M_chosen_0_15_10_112 (rc6 : Int32 → Int32 → Int32 → Mm → Option Int32) (x3 : Int32) (x4 : Int32) (x5 : Int32) (M : Mm) : Option Int32 :=
  rc6 x3 x4 (x5 + 1) M
noncomputable def j_M_chosen_0_15_10_108 (rc6 : Int32 → Int32 → Int32 → Mm → Option Int32) (x3 : Int32) (x5 : Int32) (x7 : Int32) (M : Mm) : Option Int32 :=
  j_M_chosen_0_15_10_112 rc6 x3 x7 x5 M
noncomputable def j_M_chosen_0_15_10_56 (rc6 : Int32 → Int32 → Int32 → Mm → Option Int32) (x3 : Int32) (x4 : Int32) (x5 : Int32) (t0 : Int32) (M : Mm) : Option Int32 :=
  (f_M_can_0_15_10 x3 t0 M).bind fun v1 =>
  if v1 = 0 then (
    j_M_chosen_0_15_10_112 rc6 x3 x4 x5 M
  ) else (
    if x4 = (-1) then (
      j_M_chosen_0_15_10_108 rc6 x3 x5 t0 M
    ) else (
      (rd (M.1 10) 37 36).bind fun v4 =>
      if v4 = 1 then (
        (f_M_free_0_15_10 x3 t0 M).bind fun v6 =>
        (f_M_free_0_15_10 x3 x4 M).bind fun v7 =>
        if v6 ≤ v7 then (
          j_M_chosen_0_15_10_112 rc6 x3 x4 x5 M
        ) else (
          j_M_chosen_0_15_10_108 rc6 x3 x5 t0 M
        )
      ) else (
        j_M_chosen_0_15_10_112 rc6 x3 x4 x5 M
      )
    )
  )
noncomputable def j_M_chosen_0_15_10_52 (rc6 : Int32 → Int32 → Int32 → Mm → Option Int32) (x3 : Int32) (x4 : Int32) (x5 : Int32) (M : Mm) : Option Int32 :=
  j_M_chosen_0_15_10_56 rc6 x3 x4 x5 (x5 - 1) M
noncomputable def blp_M_chosen_0_15_10_6 (rc6 : Int32 → Int32 → Int32 → Mm → Option Int32) (x3 : Int32) (x4 : Int32) (x5 : Int32) (M : Mm) : Option Int32 :=
  if (M.1 0 22) < x5 then (
    some x4
  ) else (
    (f_M_of x3 3).bind fun v2 =>
    (rd (M.1 15) 99 v2).bind fun v3 =>
    (rd (M.1 10) 37 36).bind fun v4 =>
    if v4 = 2 then (
      if v3 = (-2) then (
        j_M_chosen_0_15_10_52 rc6 x3 x4 x5 M
      ) else (
        (rmI (v3 + x5) (M.1 0 22)).bind fun v7 =>
        j_M_chosen_0_15_10_56 rc6 x3 x4 x5 v7 M
      )
    ) else (
      j_M_chosen_0_15_10_52 rc6 x3 x4 x5 M
    )
  )
noncomputable def lp_M_chosen_0_15_10_6  : Nat → Int32 → Int32 → Int32 → Mm → Option Int32
  | 0, _, _, _, _ => none
  | n + 1, x3, x4, x5, M => blp_M_chosen_0_15_10_6  (lp_M_chosen_0_15_10_6  n) x3 x4 x5 M
noncomputable def f_M_chosen_0_15_10 (p0 : Int32) (M : Mm) : Option Int32 :=
  lp_M_chosen_0_15_10_6 FW p0 (-1) 1 M
noncomputable def j_M_starts_0_15_10_54  (x3 : Int32) (x4 : Int32) (x5 : Int32) (x6 : Int32) (M : Mm) : Option Mm :=
  (f_M_of x3 0).bind fun v1 =>
  (wr M 15 99 v1 1).bind fun M2 =>
  (f_M_of x3 1).bind fun v3 =>
  (wr M2 15 99 v3 x5).bind fun M4 =>
  (f_M_of x3 3).bind fun v5 =>
  (wr M4 15 99 v5 x5).bind fun M6 =>
  (f_M_of x3 2).bind fun v7 =>
  (rd (M6.1 10) 37 ((18 + (3 * x3)) + x5)).bind fun v8 =>
  if x6 = (-2) then (
    (wr M6 15 99 v7 ((x4 + v8) + 0)).bind fun M10 =>
    some M10
  ) else (
    if x6 = x5 then (
      (wr M6 15 99 v7 ((x4 + v8) + 0)).bind fun M12 =>
      some M12
    ) else (
      (rd (M6.1 4) 12 x3).bind fun v13 =>
      (wr M6 15 99 v7 ((x4 + v8) + v13)).bind fun M14 =>
      some M14
    )
  )
noncomputable def f_M_starts_0_15_10 (p0 : Int32) (p1 : Int32) (M : Mm) : Option Mm :=
  (f_M_of p0 0).bind fun v1 =>
  (rd (M.1 15) 99 v1).bind fun v2 =>
  if v2 = 0 then (
    (f_M_chosen_0_15_10 p0 M).bind fun v4 =>
    if v4 = (-1) then (
      some M
    ) else (
      (f_M_of p0 3).bind fun v6 =>
      (rd (M.1 15) 99 v6).bind fun v7 =>
      if p0 ≤ 0 then (
        j_M_starts_0_15_10_54 p0 p1 v4 v7 M
      ) else (
        (f_M_store (p0 - 1) v4).bind fun v9 =>
        (rd (M.1 15) 99 v9).bind fun v10 =>
        (wr M 15 99 v9 (v10 - 1)).bind fun M11 =>
        j_M_starts_0_15_10_54 p0 p1 v4 v7 M11
      )
    )
  ) else (
    some M
  )
noncomputable def j_M_comeIn_0_62 (rc5 : Int32 → Int32 → Int32 → Int32 → Mm → Option Int32) (x1 : Int32) (x2 : Int32) (x4 : Int32) (t0 : Int32) (t1 : Int32) (M : Mm) : Option Int32 :=
  rc5 x1 x2 (t1 + t0) (x4 + 1) M
noncomputable def j_M_comeIn_0_61 (rc5 : Int32 → Int32 → Int32 → Int32 → Mm → Option Int32) (x1 : Int32) (x2 : Int32) (x4 : Int32) (t0 : Int32) (M : Mm) : Option Int32 :=
  j_M_comeIn_0_62 rc5 x1 x2 x4 0 t0 M
noncomputable def blp_M_comeIn_0_5 (rc5 : Int32 → Int32 → Int32 → Int32 → Mm → Option Int32) (x1 : Int32) (x2 : Int32) (x3 : Int32) (x4 : Int32) (M : Mm) : Option Int32 :=
  if (M.1 0 24) ≤ x4 then (
    some x3
  ) else (
    (rd (M.1 7) 8 x4).bind fun v2 =>
    if v2 = x1 then (
      (rd (M.1 9) 8 x4).bind fun v4 =>
      if x2 < v4 then (
        j_M_comeIn_0_61 rc5 x1 x2 x4 x3 M
      ) else (
        (rd (M.1 9) 8 x4).bind fun v6 =>
        (rd (M.1 8) 8 x4).bind fun v7 =>
        (rmI (x2 - v6) v7).bind fun v8 =>
        if v8 = 0 then (
          j_M_comeIn_0_62 rc5 x1 x2 x4 1 x3 M
        ) else (
          j_M_comeIn_0_61 rc5 x1 x2 x4 x3 M
        )
      )
    ) else (
      j_M_comeIn_0_61 rc5 x1 x2 x4 x3 M
    )
  )
noncomputable def lp_M_comeIn_0_5  : Nat → Int32 → Int32 → Int32 → Int32 → Mm → Option Int32
  | 0, _, _, _, _, _ => none
  | n + 1, x1, x2, x3, x4, M => blp_M_comeIn_0_5  (lp_M_comeIn_0_5  n) x1 x2 x3 x4 M
noncomputable def f_M_comeIn_0 (p0 : Int32) (p1 : Int32) (M : Mm) : Option Int32 :=
  lp_M_comeIn_0_5 FW p0 p1 0 0 M
noncomputable def j_M_serves_0_15_155 (rc28 : Int32 → Int32 → Int32 → Mm → Option Mm) (x2 : Int32) (x3 : Int32) (x4 : Int32) (M : Mm) : Option Mm :=
  (rd (M.1 15) 99 x4).bind fun v1 =>
  (wr M 15 99 x4 (v1 - 1)).bind fun M2 =>
  rc28 x2 x3 x4 M2
noncomputable def j_M_serves_0_15_96 (rc28 : Int32 → Int32 → Int32 → Mm → Option Mm) (x2 : Int32) (x3 : Int32) (x4 : Int32) (M : Mm) : Option Mm :=
  (f_M_ofKind x2 4).bind fun v1 =>
  (rd (M.1 15) 99 v1).bind fun v2 =>
  (wr M 15 99 v1 (v2 + 1)).bind fun M3 =>
  (f_M_ofKind x2 1).bind fun v4 =>
  (rd (M3.1 15) 99 v4).bind fun v5 =>
  (wr M3 15 99 v4 (v5 + 1)).bind fun M6 =>
  (f_M_ofKind x2 2).bind fun v7 =>
  (rd (M6.1 15) 99 v7).bind fun v8 =>
  (f_M_ofKind x2 3).bind fun v9 =>
  (rd (M6.1 15) 99 v9).bind fun v10 =>
  (wr M6 15 99 v7 (v8 + (x3 - v10))).bind fun M11 =>
  (rd (M11.1 15) 99 (96 + x2)).bind fun v12 =>
  if v12 = (-2) then (
    (wr M11 15 99 (96 + x2) x3).bind fun M14 =>
    j_M_serves_0_15_155 rc28 x2 x3 x4 M14
  ) else (
    j_M_serves_0_15_155 rc28 x2 x3 x4 M11
  )
noncomputable def blp_M_serves_0_15_52 (rc28 : Int32 → Int32 → Int32 → Mm → Option Mm) (rc52 : Int32 → Int32 → Int32 → Mm → Option Mm) (x2 : Int32) (x3 : Int32) (x4 : Int32) (M : Mm) : Option Mm :=
  (f_M_ofKind x2 3).bind fun v1 =>
  (rd (M.1 15) 99 v1).bind fun v2 =>
  (f_M_comeIn_0 x2 v2 M).bind fun v3 =>
  (f_M_ofKind x2 4).bind fun v4 =>
  (rd (M.1 15) 99 v4).bind fun v5 =>
  if v3 = v5 then (
    (f_M_ofKind x2 3).bind fun v7 =>
    (rd (M.1 15) 99 v7).bind fun v8 =>
    (wr M 15 99 v7 (v8 + 1)).bind fun M9 =>
    (f_M_ofKind x2 4).bind fun v10 =>
    (wr M9 15 99 v10 0).bind fun M11 =>
    rc52 x2 x3 x4 M11
  ) else (
    j_M_serves_0_15_96 rc28 x2 x3 x4 M
  )
noncomputable def lp_M_serves_0_15_52 (rc28 : Int32 → Int32 → Int32 → Mm → Option Mm) : Nat → Int32 → Int32 → Int32 → Mm → Option Mm
  | 0, _, _, _, _ => none
  | n + 1, x2, x3, x4, M => blp_M_serves_0_15_52 rc28 (lp_M_serves_0_15_52 rc28 n) x2 x3 x4 M
noncomputable def blp_M_serves_0_15_28 (rc28 : Int32 → Int32 → Int32 → Mm → Option Mm) (x2 : Int32) (x3 : Int32) (x4 : Int32) (M : Mm) : Option Mm :=
  (f_M_ofKind x2 0).bind fun v1 =>
  (rd (M.1 15) 99 v1).bind fun v2 =>
  (f_M_ofKind x2 1).bind fun v3 =>
  (rd (M.1 15) 99 v3).bind fun v4 =>
  if v2 ≤ v4 then (
    some M
  ) else (
    (rd (M.1 15) 99 x4).bind fun v6 =>
    if v6 ≤ 0 then (
      some M
    ) else (
      lp_M_serves_0_15_52 rc28 FW x2 x3 x4 M
    )
  )
noncomputable def lp_M_serves_0_15_28  : Nat → Int32 → Int32 → Int32 → Mm → Option Mm
  | 0, _, _, _, _ => none
  | n + 1, x2, x3, x4, M => blp_M_serves_0_15_28  (lp_M_serves_0_15_28  n) x2 x3 x4 M
noncomputable def f_M_serves_0_15 (p0 : Int32) (p1 : Int32) (M : Mm) : Option Mm :=
  (f_M_ofKind p0 0).bind fun v1 =>
  (rd (M.1 15) 99 v1).bind fun v2 =>
  (f_M_comeIn_0 p0 p1 M).bind fun v3 =>
  (wr M 15 99 v1 (v2 + v3)).bind fun M4 =>
  (f_M_store ((M4.1 0 23) - 1) p0).bind fun v5 =>
  lp_M_serves_0_15_28 FW p0 p1 v5 M4
noncomputable def j_M_ends_0_15_38  (x2 : Int32) (x3 : Int32) (t0 : Int32) (M : Mm) : Option Mm :=
  (f_M_of x2 0).bind fun v1 =>
  (wr M 15 99 v1 0).bind fun M2 =>
  if t0 = 0 then (
    some M2
  ) else (
    (f_M_of x2 1).bind fun v4 =>
    (rd (M2.1 15) 99 v4).bind fun v5 =>
    (f_M_store x2 v5).bind fun v6 =>
    (rd (M2.1 15) 99 v6).bind fun v7 =>
    (wr M2 15 99 v6 (v7 + 1)).bind fun M8 =>
    (f_M_of x2 1).bind fun v9 =>
    (wr M8 15 99 v9 (-2)).bind fun M10 =>
    (f_M_of x2 4).bind fun v11 =>
    (rd (M10.1 15) 99 v11).bind fun v12 =>
    (wr M10 15 99 v11 (v12 + 1)).bind fun M13 =>
    (rd (M13.1 6) 12 x2).bind fun v14 =>
    if v14 = 0 then (
      some M13
    ) else (
      (f_M_of x2 4).bind fun v16 =>
      (rd (M13.1 15) 99 v16).bind fun v17 =>
      (rd (M13.1 6) 12 x2).bind fun v18 =>
      (rmI v17 v18).bind fun v19 =>
      if v19 = 0 then (
        (f_M_of x2 0).bind fun v21 =>
        (wr M13 15 99 v21 2).bind fun M22 =>
        (f_M_of x2 2).bind fun v23 =>
        (rd (M22.1 5) 12 x2).bind fun v24 =>
        (wr M22 15 99 v23 (x3 + v24)).bind fun M25 =>
        some M25
      ) else (
        some M13
      )
    )
  )
noncomputable def f_M_ends_0_15 (p0 : Int32) (p1 : Int32) (M : Mm) : Option Mm :=
  (f_M_of p0 0).bind fun v1 =>
  (rd (M.1 15) 99 v1).bind fun v2 =>
  if v2 = 0 then (
    some M
  ) else (
    (f_M_of p0 2).bind fun v4 =>
    (rd (M.1 15) 99 v4).bind fun v5 =>
    if v5 = p1 then (
      (f_M_of p0 0).bind fun v7 =>
      (rd (M.1 15) 99 v7).bind fun v8 =>
      if v8 = 1 then (
        j_M_ends_0_15_38 p0 p1 1 M
      ) else (
        j_M_ends_0_15_38 p0 p1 0 M
      )
    ) else (
      some M
    )
  )
noncomputable def j_M_minute_0_15_10_136   (M : Mm) : Option Mm :=
  (rd (M.1 15) 99 0).bind fun v1 =>
  (wr M 15 99 0 (v1 + 1)).bind fun M2 =>
  some M2
noncomputable def blp_M_minute_0_15_10_114 (rc114 : Int32 → Mm → Option Mm) (x4 : Int32) (M : Mm) : Option Mm :=
  if (M.1 0 23) ≤ x4 then (
    j_M_minute_0_15_10_136 M
  ) else (
    (f_M_peaks_0_15 x4 M).bind fun M2 =>
    rc114 (x4 + 1) M2
  )
noncomputable def lp_M_minute_0_15_10_114  : Nat → Int32 → Mm → Option Mm
  | 0, _, _ => none
  | n + 1, x4, M => blp_M_minute_0_15_10_114  (lp_M_minute_0_15_10_114  n) x4 M
noncomputable def j_M_minute_0_15_10_111   (M : Mm) : Option Mm :=
  lp_M_minute_0_15_10_114 FW 0 M
noncomputable def blp_M_minute_0_15_10_87 (rc87 : Int32 → Int32 → Mm → Option Mm) (x3 : Int32) (x4 : Int32) (M : Mm) : Option Mm :=
  if (M.1 0 23) ≤ x4 then (
    j_M_minute_0_15_10_111 M
  ) else (
    (f_M_tallies_0_15_10 x4 x3 M).bind fun M2 =>
    rc87 x3 (x4 + 1) M2
  )
noncomputable def lp_M_minute_0_15_10_87  : Nat → Int32 → Int32 → Mm → Option Mm
  | 0, _, _, _ => none
  | n + 1, x3, x4, M => blp_M_minute_0_15_10_87  (lp_M_minute_0_15_10_87  n) x3 x4 M
noncomputable def j_M_minute_0_15_10_84  (x3 : Int32) (M : Mm) : Option Mm :=
  lp_M_minute_0_15_10_87 FW x3 0 M
noncomputable def blp_M_minute_0_15_10_64 (rc64 : Int32 → Int32 → Mm → Option Mm) (x3 : Int32) (x4 : Int32) (M : Mm) : Option Mm :=
  if x4 < 0 then (
    j_M_minute_0_15_10_84 x3 M
  ) else (
    (f_M_starts_0_15_10 x4 x3 M).bind fun M2 =>
    rc64 x3 (x4 + (-1)) M2
  )
noncomputable def lp_M_minute_0_15_10_64  : Nat → Int32 → Int32 → Mm → Option Mm
  | 0, _, _, _ => none
  | n + 1, x3, x4, M => blp_M_minute_0_15_10_64  (lp_M_minute_0_15_10_64  n) x3 x4 M
noncomputable def j_M_minute_0_15_10_56  (x3 : Int32) (M : Mm) : Option Mm :=
  lp_M_minute_0_15_10_64 FW x3 ((M.1 0 23) - 1) M
noncomputable def blp_M_minute_0_15_10_33 (rc33 : Int32 → Int32 → Mm → Option Mm) (x3 : Int32) (x4 : Int32) (M : Mm) : Option Mm :=
  if (M.1 0 22) ≤ x4 then (
    j_M_minute_0_15_10_56 x3 M
  ) else (
    (f_M_serves_0_15 x4 x3 M).bind fun M2 =>
    rc33 x3 (x4 + 1) M2
  )
noncomputable def lp_M_minute_0_15_10_33  : Nat → Int32 → Int32 → Mm → Option Mm
  | 0, _, _, _ => none
  | n + 1, x3, x4, M => blp_M_minute_0_15_10_33  (lp_M_minute_0_15_10_33  n) x3 x4 M
noncomputable def j_M_minute_0_15_10_30  (x3 : Int32) (M : Mm) : Option Mm :=
  lp_M_minute_0_15_10_33 FW x3 0 M
noncomputable def blp_M_minute_0_15_10_7 (rc7 : Int32 → Int32 → Mm → Option Mm) (x3 : Int32) (x4 : Int32) (M : Mm) : Option Mm :=
  if (M.1 0 23) ≤ x4 then (
    j_M_minute_0_15_10_30 x3 M
  ) else (
    (f_M_ends_0_15 x4 x3 M).bind fun M2 =>
    rc7 x3 (x4 + 1) M2
  )
noncomputable def lp_M_minute_0_15_10_7  : Nat → Int32 → Int32 → Mm → Option Mm
  | 0, _, _, _ => none
  | n + 1, x3, x4, M => blp_M_minute_0_15_10_7  (lp_M_minute_0_15_10_7  n) x3 x4 M
noncomputable def f_M_minute_0_15_10  (M : Mm) : Option Mm :=
  (rd (M.1 15) 99 0).bind fun v1 =>
  lp_M_minute_0_15_10_7 FW v1 0 M
noncomputable def j_M_run_0_89  (x2 : Int32) (M : Mm) : Option (Int32 × Mm) :=
  (f_M_delivered_0_15 M).bind fun v1 =>
  (f_M_good_0 (v1 - x2) M).bind fun q2 =>
  some (q2.1, q2.2)
noncomputable def blp_M_run_0_66 (rc66 : Int32 → Int32 → Int32 → Mm → Option (Int32 × Mm)) (x1 : Int32) (x2 : Int32) (x3 : Int32) (M : Mm) : Option (Int32 × Mm) :=
  if x1 ≤ x3 then (
    j_M_run_0_89 x2 M
  ) else (
    (f_M_minute_0_15_10 M).bind fun M2 =>
    rc66 x1 x2 (x3 + 1) M2
  )
noncomputable def lp_M_run_0_66  : Nat → Int32 → Int32 → Int32 → Mm → Option (Int32 × Mm)
  | 0, _, _, _, _ => none
  | n + 1, x1, x2, x3, M => blp_M_run_0_66  (lp_M_run_0_66  n) x1 x2 x3 M
noncomputable def f_M_run_0 (p0 : Int32) (M : Mm) : Option (Int32 × Mm) :=
  (some (u1 M 0 0 0)).bind fun M1 =>
  if (M1.1 0 28) = 0 then (
    (f_M_refused_0 1 M1).bind fun q10 =>
    some (q10.1, q10.2)
  ) else (
    (f_M_in p0 1 500).bind fun v3 =>
    if v3 = 0 then (
      (f_M_refused_0 2 M1).bind fun q9 =>
      some (q9.1, q9.2)
    ) else (
      (rd (M1.1 15) 99 0).bind fun v5 =>
      if (v5 + p0) ≤ 9999 then (
        (f_M_delivered_0_15 M1).bind fun v7 =>
        lp_M_run_0_66 FW p0 v7 0 M1
      ) else (
        (f_M_refused_0 5 M1).bind fun q8 =>
        some (q8.1, q8.2)
      )
    )
  )
noncomputable def f_M_does_0 (p0 : Int32) (p1 : Int32) (M : Mm) : Option (Int32 × Mm) :=
  (some (u1 M 0 0 0)).bind fun M1 =>
  (f_M_isBench_0 p0 M1).bind fun v2 =>
  if v2 = 0 then (
    (f_M_refused_0 1 M1).bind fun q4 =>
    some (q4.1, q4.2)
  ) else (
    (f_M_in p1 0 3).bind fun v5 =>
    if v5 = 0 then (
      (f_M_refused_0 1 M1).bind fun q25 =>
      some (q25.1, q25.2)
    ) else (
      (f_M_of p0 0).bind fun v7 =>
      (rd (M1.1 15) 99 v7).bind fun v8 =>
      if p1 = 0 then (
        (f_M_good_0 v8 M1).bind fun q10 =>
        some (q10.1, q10.2)
      ) else (
        if p1 = 1 then (
          (f_M_of p0 1).bind fun v12 =>
          (rd (M1.1 15) 99 v12).bind fun v13 =>
          (f_M_good_0 v13 M1).bind fun q14 =>
          some (q14.1, q14.2)
        ) else (
          if p1 = 2 then (
            if v8 = 0 then (
              (f_M_good_0 0 M1).bind fun q21 =>
              some (q21.1, q21.2)
            ) else (
              (f_M_of p0 2).bind fun v17 =>
              (rd (M1.1 15) 99 v17).bind fun v18 =>
              (rd (M1.1 15) 99 0).bind fun v19 =>
              (f_M_good_0 (v18 - v19) M1).bind fun q20 =>
              some (q20.1, q20.2)
            )
          ) else (
            (f_M_of p0 3).bind fun v22 =>
            (rd (M1.1 15) 99 v22).bind fun v23 =>
            (f_M_good_0 v23 M1).bind fun q24 =>
            some (q24.1, q24.2)
      )))
    )
  )
noncomputable def f_M_counts_0 (p0 : Int32) (p1 : Int32) (M : Mm) : Option (Int32 × Mm) :=
  (some (u1 M 0 0 0)).bind fun M1 =>
  (f_M_isBench_0 p0 M1).bind fun v2 =>
  if v2 = 0 then (
    (f_M_refused_0 1 M1).bind fun q4 =>
    some (q4.1, q4.2)
  ) else (
    (f_M_in p1 0 4).bind fun v5 =>
    if v5 = 0 then (
      (f_M_refused_0 1 M1).bind fun q7 =>
      some (q7.1, q7.2)
    ) else (
      (f_M_of p0 (4 + p1)).bind fun v8 =>
      (rd (M1.1 15) 99 v8).bind fun v9 =>
      (f_M_good_0 v9 M1).bind fun q10 =>
      some (q10.1, q10.2)
    )
  )
noncomputable def f_M_waits_0 (p0 : Int32) (M : Mm) : Option Int32 :=
  (f_M_ofKind p0 0).bind fun v1 =>
  (rd (M.1 15) 99 v1).bind fun v2 =>
  (f_M_ofKind p0 1).bind fun v3 =>
  (rd (M.1 15) 99 v3).bind fun v4 =>
  some (v2 - v4)
noncomputable def blp_M_waited_0_41 (rc41 : Int32 → Int32 → Int32 → Int32 → Int32 → Mm → Option Int32) (x1 : Int32) (x2 : Int32) (x3 : Int32) (x4 : Int32) (x5 : Int32) (M : Mm) : Option Int32 :=
  if x3 ≤ 0 then (
    some x2
  ) else (
    (f_M_comeIn_0 x1 x5 M).bind fun v2 =>
    (rd (M.1 15) 99 0).bind fun v3 =>
    rc41 x1 (x2 + ((v2 - x4) * ((v3 - 1) - x5))) (x3 - (v2 - x4)) 0 (x5 + 1) M
  )
noncomputable def lp_M_waited_0_41  : Nat → Int32 → Int32 → Int32 → Int32 → Int32 → Mm → Option Int32
  | 0, _, _, _, _, _, _ => none
  | n + 1, x1, x2, x3, x4, x5, M => blp_M_waited_0_41  (lp_M_waited_0_41  n) x1 x2 x3 x4 x5 M
noncomputable def f_M_waited_0 (p0 : Int32) (M : Mm) : Option Int32 :=
  (f_M_ofKind p0 2).bind fun v1 =>
  (rd (M.1 15) 99 v1).bind fun v2 =>
  (f_M_waits_0 p0 M).bind fun v3 =>
  (f_M_ofKind p0 4).bind fun v4 =>
  (rd (M.1 15) 99 v4).bind fun v5 =>
  (f_M_ofKind p0 3).bind fun v6 =>
  (rd (M.1 15) 99 v6).bind fun v7 =>
  lp_M_waited_0_41 FW p0 v2 v3 v5 v7 M
noncomputable def f_M_orders_0 (p0 : Int32) (p1 : Int32) (M : Mm) : Option (Int32 × Mm) :=
  (some (u1 M 0 0 0)).bind fun M1 =>
  (f_M_isKind_0 p0 M1).bind fun v2 =>
  if v2 = 0 then (
    (f_M_refused_0 1 M1).bind fun q4 =>
    some (q4.1, q4.2)
  ) else (
    (f_M_in p1 0 3).bind fun v5 =>
    if v5 = 0 then (
      (f_M_refused_0 1 M1).bind fun q20 =>
      some (q20.1, q20.2)
    ) else (
      if p1 = 0 then (
        (f_M_ofKind p0 0).bind fun v8 =>
        (rd (M1.1 15) 99 v8).bind fun v9 =>
        (f_M_good_0 v9 M1).bind fun q10 =>
        some (q10.1, q10.2)
      ) else (
        if p1 = 1 then (
          (f_M_ofKind p0 1).bind fun v12 =>
          (rd (M1.1 15) 99 v12).bind fun v13 =>
          (f_M_good_0 v13 M1).bind fun q14 =>
          some (q14.1, q14.2)
        ) else (
          if p1 = 2 then (
            (f_M_waits_0 p0 M1).bind fun v16 =>
            (f_M_good_0 v16 M1).bind fun q17 =>
            some (q17.1, q17.2)
          ) else (
            (f_M_waited_0 p0 M1).bind fun v18 =>
            (f_M_good_0 v18 M1).bind fun q19 =>
            some (q19.1, q19.2)
      )))
    )
  )
noncomputable def f_M_starved_0 (p0 : Int32) (M : Mm) : Option (Int32 × Mm) :=
  (some (u1 M 0 0 0)).bind fun M1 =>
  if (M1.1 0 28) = 0 then (
    (f_M_refused_0 1 M1).bind fun q3 =>
    some (q3.1, q3.2)
  ) else (
    (f_M_in p0 0 1).bind fun v4 =>
    if v4 = 0 then (
      (f_M_refused_0 1 M1).bind fun q14 =>
      some (q14.1, q14.2)
    ) else (
      (rd (M1.1 15) 99 1).bind fun v6 =>
      if v6 = (-1) then (
        (f_M_refused_0 6 M1).bind fun q13 =>
        some (q13.1, q13.2)
      ) else (
        if p0 = 0 then (
          (rd (M1.1 15) 99 1).bind fun v11 =>
          (f_M_good_0 v11 M1).bind fun q12 =>
          some (q12.1, q12.2)
        ) else (
          (rd (M1.1 15) 99 2).bind fun v9 =>
          (f_M_good_0 v9 M1).bind fun q10 =>
          some (q10.1, q10.2)
        )
      )
    )
  )
noncomputable def blp_M_common_4 (rc4 : Int32 → Int32 → Option Int32) (x2 : Int32) (x3 : Int32) : Option Int32 :=
  if x3 = 0 then (
    some x2
  ) else (
    (rmI x2 x3).bind fun v2 =>
    rc4 x3 v2
  )
noncomputable def lp_M_common_4  : Nat → Int32 → Int32 → Option Int32
  | 0, _, _ => none
  | n + 1, x2, x3 => blp_M_common_4  (lp_M_common_4  n) x2 x3
noncomputable def f_M_common (p0 : Int32) (p1 : Int32) : Option Int32 :=
  lp_M_common_4 FW p0 p1
noncomputable def f_M_rate_0 (p0 : Int32) (M : Mm) : Option (Int32 × Mm) :=
  (some (u1 M 0 0 0)).bind fun M1 =>
  if (M1.1 0 28) = 0 then (
    (f_M_refused_0 1 M1).bind fun q3 =>
    some (q3.1, q3.2)
  ) else (
    (f_M_in p0 0 1).bind fun v4 =>
    if v4 = 0 then (
      (f_M_refused_0 1 M1).bind fun q18 =>
      some (q18.1, q18.2)
    ) else (
      (rd (M1.1 15) 99 0).bind fun v6 =>
      if v6 = 0 then (
        (f_M_refused_0 5 M1).bind fun q17 =>
        some (q17.1, q17.2)
      ) else (
        (f_M_delivered_0_15 M1).bind fun v8 =>
        (rd (M1.1 15) 99 0).bind fun v9 =>
        (f_M_common v8 v9).bind fun v10 =>
        if p0 = 0 then (
          (dvI v8 v10).bind fun v15 =>
          (f_M_good_0 v15 M1).bind fun q16 =>
          some (q16.1, q16.2)
        ) else (
          (rd (M1.1 15) 99 0).bind fun v12 =>
          (dvI v12 v10).bind fun v13 =>
          (f_M_good_0 v13 M1).bind fun q14 =>
          some (q14.1, q14.2)
        )
      )
    )
  )
noncomputable def j_M_busiest_0_55 (rc22 : Int32 → Int32 → Mm → Option (Int32 × Mm)) (x1 : Int32) (x2 : Int32) (M : Mm) : Option (Int32 × Mm) :=
  rc22 x1 (x2 + 1) M
noncomputable def blp_M_busiest_0_22 (rc22 : Int32 → Int32 → Mm → Option (Int32 × Mm)) (x1 : Int32) (x2 : Int32) (M : Mm) : Option (Int32 × Mm) :=
  if (M.1 0 23) ≤ x2 then (
    (f_M_good_0 x1 M).bind fun q2 =>
    some (q2.1, q2.2)
  ) else (
    (f_M_of x2 5).bind fun v3 =>
    (rd (M.1 15) 99 v3).bind fun v4 =>
    (f_M_of x1 5).bind fun v5 =>
    (rd (M.1 15) 99 v5).bind fun v6 =>
    if v4 ≤ v6 then (
      j_M_busiest_0_55 rc22 x1 x2 M
    ) else (
      j_M_busiest_0_55 rc22 x2 x2 M
    )
  )
noncomputable def lp_M_busiest_0_22  : Nat → Int32 → Int32 → Mm → Option (Int32 × Mm)
  | 0, _, _, _ => none
  | n + 1, x1, x2, M => blp_M_busiest_0_22  (lp_M_busiest_0_22  n) x1 x2 M
noncomputable def f_M_busiest_0  (M : Mm) : Option (Int32 × Mm) :=
  (some (u1 M 0 0 0)).bind fun M1 =>
  if (M1.1 0 28) = 0 then (
    (f_M_refused_0 1 M1).bind fun q3 =>
    some (q3.1, q3.2)
  ) else (
    lp_M_busiest_0_22 FW 0 1 M1
  )
noncomputable def f_M_peak_0 (p0 : Int32) (M : Mm) : Option (Int32 × Mm) :=
  (some (u1 M 0 0 0)).bind fun M1 =>
  (f_M_isBench_0 p0 M1).bind fun v2 =>
  if v2 = 0 then (
    (f_M_refused_0 1 M1).bind fun q4 =>
    some (q4.1, q4.2)
  ) else (
    (rd (M1.1 15) 99 (90 + p0)).bind fun v5 =>
    (f_M_good_0 v5 M1).bind fun q6 =>
    some (q6.1, q6.2)
  )
noncomputable def f_M_firstOf_0 (p0 : Int32) (M : Mm) : Option (Int32 × Mm) :=
  (some (u1 M 0 0 0)).bind fun M1 =>
  (f_M_isKind_0 p0 M1).bind fun v2 =>
  if v2 = 0 then (
    (f_M_refused_0 1 M1).bind fun q4 =>
    some (q4.1, q4.2)
  ) else (
    (rd (M1.1 15) 99 (96 + p0)).bind fun v5 =>
    (f_M_good_0 v5 M1).bind fun q6 =>
    some (q6.1, q6.2)
  )
noncomputable def f_M_isTerm (p0 : Int32) : Option Int32 :=
  (f_M_in p0 1 2000).bind fun v1 =>
  (zr v1).bind fun z2 =>
  some z2
noncomputable def blp_M_papers_0_2 (rc2 : Int32 → Mm → Option Mm) (x1 : Int32) (M : Mm) : Option Mm :=
  if 37 ≤ x1 then (
    some M
  ) else (
    (rd (M.1 10) 37 x1).bind fun v2 =>
    (wr M 12 37 x1 v2).bind fun M3 =>
    rc2 (x1 + 1) M3
  )
noncomputable def lp_M_papers_0_2  : Nat → Int32 → Mm → Option Mm
  | 0, _, _ => none
  | n + 1, x1, M => blp_M_papers_0_2  (lp_M_papers_0_2  n) x1 M
noncomputable def f_M_papers_0  (M : Mm) : Option Mm :=
  lp_M_papers_0_2 FW 0 M
noncomputable def blp_M_begins_0_16_45 (rc45 : Int32 → Mm → Option Mm) (x2 : Int32) (M : Mm) : Option Mm :=
  if 6 ≤ x2 then (
    some M
  ) else (
    (f_M_of x2 1).bind fun v2 =>
    (wr M 16 99 v2 (-2)).bind fun M3 =>
    (f_M_of x2 3).bind fun v4 =>
    (wr M3 16 99 v4 (-2)).bind fun M5 =>
    rc45 (x2 + 1) M5
  )
noncomputable def lp_M_begins_0_16_45  : Nat → Int32 → Mm → Option Mm
  | 0, _, _ => none
  | n + 1, x2, M => blp_M_begins_0_16_45  (lp_M_begins_0_16_45  n) x2 M
noncomputable def j_M_begins_0_16_43   (M : Mm) : Option Mm :=
  lp_M_begins_0_16_45 FW 0 M
noncomputable def blp_M_begins_0_16_24 (rc24 : Int32 → Mm → Option Mm) (x2 : Int32) (M : Mm) : Option Mm :=
  if 3 ≤ x2 then (
    j_M_begins_0_16_43 M
  ) else (
    (wr M 16 99 (96 + x2) (-2)).bind fun M2 =>
    rc24 (x2 + 1) M2
  )
noncomputable def lp_M_begins_0_16_24  : Nat → Int32 → Mm → Option Mm
  | 0, _, _ => none
  | n + 1, x2, M => blp_M_begins_0_16_24  (lp_M_begins_0_16_24  n) x2 M
noncomputable def j_M_begins_0_16_18   (M : Mm) : Option Mm :=
  (wr M 16 99 1 (-1)).bind fun M1 =>
  lp_M_begins_0_16_24 FW 0 M1
noncomputable def blp_M_begins_0_16_2 (rc2 : Int32 → Mm → Option Mm) (x2 : Int32) (M : Mm) : Option Mm :=
  if 99 ≤ x2 then (
    j_M_begins_0_16_18 M
  ) else (
    (wr M 16 99 x2 0).bind fun M2 =>
    rc2 (x2 + 1) M2
  )
noncomputable def lp_M_begins_0_16_2  : Nat → Int32 → Mm → Option Mm
  | 0, _, _ => none
  | n + 1, x2, M => blp_M_begins_0_16_2  (lp_M_begins_0_16_2  n) x2 M
noncomputable def f_M_begins_0_16  (M : Mm) : Option Mm :=
  lp_M_begins_0_16_2 FW 0 M
noncomputable def blp_M_delivered_0_16_4 (rc4 : Int32 → Int32 → Mm → Option Int32) (x2 : Int32) (x3 : Int32) (M : Mm) : Option Int32 :=
  if (M.1 0 22) ≤ x3 then (
    some x2
  ) else (
    (f_M_ofKind x3 1).bind fun v2 =>
    (rd (M.1 16) 99 v2).bind fun v3 =>
    rc4 (x2 + v3) (x3 + 1) M
  )
noncomputable def lp_M_delivered_0_16_4  : Nat → Int32 → Int32 → Mm → Option Int32
  | 0, _, _, _ => none
  | n + 1, x2, x3, M => blp_M_delivered_0_16_4  (lp_M_delivered_0_16_4  n) x2 x3 M
noncomputable def f_M_delivered_0_16  (M : Mm) : Option Int32 :=
  lp_M_delivered_0_16_4 FW 0 0 M
noncomputable def j_M_peaks_0_16_31  (x2 : Int32) (x3 : Int32) (M : Mm) : Option Mm :=
  (rd (M.1 16) 99 (90 + x2)).bind fun v1 =>
  if x3 ≤ v1 then (
    some M
  ) else (
    (wr M 16 99 (90 + x2) x3).bind fun M3 =>
    some M3
  )
noncomputable def blp_M_peaks_0_16_5 (rc5 : Int32 → Int32 → Int32 → Mm → Option Mm) (x2 : Int32) (x3 : Int32) (x4 : Int32) (M : Mm) : Option Mm :=
  if (M.1 0 22) ≤ x4 then (
    j_M_peaks_0_16_31 x2 x3 M
  ) else (
    (f_M_store x2 x4).bind fun v2 =>
    (rd (M.1 16) 99 v2).bind fun v3 =>
    rc5 x2 (x3 + v3) (x4 + 1) M
  )
noncomputable def lp_M_peaks_0_16_5  : Nat → Int32 → Int32 → Int32 → Mm → Option Mm
  | 0, _, _, _, _ => none
  | n + 1, x2, x3, x4, M => blp_M_peaks_0_16_5  (lp_M_peaks_0_16_5  n) x2 x3 x4 M
noncomputable def f_M_peaks_0_16 (p0 : Int32) (M : Mm) : Option Mm :=
  lp_M_peaks_0_16_5 FW p0 0 0 M
noncomputable def f_M_atWork_0_16 (p0 : Int32) (p1 : Int32) (M : Mm) : Option Int32 :=
  (f_M_of p0 0).bind fun v1 =>
  (rd (M.1 16) 99 v1).bind fun v2 =>
  if v2 = 1 then (
    (f_M_of p0 1).bind fun v4 =>
    (rd (M.1 16) 99 v4).bind fun v5 =>
    if v5 = p1 then (
      some 1
    ) else (
      some 0
    )
  ) else (
    some 0
  )
noncomputable def f_M_free_0_16_12 (p0 : Int32) (p1 : Int32) (M : Mm) : Option Int32 :=
  (rd (M.1 12) 37 ((3 * p0) + p1)).bind fun v1 =>
  (f_M_store p0 p1).bind fun v2 =>
  (rd (M.1 16) 99 v2).bind fun v3 =>
  (f_M_atWork_0_16 p0 p1 M).bind fun v4 =>
  if ((v1 - v3) - v4) ≤ 0 then (
    some 0
  ) else (
    some ((v1 - v3) - v4)
  )
noncomputable def j_M_tallies_0_16_12_137  (x3 : Int32) (x4 : Int32) (M : Mm) : Option Mm :=
  (wr M 16 99 1 x4).bind fun M1 =>
  (wr M1 16 99 2 x3).bind fun M2 =>
  some M2
noncomputable def j_M_tallies_0_16_12_96  (x3 : Int32) (x4 : Int32) (x6 : Int32) (t0 : Int32) (t1 : Int32) (M : Mm) : Option Mm :=
  (f_M_of t1 t0).bind fun v1 =>
  (rd (M.1 16) 99 v1).bind fun v2 =>
  (wr M 16 99 v1 (v2 + 1)).bind fun M3 =>
  if x6 = 0 then (
    some M3
  ) else (
    (f_M_of x3 3).bind fun v5 =>
    (rd (M3.1 16) 99 v5).bind fun v6 =>
    if v6 = (-2) then (
      some M3
    ) else (
      (rd (M3.1 16) 99 1).bind fun v8 =>
      if v8 = (-1) then (
        j_M_tallies_0_16_12_137 x3 x4 M3
      ) else (
        (rd (M3.1 16) 99 1).bind fun v10 =>
        if v10 = x4 then (
          j_M_tallies_0_16_12_137 x3 x4 M3
        ) else (
          some M3
        )
      )
    )
  )
noncomputable def j_M_tallies_0_16_12_82  (x3 : Int32) (x4 : Int32) (x6 : Int32) (M : Mm) : Option Mm :=
  if x6 = 0 then (
    j_M_tallies_0_16_12_96 x3 x4 x6 8 x3 M
  ) else (
    j_M_tallies_0_16_12_96 x3 x4 x6 7 x3 M
  )
noncomputable def j_M_tallies_0_16_12_74 (rc43 : Int32 → Int32 → Int32 → Int32 → Mm → Option Mm) (x3 : Int32) (x4 : Int32) (x7 : Int32) (t0 : Int32) (M : Mm) : Option Mm :=
  rc43 x3 x4 t0 (x7 + 1) M
noncomputable def j_M_tallies_0_16_12_69 (rc43 : Int32 → Int32 → Int32 → Int32 → Mm → Option Mm) (x3 : Int32) (x4 : Int32) (x7 : Int32) (M : Mm) : Option Mm :=
  j_M_tallies_0_16_12_74 rc43 x3 x4 x7 1 M
noncomputable def blp_M_tallies_0_16_12_43 (rc43 : Int32 → Int32 → Int32 → Int32 → Mm → Option Mm) (x3 : Int32) (x4 : Int32) (x6 : Int32) (x7 : Int32) (M : Mm) : Option Mm :=
  if (M.1 0 22) ≤ x7 then (
    j_M_tallies_0_16_12_82 x3 x4 x6 M
  ) else (
    if x6 = 0 then (
      (f_M_free_0_16_12 x3 x7 M).bind fun v3 =>
      if v3 ≤ 0 then (
        j_M_tallies_0_16_12_74 rc43 x3 x4 x7 0 M
      ) else (
        j_M_tallies_0_16_12_69 rc43 x3 x4 x7 M
      )
    ) else (
      j_M_tallies_0_16_12_69 rc43 x3 x4 x7 M
    )
  )
noncomputable def lp_M_tallies_0_16_12_43  : Nat → Int32 → Int32 → Int32 → Int32 → Mm → Option Mm
  | 0, _, _, _, _, _ => none
  | n + 1, x3, x4, x6, x7, M => blp_M_tallies_0_16_12_43  (lp_M_tallies_0_16_12_43  n) x3 x4 x6 x7 M
noncomputable def f_M_tallies_0_16_12 (p0 : Int32) (p1 : Int32) (M : Mm) : Option Mm :=
  (f_M_of p0 0).bind fun v1 =>
  (rd (M.1 16) 99 v1).bind fun v2 =>
  if v2 ≤ 0 then (
    lp_M_tallies_0_16_12_43 FW p0 p1 0 0 M
  ) else (
    if v2 = 1 then (
      (f_M_of p0 5).bind fun v8 =>
      (rd (M.1 16) 99 v8).bind fun v9 =>
      (wr M 16 99 v8 (v9 + 1)).bind fun M10 =>
      some M10
    ) else (
      (f_M_of p0 6).bind fun v5 =>
      (rd (M.1 16) 99 v5).bind fun v6 =>
      (wr M 16 99 v5 (v6 + 1)).bind fun M7 =>
      some M7
    )
  )
noncomputable def f_M_can_0_16_12 (p0 : Int32) (p1 : Int32) (M : Mm) : Option Int32 :=
  (f_M_free_0_16_12 p0 p1 M).bind fun v1 =>
  if v1 ≤ 0 then (
    some 0
  ) else (
    if p0 = 0 then (
      some 1
    ) else (
      (f_M_store (p0 - 1) p1).bind fun v4 =>
      (rd (M.1 16) 99 v4).bind fun v5 =>
      if v5 ≤ 0 then (
        some 0
      ) else (
        some 1
      )
    )
  )
noncomputable def j_M_chosen_0_16_12_112 (rc6 : Int32 → Int32 → Int32 → Mm → Option Int32) (x3 : Int32) (x4 : Int32) (x5 : Int32) (M : Mm) : Option Int32 :=
  rc6 x3 x4 (x5 + 1) M
noncomputable def j_M_chosen_0_16_12_108 (rc6 : Int32 → Int32 → Int32 → Mm → Option Int32) (x3 : Int32) (x5 : Int32) (x7 : Int32) (M : Mm) : Option Int32 :=
  j_M_chosen_0_16_12_112 rc6 x3 x7 x5 M
noncomputable def j_M_chosen_0_16_12_56 (rc6 : Int32 → Int32 → Int32 → Mm → Option Int32) (x3 : Int32) (x4 : Int32) (x5 : Int32) (t0 : Int32) (M : Mm) : Option Int32 :=
  (f_M_can_0_16_12 x3 t0 M).bind fun v1 =>
  if v1 = 0 then (
    j_M_chosen_0_16_12_112 rc6 x3 x4 x5 M
  ) else (
    if x4 = (-1) then (
      j_M_chosen_0_16_12_108 rc6 x3 x5 t0 M
    ) else (
      (rd (M.1 12) 37 36).bind fun v4 =>
      if v4 = 1 then (
        (f_M_free_0_16_12 x3 t0 M).bind fun v6 =>
        (f_M_free_0_16_12 x3 x4 M).bind fun v7 =>
        if v6 ≤ v7 then (
          j_M_chosen_0_16_12_112 rc6 x3 x4 x5 M
        ) else (
          j_M_chosen_0_16_12_108 rc6 x3 x5 t0 M
        )
      ) else (
        j_M_chosen_0_16_12_112 rc6 x3 x4 x5 M
      )
    )
  )
noncomputable def j_M_chosen_0_16_12_52 (rc6 : Int32 → Int32 → Int32 → Mm → Option Int32) (x3 : Int32) (x4 : Int32) (x5 : Int32) (M : Mm) : Option Int32 :=
  j_M_chosen_0_16_12_56 rc6 x3 x4 x5 (x5 - 1) M
noncomputable def blp_M_chosen_0_16_12_6 (rc6 : Int32 → Int32 → Int32 → Mm → Option Int32) (x3 : Int32) (x4 : Int32) (x5 : Int32) (M : Mm) : Option Int32 :=
  if (M.1 0 22) < x5 then (
    some x4
  ) else (
    (f_M_of x3 3).bind fun v2 =>
    (rd (M.1 16) 99 v2).bind fun v3 =>
    (rd (M.1 12) 37 36).bind fun v4 =>
    if v4 = 2 then (
      if v3 = (-2) then (
        j_M_chosen_0_16_12_52 rc6 x3 x4 x5 M
      ) else (
        (rmI (v3 + x5) (M.1 0 22)).bind fun v7 =>
        j_M_chosen_0_16_12_56 rc6 x3 x4 x5 v7 M
      )
    ) else (
      j_M_chosen_0_16_12_52 rc6 x3 x4 x5 M
    )
  )
noncomputable def lp_M_chosen_0_16_12_6  : Nat → Int32 → Int32 → Int32 → Mm → Option Int32
  | 0, _, _, _, _ => none
  | n + 1, x3, x4, x5, M => blp_M_chosen_0_16_12_6  (lp_M_chosen_0_16_12_6  n) x3 x4 x5 M
noncomputable def f_M_chosen_0_16_12 (p0 : Int32) (M : Mm) : Option Int32 :=
  lp_M_chosen_0_16_12_6 FW p0 (-1) 1 M
noncomputable def j_M_starts_0_16_12_54  (x3 : Int32) (x4 : Int32) (x5 : Int32) (x6 : Int32) (M : Mm) : Option Mm :=
  (f_M_of x3 0).bind fun v1 =>
  (wr M 16 99 v1 1).bind fun M2 =>
  (f_M_of x3 1).bind fun v3 =>
  (wr M2 16 99 v3 x5).bind fun M4 =>
  (f_M_of x3 3).bind fun v5 =>
  (wr M4 16 99 v5 x5).bind fun M6 =>
  (f_M_of x3 2).bind fun v7 =>
  (rd (M6.1 12) 37 ((18 + (3 * x3)) + x5)).bind fun v8 =>
  if x6 = (-2) then (
    (wr M6 16 99 v7 ((x4 + v8) + 0)).bind fun M10 =>
    some M10
  ) else (
    if x6 = x5 then (
      (wr M6 16 99 v7 ((x4 + v8) + 0)).bind fun M12 =>
      some M12
    ) else (
      (rd (M6.1 4) 12 x3).bind fun v13 =>
      (wr M6 16 99 v7 ((x4 + v8) + v13)).bind fun M14 =>
      some M14
    )
  )
noncomputable def f_M_starts_0_16_12 (p0 : Int32) (p1 : Int32) (M : Mm) : Option Mm :=
  (f_M_of p0 0).bind fun v1 =>
  (rd (M.1 16) 99 v1).bind fun v2 =>
  if v2 = 0 then (
    (f_M_chosen_0_16_12 p0 M).bind fun v4 =>
    if v4 = (-1) then (
      some M
    ) else (
      (f_M_of p0 3).bind fun v6 =>
      (rd (M.1 16) 99 v6).bind fun v7 =>
      if p0 ≤ 0 then (
        j_M_starts_0_16_12_54 p0 p1 v4 v7 M
      ) else (
        (f_M_store (p0 - 1) v4).bind fun v9 =>
        (rd (M.1 16) 99 v9).bind fun v10 =>
        (wr M 16 99 v9 (v10 - 1)).bind fun M11 =>
        j_M_starts_0_16_12_54 p0 p1 v4 v7 M11
      )
    )
  ) else (
    some M
  )
noncomputable def j_M_serves_0_16_155 (rc28 : Int32 → Int32 → Int32 → Mm → Option Mm) (x2 : Int32) (x3 : Int32) (x4 : Int32) (M : Mm) : Option Mm :=
  (rd (M.1 16) 99 x4).bind fun v1 =>
  (wr M 16 99 x4 (v1 - 1)).bind fun M2 =>
  rc28 x2 x3 x4 M2
noncomputable def j_M_serves_0_16_96 (rc28 : Int32 → Int32 → Int32 → Mm → Option Mm) (x2 : Int32) (x3 : Int32) (x4 : Int32) (M : Mm) : Option Mm :=
  (f_M_ofKind x2 4).bind fun v1 =>
  (rd (M.1 16) 99 v1).bind fun v2 =>
  (wr M 16 99 v1 (v2 + 1)).bind fun M3 =>
  (f_M_ofKind x2 1).bind fun v4 =>
  (rd (M3.1 16) 99 v4).bind fun v5 =>
  (wr M3 16 99 v4 (v5 + 1)).bind fun M6 =>
  (f_M_ofKind x2 2).bind fun v7 =>
  (rd (M6.1 16) 99 v7).bind fun v8 =>
  (f_M_ofKind x2 3).bind fun v9 =>
  (rd (M6.1 16) 99 v9).bind fun v10 =>
  (wr M6 16 99 v7 (v8 + (x3 - v10))).bind fun M11 =>
  (rd (M11.1 16) 99 (96 + x2)).bind fun v12 =>
  if v12 = (-2) then (
    (wr M11 16 99 (96 + x2) x3).bind fun M14 =>
    j_M_serves_0_16_155 rc28 x2 x3 x4 M14
  ) else (
    j_M_serves_0_16_155 rc28 x2 x3 x4 M11
  )
noncomputable def blp_M_serves_0_16_52 (rc28 : Int32 → Int32 → Int32 → Mm → Option Mm) (rc52 : Int32 → Int32 → Int32 → Mm → Option Mm) (x2 : Int32) (x3 : Int32) (x4 : Int32) (M : Mm) : Option Mm :=
  (f_M_ofKind x2 3).bind fun v1 =>
  (rd (M.1 16) 99 v1).bind fun v2 =>
  (f_M_comeIn_0 x2 v2 M).bind fun v3 =>
  (f_M_ofKind x2 4).bind fun v4 =>
  (rd (M.1 16) 99 v4).bind fun v5 =>
  if v3 = v5 then (
    (f_M_ofKind x2 3).bind fun v7 =>
    (rd (M.1 16) 99 v7).bind fun v8 =>
    (wr M 16 99 v7 (v8 + 1)).bind fun M9 =>
    (f_M_ofKind x2 4).bind fun v10 =>
    (wr M9 16 99 v10 0).bind fun M11 =>
    rc52 x2 x3 x4 M11
  ) else (
    j_M_serves_0_16_96 rc28 x2 x3 x4 M
  )
noncomputable def lp_M_serves_0_16_52 (rc28 : Int32 → Int32 → Int32 → Mm → Option Mm) : Nat → Int32 → Int32 → Int32 → Mm → Option Mm
  | 0, _, _, _, _ => none
  | n + 1, x2, x3, x4, M => blp_M_serves_0_16_52 rc28 (lp_M_serves_0_16_52 rc28 n) x2 x3 x4 M
noncomputable def blp_M_serves_0_16_28 (rc28 : Int32 → Int32 → Int32 → Mm → Option Mm) (x2 : Int32) (x3 : Int32) (x4 : Int32) (M : Mm) : Option Mm :=
  (f_M_ofKind x2 0).bind fun v1 =>
  (rd (M.1 16) 99 v1).bind fun v2 =>
  (f_M_ofKind x2 1).bind fun v3 =>
  (rd (M.1 16) 99 v3).bind fun v4 =>
  if v2 ≤ v4 then (
    some M
  ) else (
    (rd (M.1 16) 99 x4).bind fun v6 =>
    if v6 ≤ 0 then (
      some M
    ) else (
      lp_M_serves_0_16_52 rc28 FW x2 x3 x4 M
    )
  )
noncomputable def lp_M_serves_0_16_28  : Nat → Int32 → Int32 → Int32 → Mm → Option Mm
  | 0, _, _, _, _ => none
  | n + 1, x2, x3, x4, M => blp_M_serves_0_16_28  (lp_M_serves_0_16_28  n) x2 x3 x4 M
noncomputable def f_M_serves_0_16 (p0 : Int32) (p1 : Int32) (M : Mm) : Option Mm :=
  (f_M_ofKind p0 0).bind fun v1 =>
  (rd (M.1 16) 99 v1).bind fun v2 =>
  (f_M_comeIn_0 p0 p1 M).bind fun v3 =>
  (wr M 16 99 v1 (v2 + v3)).bind fun M4 =>
  (f_M_store ((M4.1 0 23) - 1) p0).bind fun v5 =>
  lp_M_serves_0_16_28 FW p0 p1 v5 M4
noncomputable def j_M_ends_0_16_38  (x2 : Int32) (x3 : Int32) (t0 : Int32) (M : Mm) : Option Mm :=
  (f_M_of x2 0).bind fun v1 =>
  (wr M 16 99 v1 0).bind fun M2 =>
  if t0 = 0 then (
    some M2
  ) else (
    (f_M_of x2 1).bind fun v4 =>
    (rd (M2.1 16) 99 v4).bind fun v5 =>
    (f_M_store x2 v5).bind fun v6 =>
    (rd (M2.1 16) 99 v6).bind fun v7 =>
    (wr M2 16 99 v6 (v7 + 1)).bind fun M8 =>
    (f_M_of x2 1).bind fun v9 =>
    (wr M8 16 99 v9 (-2)).bind fun M10 =>
    (f_M_of x2 4).bind fun v11 =>
    (rd (M10.1 16) 99 v11).bind fun v12 =>
    (wr M10 16 99 v11 (v12 + 1)).bind fun M13 =>
    (rd (M13.1 6) 12 x2).bind fun v14 =>
    if v14 = 0 then (
      some M13
    ) else (
      (f_M_of x2 4).bind fun v16 =>
      (rd (M13.1 16) 99 v16).bind fun v17 =>
      (rd (M13.1 6) 12 x2).bind fun v18 =>
      (rmI v17 v18).bind fun v19 =>
      if v19 = 0 then (
        (f_M_of x2 0).bind fun v21 =>
        (wr M13 16 99 v21 2).bind fun M22 =>
        (f_M_of x2 2).bind fun v23 =>
        (rd (M22.1 5) 12 x2).bind fun v24 =>
        (wr M22 16 99 v23 (x3 + v24)).bind fun M25 =>
        some M25
      ) else (
        some M13
      )
    )
  )
noncomputable def f_M_ends_0_16 (p0 : Int32) (p1 : Int32) (M : Mm) : Option Mm :=
  (f_M_of p0 0).bind fun v1 =>
  (rd (M.1 16) 99 v1).bind fun v2 =>
  if v2 = 0 then (
    some M
  ) else (
    (f_M_of p0 2).bind fun v4 =>
    (rd (M.1 16) 99 v4).bind fun v5 =>
    if v5 = p1 then (
      (f_M_of p0 0).bind fun v7 =>
      (rd (M.1 16) 99 v7).bind fun v8 =>
      if v8 = 1 then (
        j_M_ends_0_16_38 p0 p1 1 M
      ) else (
        j_M_ends_0_16_38 p0 p1 0 M
      )
    ) else (
      some M
    )
  )
noncomputable def j_M_minute_0_16_12_136   (M : Mm) : Option Mm :=
  (rd (M.1 16) 99 0).bind fun v1 =>
  (wr M 16 99 0 (v1 + 1)).bind fun M2 =>
  some M2
noncomputable def blp_M_minute_0_16_12_114 (rc114 : Int32 → Mm → Option Mm) (x4 : Int32) (M : Mm) : Option Mm :=
  if (M.1 0 23) ≤ x4 then (
    j_M_minute_0_16_12_136 M
  ) else (
    (f_M_peaks_0_16 x4 M).bind fun M2 =>
    rc114 (x4 + 1) M2
  )
noncomputable def lp_M_minute_0_16_12_114  : Nat → Int32 → Mm → Option Mm
  | 0, _, _ => none
  | n + 1, x4, M => blp_M_minute_0_16_12_114  (lp_M_minute_0_16_12_114  n) x4 M
noncomputable def j_M_minute_0_16_12_111   (M : Mm) : Option Mm :=
  lp_M_minute_0_16_12_114 FW 0 M
noncomputable def blp_M_minute_0_16_12_87 (rc87 : Int32 → Int32 → Mm → Option Mm) (x3 : Int32) (x4 : Int32) (M : Mm) : Option Mm :=
  if (M.1 0 23) ≤ x4 then (
    j_M_minute_0_16_12_111 M
  ) else (
    (f_M_tallies_0_16_12 x4 x3 M).bind fun M2 =>
    rc87 x3 (x4 + 1) M2
  )
noncomputable def lp_M_minute_0_16_12_87  : Nat → Int32 → Int32 → Mm → Option Mm
  | 0, _, _, _ => none
  | n + 1, x3, x4, M => blp_M_minute_0_16_12_87  (lp_M_minute_0_16_12_87  n) x3 x4 M
noncomputable def j_M_minute_0_16_12_84  (x3 : Int32) (M : Mm) : Option Mm :=
  lp_M_minute_0_16_12_87 FW x3 0 M
noncomputable def blp_M_minute_0_16_12_64 (rc64 : Int32 → Int32 → Mm → Option Mm) (x3 : Int32) (x4 : Int32) (M : Mm) : Option Mm :=
  if x4 < 0 then (
    j_M_minute_0_16_12_84 x3 M
  ) else (
    (f_M_starts_0_16_12 x4 x3 M).bind fun M2 =>
    rc64 x3 (x4 + (-1)) M2
  )
noncomputable def lp_M_minute_0_16_12_64  : Nat → Int32 → Int32 → Mm → Option Mm
  | 0, _, _, _ => none
  | n + 1, x3, x4, M => blp_M_minute_0_16_12_64  (lp_M_minute_0_16_12_64  n) x3 x4 M
noncomputable def j_M_minute_0_16_12_56  (x3 : Int32) (M : Mm) : Option Mm :=
  lp_M_minute_0_16_12_64 FW x3 ((M.1 0 23) - 1) M
noncomputable def blp_M_minute_0_16_12_33 (rc33 : Int32 → Int32 → Mm → Option Mm) (x3 : Int32) (x4 : Int32) (M : Mm) : Option Mm :=
  if (M.1 0 22) ≤ x4 then (
    j_M_minute_0_16_12_56 x3 M
  ) else (
    (f_M_serves_0_16 x4 x3 M).bind fun M2 =>
    rc33 x3 (x4 + 1) M2
  )
noncomputable def lp_M_minute_0_16_12_33  : Nat → Int32 → Int32 → Mm → Option Mm
  | 0, _, _, _ => none
  | n + 1, x3, x4, M => blp_M_minute_0_16_12_33  (lp_M_minute_0_16_12_33  n) x3 x4 M
noncomputable def j_M_minute_0_16_12_30  (x3 : Int32) (M : Mm) : Option Mm :=
  lp_M_minute_0_16_12_33 FW x3 0 M
noncomputable def blp_M_minute_0_16_12_7 (rc7 : Int32 → Int32 → Mm → Option Mm) (x3 : Int32) (x4 : Int32) (M : Mm) : Option Mm :=
  if (M.1 0 23) ≤ x4 then (
    j_M_minute_0_16_12_30 x3 M
  ) else (
    (f_M_ends_0_16 x4 x3 M).bind fun M2 =>
    rc7 x3 (x4 + 1) M2
  )
noncomputable def lp_M_minute_0_16_12_7  : Nat → Int32 → Int32 → Mm → Option Mm
  | 0, _, _, _ => none
  | n + 1, x3, x4, M => blp_M_minute_0_16_12_7  (lp_M_minute_0_16_12_7  n) x3 x4 M
noncomputable def f_M_minute_0_16_12  (M : Mm) : Option Mm :=
  (rd (M.1 16) 99 0).bind fun v1 =>
  lp_M_minute_0_16_12_7 FW v1 0 M
noncomputable def blp_M_yieldOf_0_10 (rc10 : Int32 → Int32 → Mm → Option (Int32 × Mm)) (x1 : Int32) (x2 : Int32) (M : Mm) : Option (Int32 × Mm) :=
  if x1 ≤ x2 then (
    (f_M_delivered_0_16 M).bind fun v2 =>
    some (v2, M)
  ) else (
    (f_M_minute_0_16_12 M).bind fun M3 =>
    rc10 x1 (x2 + 1) M3
  )
noncomputable def lp_M_yieldOf_0_10  : Nat → Int32 → Int32 → Mm → Option (Int32 × Mm)
  | 0, _, _, _ => none
  | n + 1, x1, x2, M => blp_M_yieldOf_0_10  (lp_M_yieldOf_0_10  n) x1 x2 M
noncomputable def f_M_yieldOf_0 (p0 : Int32) (M : Mm) : Option (Int32 × Mm) :=
  (f_M_begins_0_16 M).bind fun M1 =>
  lp_M_yieldOf_0_10 FW p0 0 M1
noncomputable def f_M_yieldNow_0 (p0 : Int32) (M : Mm) : Option (Int32 × Mm) :=
  (f_M_papers_0 M).bind fun M1 =>
  (f_M_yieldOf_0 p0 M1).bind fun q2 =>
  some (q2.1, q2.2)
noncomputable def f_M_yields_0 (p0 : Int32) (M : Mm) : Option (Int32 × Mm) :=
  (some (u1 M 0 0 0)).bind fun M1 =>
  if (M1.1 0 28) = 0 then (
    (f_M_refused_0 1 M1).bind fun q8 =>
    some (q8.1, q8.2)
  ) else (
    (f_M_isTerm p0).bind fun v3 =>
    if v3 = 0 then (
      (f_M_refused_0 2 M1).bind fun q5 =>
      some (q5.1, q5.2)
    ) else (
      (f_M_yieldNow_0 p0 M1).bind fun q6 =>
      (f_M_good_0 q6.1 q6.2).bind fun q7 =>
      some (q7.1, q7.2)
    )
  )
noncomputable def f_M_would_0 (p0 : Int32) (p1 : Int32) (p2 : Int32) (p3 : Int32) (M : Mm) : Option (Int32 × Mm) :=
  (some (u1 M 0 0 0)).bind fun M1 =>
  (f_M_isBench_0 p0 M1).bind fun v2 =>
  if v2 = 0 then (
    (f_M_refused_0 1 M1).bind fun q4 =>
    some (q4.1, q4.2)
  ) else (
    (f_M_isKind_0 p1 M1).bind fun v5 =>
    if v5 = 0 then (
      (f_M_refused_0 1 M1).bind fun q17 =>
      some (q17.1, q17.2)
    ) else (
      (f_M_in p2 0 9).bind fun v7 =>
      if v7 = 0 then (
        (f_M_refused_0 2 M1).bind fun q9 =>
        some (q9.1, q9.2)
      ) else (
        (f_M_isTerm p3).bind fun v10 =>
        if v10 = 0 then (
          (f_M_refused_0 2 M1).bind fun q16 =>
          some (q16.1, q16.2)
        ) else (
          (f_M_papers_0 M1).bind fun M12 =>
          (wr M12 12 37 ((3 * p0) + p1) p2).bind fun M13 =>
          (f_M_yieldOf_0 p3 M13).bind fun q14 =>
          (f_M_good_0 q14.1 q14.2).bind fun q15 =>
          some (q15.1, q15.2)
        )
      )
    )
  )
noncomputable def j_M_fewest_0_78 (rc48 : Int32 → Int32 → Int32 → Mm → Option (Int32 × Mm)) (x1 : Int32) (x2 : Int32) (x3 : Int32) (M : Mm) : Option (Int32 × Mm) :=
  (f_M_yieldOf_0 x2 M).bind fun q1 =>
  if q1.1 < x1 then (
    rc48 x1 x2 (x3 + 1) q1.2
  ) else (
    (f_M_good_0 x3 q1.2).bind fun q3 =>
    some (q3.1, q3.2)
  )
noncomputable def blp_M_fewest_0_57 (rc48 : Int32 → Int32 → Int32 → Mm → Option (Int32 × Mm)) (rc57 : Int32 → Int32 → Int32 → Int32 → Mm → Option (Int32 × Mm)) (x1 : Int32) (x2 : Int32) (x3 : Int32) (x4 : Int32) (M : Mm) : Option (Int32 × Mm) :=
  if 18 ≤ x4 then (
    j_M_fewest_0_78 rc48 x1 x2 x3 M
  ) else (
    (wr M 12 37 x4 x3).bind fun M2 =>
    rc57 x1 x2 x3 (x4 + 1) M2
  )
noncomputable def lp_M_fewest_0_57 (rc48 : Int32 → Int32 → Int32 → Mm → Option (Int32 × Mm)) : Nat → Int32 → Int32 → Int32 → Int32 → Mm → Option (Int32 × Mm)
  | 0, _, _, _, _, _ => none
  | n + 1, x1, x2, x3, x4, M => blp_M_fewest_0_57 rc48 (lp_M_fewest_0_57 rc48 n) x1 x2 x3 x4 M
noncomputable def blp_M_fewest_0_48 (rc48 : Int32 → Int32 → Int32 → Mm → Option (Int32 × Mm)) (x1 : Int32) (x2 : Int32) (x3 : Int32) (M : Mm) : Option (Int32 × Mm) :=
  if 9 < x3 then (
    (f_M_good_0 (-2) M).bind fun q2 =>
    some (q2.1, q2.2)
  ) else (
    lp_M_fewest_0_57 rc48 FW x1 x2 x3 0 M
  )
noncomputable def lp_M_fewest_0_48  : Nat → Int32 → Int32 → Int32 → Mm → Option (Int32 × Mm)
  | 0, _, _, _, _ => none
  | n + 1, x1, x2, x3, M => blp_M_fewest_0_48  (lp_M_fewest_0_48  n) x1 x2 x3 M
noncomputable def f_M_fewest_0 (p0 : Int32) (p1 : Int32) (M : Mm) : Option (Int32 × Mm) :=
  (some (u1 M 0 0 0)).bind fun M1 =>
  if (M1.1 0 28) = 0 then (
    (f_M_refused_0 1 M1).bind fun q10 =>
    some (q10.1, q10.2)
  ) else (
    (f_M_in p0 0 9999).bind fun v3 =>
    if v3 = 0 then (
      (f_M_refused_0 2 M1).bind fun q5 =>
      some (q5.1, q5.2)
    ) else (
      (f_M_isTerm p1).bind fun v6 =>
      if v6 = 0 then (
        (f_M_refused_0 2 M1).bind fun q9 =>
        some (q9.1, q9.2)
      ) else (
        (f_M_papers_0 M1).bind fun M8 =>
        lp_M_fewest_0_48 FW p0 p1 1 M8
      )
    )
  )
noncomputable def j_M_takesOut_0_121 (rc8 : Int32 → Int32 → Int32 → Mm → Option Mm) (x1 : Int32) (x2 : Int32) (x3 : Int32) (M : Mm) : Option Mm :=
  rc8 x1 x2 x3 M
noncomputable def j_M_takesOut_0_115 (rc17 : Int32 → Int32 → Int32 → Int32 → Mm → Option Mm) (x1 : Int32) (x2 : Int32) (x3 : Int32) (x4 : Int32) (M : Mm) : Option Mm :=
  rc17 x1 x2 x3 (x4 + 1) M
noncomputable def j_M_takesOut_0_109 (rc29 : Int32 → Int32 → Int32 → Int32 → Int32 → Mm → Option Mm) (x1 : Int32) (x2 : Int32) (x3 : Int32) (x4 : Int32) (x5 : Int32) (M : Mm) : Option Mm :=
  rc29 x1 x2 x3 x4 (x5 + 1) M
noncomputable def blp_M_takesOut_0_29 (rc17 : Int32 → Int32 → Int32 → Int32 → Mm → Option Mm) (rc29 : Int32 → Int32 → Int32 → Int32 → Int32 → Mm → Option Mm) (x1 : Int32) (x2 : Int32) (x3 : Int32) (x4 : Int32) (x5 : Int32) (M : Mm) : Option Mm :=
  if (M.1 0 22) ≤ x5 then (
    j_M_takesOut_0_115 rc17 x1 x2 x3 x4 M
  ) else (
    (rd (M.1 12) 37 ((3 * x4) + x5)).bind fun v2 =>
    if v2 = 0 then (
      j_M_takesOut_0_109 rc29 x1 x2 x3 x4 x5 M
    ) else (
      (rd (M.1 12) 37 ((3 * x4) + x5)).bind fun v4 =>
      (wr M 12 37 ((3 * x4) + x5) (v4 - 1)).bind fun M5 =>
      (f_M_yieldOf_0 x1 M5).bind fun q6 =>
      if x2 ≤ q6.1 then (
        j_M_takesOut_0_109 rc29 x1 q6.1 1 x4 x5 q6.2
      ) else (
        (rd (q6.2.1 12) 37 ((3 * x4) + x5)).bind fun v8 =>
        (wr q6.2 12 37 ((3 * x4) + x5) (v8 + 1)).bind fun M9 =>
        j_M_takesOut_0_109 rc29 x1 x2 x3 x4 x5 M9
      )
    )
  )
noncomputable def lp_M_takesOut_0_29 (rc17 : Int32 → Int32 → Int32 → Int32 → Mm → Option Mm) : Nat → Int32 → Int32 → Int32 → Int32 → Int32 → Mm → Option Mm
  | 0, _, _, _, _, _, _ => none
  | n + 1, x1, x2, x3, x4, x5, M => blp_M_takesOut_0_29 rc17 (lp_M_takesOut_0_29 rc17 n) x1 x2 x3 x4 x5 M
noncomputable def blp_M_takesOut_0_17 (rc8 : Int32 → Int32 → Int32 → Mm → Option Mm) (rc17 : Int32 → Int32 → Int32 → Int32 → Mm → Option Mm) (x1 : Int32) (x2 : Int32) (x3 : Int32) (x4 : Int32) (M : Mm) : Option Mm :=
  if (M.1 0 23) ≤ x4 then (
    j_M_takesOut_0_121 rc8 x1 x2 x3 M
  ) else (
    lp_M_takesOut_0_29 rc17 FW x1 x2 x3 x4 0 M
  )
noncomputable def lp_M_takesOut_0_17 (rc8 : Int32 → Int32 → Int32 → Mm → Option Mm) : Nat → Int32 → Int32 → Int32 → Int32 → Mm → Option Mm
  | 0, _, _, _, _, _ => none
  | n + 1, x1, x2, x3, x4, M => blp_M_takesOut_0_17 rc8 (lp_M_takesOut_0_17 rc8 n) x1 x2 x3 x4 M
noncomputable def blp_M_takesOut_0_8 (rc8 : Int32 → Int32 → Int32 → Mm → Option Mm) (x1 : Int32) (x2 : Int32) (x3 : Int32) (M : Mm) : Option Mm :=
  if x3 = 0 then (
    some M
  ) else (
    lp_M_takesOut_0_17 rc8 FW x1 x2 0 0 M
  )
noncomputable def lp_M_takesOut_0_8  : Nat → Int32 → Int32 → Int32 → Mm → Option Mm
  | 0, _, _, _, _ => none
  | n + 1, x1, x2, x3, M => blp_M_takesOut_0_8  (lp_M_takesOut_0_8  n) x1 x2 x3 M
noncomputable def f_M_takesOut_0 (p0 : Int32) (M : Mm) : Option Mm :=
  (f_M_yieldNow_0 p0 M).bind fun q1 =>
  lp_M_takesOut_0_8 FW p0 q1.1 1 q1.2
noncomputable def j_M_thin_0_80 (rc40 : Int32 → Int32 → Mm → Option (Int32 × Mm)) (x2 : Int32) (x3 : Int32) (M : Mm) : Option (Int32 × Mm) :=
  rc40 x2 (x3 + 1) M
noncomputable def blp_M_thin_0_51 (rc40 : Int32 → Int32 → Mm → Option (Int32 × Mm)) (rc51 : Int32 → Int32 → Int32 → Mm → Option (Int32 × Mm)) (x2 : Int32) (x3 : Int32) (x4 : Int32) (M : Mm) : Option (Int32 × Mm) :=
  if (M.1 0 22) ≤ x4 then (
    j_M_thin_0_80 rc40 x2 x3 M
  ) else (
    (rd (M.1 12) 37 ((3 * x3) + x4)).bind fun v2 =>
    rc51 (x2 + v2) x3 (x4 + 1) M
  )
noncomputable def lp_M_thin_0_51 (rc40 : Int32 → Int32 → Mm → Option (Int32 × Mm)) : Nat → Int32 → Int32 → Int32 → Mm → Option (Int32 × Mm)
  | 0, _, _, _, _ => none
  | n + 1, x2, x3, x4, M => blp_M_thin_0_51 rc40 (lp_M_thin_0_51 rc40 n) x2 x3 x4 M
noncomputable def blp_M_thin_0_40 (rc40 : Int32 → Int32 → Mm → Option (Int32 × Mm)) (x2 : Int32) (x3 : Int32) (M : Mm) : Option (Int32 × Mm) :=
  if (M.1 0 23) ≤ x3 then (
    (f_M_good_0 x2 M).bind fun q2 =>
    some (q2.1, q2.2)
  ) else (
    lp_M_thin_0_51 rc40 FW x2 x3 0 M
  )
noncomputable def lp_M_thin_0_40  : Nat → Int32 → Int32 → Mm → Option (Int32 × Mm)
  | 0, _, _, _ => none
  | n + 1, x2, x3, M => blp_M_thin_0_40  (lp_M_thin_0_40  n) x2 x3 M
noncomputable def f_M_thin_0 (p0 : Int32) (M : Mm) : Option (Int32 × Mm) :=
  (some (u1 M 0 0 0)).bind fun M1 =>
  if (M1.1 0 28) = 0 then (
    (f_M_refused_0 1 M1).bind fun q7 =>
    some (q7.1, q7.2)
  ) else (
    (f_M_isTerm p0).bind fun v3 =>
    if v3 = 0 then (
      (f_M_refused_0 2 M1).bind fun q6 =>
      some (q6.1, q6.2)
    ) else (
      (f_M_takesOut_0 p0 M1).bind fun M5 =>
      lp_M_thin_0_40 FW 0 0 M5
    )
  )
noncomputable def f_M_thinAt_0 (p0 : Int32) (p1 : Int32) (p2 : Int32) (M : Mm) : Option (Int32 × Mm) :=
  (some (u1 M 0 0 0)).bind fun M1 =>
  (f_M_isBench_0 p0 M1).bind fun v2 =>
  if v2 = 0 then (
    (f_M_refused_0 1 M1).bind fun q4 =>
    some (q4.1, q4.2)
  ) else (
    (f_M_isKind_0 p1 M1).bind fun v5 =>
    if v5 = 0 then (
      (f_M_refused_0 1 M1).bind fun q13 =>
      some (q13.1, q13.2)
    ) else (
      (f_M_isTerm p2).bind fun v7 =>
      if v7 = 0 then (
        (f_M_refused_0 2 M1).bind fun q12 =>
        some (q12.1, q12.2)
      ) else (
        (f_M_takesOut_0 p2 M1).bind fun M9 =>
        (rd (M9.1 12) 37 ((3 * p0) + p1)).bind fun v10 =>
        (f_M_good_0 v10 M9).bind fun q11 =>
        some (q11.1, q11.2)
      )
    )
  )
noncomputable def j_M_helps_0_137 (rc43 : Int32 → Int32 → Int32 → Int32 → Mm → Option (Int32 × Mm)) (x1 : Int32) (x2 : Int32) (x3 : Int32) (x4 : Int32) (M : Mm) : Option (Int32 × Mm) :=
  rc43 x1 x2 x3 (x4 + 1) M
noncomputable def j_M_helps_0_131 (rc55 : Int32 → Int32 → Int32 → Int32 → Int32 → Mm → Option (Int32 × Mm)) (x1 : Int32) (x2 : Int32) (x3 : Int32) (x4 : Int32) (x5 : Int32) (M : Mm) : Option (Int32 × Mm) :=
  rc55 x1 x2 x3 x4 (x5 + 1) M
noncomputable def blp_M_helps_0_55 (rc43 : Int32 → Int32 → Int32 → Int32 → Mm → Option (Int32 × Mm)) (rc55 : Int32 → Int32 → Int32 → Int32 → Int32 → Mm → Option (Int32 × Mm)) (x1 : Int32) (x2 : Int32) (x3 : Int32) (x4 : Int32) (x5 : Int32) (M : Mm) : Option (Int32 × Mm) :=
  if (M.1 0 22) ≤ x5 then (
    j_M_helps_0_137 rc43 x1 x2 x3 x4 M
  ) else (
    (rd (M.1 10) 37 ((3 * x4) + x5)).bind fun v2 =>
    if v2 = 9 then (
      j_M_helps_0_131 rc55 x1 x2 x3 x4 x5 M
    ) else (
      (f_M_papers_0 M).bind fun M4 =>
      (rd (M4.1 12) 37 ((3 * x4) + x5)).bind fun v5 =>
      (wr M4 12 37 ((3 * x4) + x5) (v5 + 1)).bind fun M6 =>
      (f_M_yieldOf_0 x1 M6).bind fun q7 =>
      if x2 < q7.1 then (
        j_M_helps_0_131 rc55 x1 q7.1 ((3 * x4) + x5) x4 x5 q7.2
      ) else (
        j_M_helps_0_131 rc55 x1 x2 x3 x4 x5 q7.2
      )
    )
  )
noncomputable def lp_M_helps_0_55 (rc43 : Int32 → Int32 → Int32 → Int32 → Mm → Option (Int32 × Mm)) : Nat → Int32 → Int32 → Int32 → Int32 → Int32 → Mm → Option (Int32 × Mm)
  | 0, _, _, _, _, _, _ => none
  | n + 1, x1, x2, x3, x4, x5, M => blp_M_helps_0_55 rc43 (lp_M_helps_0_55 rc43 n) x1 x2 x3 x4 x5 M
noncomputable def blp_M_helps_0_43 (rc43 : Int32 → Int32 → Int32 → Int32 → Mm → Option (Int32 × Mm)) (x1 : Int32) (x2 : Int32) (x3 : Int32) (x4 : Int32) (M : Mm) : Option (Int32 × Mm) :=
  if (M.1 0 23) ≤ x4 then (
    (f_M_good_0 x3 M).bind fun q2 =>
    some (q2.1, q2.2)
  ) else (
    lp_M_helps_0_55 rc43 FW x1 x2 x3 x4 0 M
  )
noncomputable def lp_M_helps_0_43  : Nat → Int32 → Int32 → Int32 → Int32 → Mm → Option (Int32 × Mm)
  | 0, _, _, _, _, _ => none
  | n + 1, x1, x2, x3, x4, M => blp_M_helps_0_43  (lp_M_helps_0_43  n) x1 x2 x3 x4 M
noncomputable def f_M_helps_0 (p0 : Int32) (M : Mm) : Option (Int32 × Mm) :=
  (some (u1 M 0 0 0)).bind fun M1 =>
  if (M1.1 0 28) = 0 then (
    (f_M_refused_0 1 M1).bind fun q7 =>
    some (q7.1, q7.2)
  ) else (
    (f_M_isTerm p0).bind fun v3 =>
    if v3 = 0 then (
      (f_M_refused_0 2 M1).bind fun q6 =>
      some (q6.1, q6.2)
    ) else (
      (f_M_yieldNow_0 p0 M1).bind fun q5 =>
      lp_M_helps_0_43 FW p0 q5.1 (-2) 0 q5.2
    )
  )
noncomputable def j_M_holds_0_107 (rc38 : Int32 → Int32 → Int32 → Int32 → Mm → Option (Int32 × Mm)) (x1 : Int32) (x2 : Int32) (x3 : Int32) (x4 : Int32) (M : Mm) : Option (Int32 × Mm) :=
  rc38 x1 x2 x3 (x4 + 1) M
noncomputable def j_M_holds_0_85 (rc38 : Int32 → Int32 → Int32 → Int32 → Mm → Option (Int32 × Mm)) (x1 : Int32) (x2 : Int32) (x3 : Int32) (x4 : Int32) (M : Mm) : Option (Int32 × Mm) :=
  (f_M_yieldOf_0 x1 M).bind fun q1 =>
  if x2 < q1.1 then (
    j_M_holds_0_107 rc38 x1 q1.1 x4 x4 q1.2
  ) else (
    j_M_holds_0_107 rc38 x1 x2 x3 x4 q1.2
  )
noncomputable def blp_M_holds_0_54 (rc38 : Int32 → Int32 → Int32 → Int32 → Mm → Option (Int32 × Mm)) (rc54 : Int32 → Int32 → Int32 → Int32 → Int32 → Mm → Option (Int32 × Mm)) (x1 : Int32) (x2 : Int32) (x3 : Int32) (x4 : Int32) (x5 : Int32) (M : Mm) : Option (Int32 × Mm) :=
  if (M.1 0 22) ≤ x5 then (
    j_M_holds_0_85 rc38 x1 x2 x3 x4 M
  ) else (
    (wr M 12 37 ((18 + (3 * x4)) + x5) 1).bind fun M2 =>
    rc54 x1 x2 x3 x4 (x5 + 1) M2
  )
noncomputable def lp_M_holds_0_54 (rc38 : Int32 → Int32 → Int32 → Int32 → Mm → Option (Int32 × Mm)) : Nat → Int32 → Int32 → Int32 → Int32 → Int32 → Mm → Option (Int32 × Mm)
  | 0, _, _, _, _, _, _ => none
  | n + 1, x1, x2, x3, x4, x5, M => blp_M_holds_0_54 rc38 (lp_M_holds_0_54 rc38 n) x1 x2 x3 x4 x5 M
noncomputable def blp_M_holds_0_38 (rc38 : Int32 → Int32 → Int32 → Int32 → Mm → Option (Int32 × Mm)) (x1 : Int32) (x2 : Int32) (x3 : Int32) (x4 : Int32) (M : Mm) : Option (Int32 × Mm) :=
  if (M.1 0 23) ≤ x4 then (
    (f_M_good_0 x3 M).bind fun q2 =>
    some (q2.1, q2.2)
  ) else (
    (f_M_papers_0 M).bind fun M3 =>
    lp_M_holds_0_54 rc38 FW x1 x2 x3 x4 0 M3
  )
noncomputable def lp_M_holds_0_38  : Nat → Int32 → Int32 → Int32 → Int32 → Mm → Option (Int32 × Mm)
  | 0, _, _, _, _, _ => none
  | n + 1, x1, x2, x3, x4, M => blp_M_holds_0_38  (lp_M_holds_0_38  n) x1 x2 x3 x4 M
noncomputable def f_M_holds_0 (p0 : Int32) (M : Mm) : Option (Int32 × Mm) :=
  (some (u1 M 0 0 0)).bind fun M1 =>
  if (M1.1 0 28) = 0 then (
    (f_M_refused_0 1 M1).bind fun q6 =>
    some (q6.1, q6.2)
  ) else (
    (f_M_isTerm p0).bind fun v3 =>
    if v3 = 0 then (
      (f_M_refused_0 2 M1).bind fun q5 =>
      some (q5.1, q5.2)
    ) else (
      lp_M_holds_0_38 FW p0 (-1) 0 0 M1
    )
  )
noncomputable def j_M_laysStand_0_320 (rc268 : Int32 → Int32 → Int32 → Mm → Option Mm) (x1 : Int32) (x2 : Int32) (x3 : Int32) (t0 : Int32) (t1 : Int32) (M : Mm) : Option Mm :=
  (wr M 19 98000 t1 t0).bind fun M1 =>
  rc268 x1 x2 (x3 + 1) M1
noncomputable def j_M_laysStand_0_319 (rc268 : Int32 → Int32 → Int32 → Mm → Option Mm) (x1 : Int32) (x2 : Int32) (x3 : Int32) (t0 : Int32) (M : Mm) : Option Mm :=
  j_M_laysStand_0_320 rc268 x1 x2 x3 0 t0 M
noncomputable def blp_M_laysStand_0_268 (rc268 : Int32 → Int32 → Int32 → Mm → Option Mm) (x1 : Int32) (x2 : Int32) (x3 : Int32) (M : Mm) : Option Mm :=
  if 4 ≤ x3 then (
    some M
  ) else (
    if (M.1 0 24) ≤ x3 then (
      j_M_laysStand_0_319 rc268 x1 x2 x3 ((x2 + 45) + x3) M
    ) else (
      (rd (M.1 9) 8 x3).bind fun v3 =>
      if x1 < v3 then (
        j_M_laysStand_0_319 rc268 x1 x2 x3 ((x2 + 45) + x3) M
      ) else (
        (rd (M.1 9) 8 x3).bind fun v5 =>
        (rd (M.1 8) 8 x3).bind fun v6 =>
        (rmI (x1 - v5) v6).bind fun v7 =>
        j_M_laysStand_0_320 rc268 x1 x2 x3 v7 ((x2 + 45) + x3) M
      )
    )
  )
noncomputable def lp_M_laysStand_0_268  : Nat → Int32 → Int32 → Int32 → Mm → Option Mm
  | 0, _, _, _, _ => none
  | n + 1, x1, x2, x3, M => blp_M_laysStand_0_268  (lp_M_laysStand_0_268  n) x1 x2 x3 M
noncomputable def j_M_laysStand_0_266  (x1 : Int32) (x2 : Int32) (M : Mm) : Option Mm :=
  lp_M_laysStand_0_268 FW x1 x2 0 M
noncomputable def blp_M_laysStand_0_223 (rc223 : Int32 → Int32 → Int32 → Mm → Option Mm) (x1 : Int32) (x2 : Int32) (x3 : Int32) (M : Mm) : Option Mm :=
  if 3 ≤ x3 then (
    j_M_laysStand_0_266 x1 x2 M
  ) else (
    (f_M_ofKind x3 0).bind fun v2 =>
    (rd (M.1 16) 99 v2).bind fun v3 =>
    (f_M_ofKind x3 1).bind fun v4 =>
    (rd (M.1 16) 99 v4).bind fun v5 =>
    (wr M 19 98000 ((x2 + 42) + x3) (v3 - v5)).bind fun M6 =>
    rc223 x1 x2 (x3 + 1) M6
  )
noncomputable def lp_M_laysStand_0_223  : Nat → Int32 → Int32 → Int32 → Mm → Option Mm
  | 0, _, _, _, _ => none
  | n + 1, x1, x2, x3, M => blp_M_laysStand_0_223  (lp_M_laysStand_0_223  n) x1 x2 x3 M
noncomputable def j_M_laysStand_0_221  (x1 : Int32) (x2 : Int32) (M : Mm) : Option Mm :=
  lp_M_laysStand_0_223 FW x1 x2 0 M
noncomputable def blp_M_laysStand_0_189 (rc189 : Int32 → Int32 → Int32 → Mm → Option Mm) (x1 : Int32) (x2 : Int32) (x3 : Int32) (M : Mm) : Option Mm :=
  if 18 ≤ x3 then (
    j_M_laysStand_0_221 x1 x2 M
  ) else (
    (rd (M.1 16) 99 (57 + x3)).bind fun v2 =>
    (wr M 19 98000 ((x2 + 24) + x3) v2).bind fun M3 =>
    rc189 x1 x2 (x3 + 1) M3
  )
noncomputable def lp_M_laysStand_0_189  : Nat → Int32 → Int32 → Int32 → Mm → Option Mm
  | 0, _, _, _, _ => none
  | n + 1, x1, x2, x3, M => blp_M_laysStand_0_189  (lp_M_laysStand_0_189  n) x1 x2 x3 M
noncomputable def j_M_laysStand_0_187  (x1 : Int32) (x2 : Int32) (M : Mm) : Option Mm :=
  lp_M_laysStand_0_189 FW x1 x2 0 M
noncomputable def j_M_laysStand_0_180 (rc7 : Int32 → Int32 → Int32 → Mm → Option Mm) (x1 : Int32) (x2 : Int32) (x3 : Int32) (t0 : Int32) (t1 : Int32) (M : Mm) : Option Mm :=
  (wr M 19 98000 t1 t0).bind fun M1 =>
  rc7 x1 x2 (x3 + 1) M1
noncomputable def j_M_laysStand_0_179 (rc7 : Int32 → Int32 → Int32 → Mm → Option Mm) (x1 : Int32) (x2 : Int32) (x3 : Int32) (t0 : Int32) (M : Mm) : Option Mm :=
  j_M_laysStand_0_180 rc7 x1 x2 x3 0 t0 M
noncomputable def j_M_laysStand_0_133 (rc7 : Int32 → Int32 → Int32 → Mm → Option Mm) (x1 : Int32) (x2 : Int32) (x3 : Int32) (x4 : Int32) (t0 : Int32) (t1 : Int32) (M : Mm) : Option Mm :=
  (wr M 19 98000 t1 t0).bind fun M1 =>
  if x4 = 0 then (
    j_M_laysStand_0_179 rc7 x1 x2 x3 ((x2 + (4 * x3)) + 3) M1
  ) else (
    (rd (M1.1 6) 12 x3).bind fun v3 =>
    if v3 ≤ 0 then (
      j_M_laysStand_0_179 rc7 x1 x2 x3 ((x2 + (4 * x3)) + 3) M1
    ) else (
      (f_M_of x3 4).bind fun v5 =>
      (rd (M1.1 16) 99 v5).bind fun v6 =>
      (rd (M1.1 6) 12 x3).bind fun v7 =>
      (rmI v6 v7).bind fun v8 =>
      j_M_laysStand_0_180 rc7 x1 x2 x3 v8 ((x2 + (4 * x3)) + 3) M1
    )
  )
noncomputable def j_M_laysStand_0_102 (rc7 : Int32 → Int32 → Int32 → Mm → Option Mm) (x1 : Int32) (x2 : Int32) (x3 : Int32) (x4 : Int32) (t0 : Int32) (t1 : Int32) (M : Mm) : Option Mm :=
  (wr M 19 98000 t1 t0).bind fun M1 =>
  if x4 = 0 then (
    j_M_laysStand_0_133 rc7 x1 x2 x3 x4 0 ((x2 + (4 * x3)) + 2) M1
  ) else (
    (f_M_of x3 3).bind fun v3 =>
    (rd (M1.1 16) 99 v3).bind fun v4 =>
    j_M_laysStand_0_133 rc7 x1 x2 x3 x4 v4 ((x2 + (4 * x3)) + 2) M1
  )
noncomputable def j_M_laysStand_0_101 (rc7 : Int32 → Int32 → Int32 → Mm → Option Mm) (x1 : Int32) (x2 : Int32) (x3 : Int32) (x4 : Int32) (t0 : Int32) (M : Mm) : Option Mm :=
  j_M_laysStand_0_102 rc7 x1 x2 x3 x4 0 t0 M
noncomputable def j_M_laysStand_0_56 (rc7 : Int32 → Int32 → Int32 → Mm → Option Mm) (x1 : Int32) (x2 : Int32) (x3 : Int32) (x4 : Int32) (t0 : Int32) (t1 : Int32) (M : Mm) : Option Mm :=
  (wr M 19 98000 t1 t0).bind fun M1 =>
  if x4 = 0 then (
    j_M_laysStand_0_101 rc7 x1 x2 x3 x4 ((x2 + (4 * x3)) + 1) M1
  ) else (
    (f_M_of x3 0).bind fun v3 =>
    (rd (M1.1 16) 99 v3).bind fun v4 =>
    if v4 ≤ 0 then (
      j_M_laysStand_0_101 rc7 x1 x2 x3 x4 ((x2 + (4 * x3)) + 1) M1
    ) else (
      (f_M_of x3 2).bind fun v6 =>
      (rd (M1.1 16) 99 v6).bind fun v7 =>
      j_M_laysStand_0_102 rc7 x1 x2 x3 x4 (v7 - x1) ((x2 + (4 * x3)) + 1) M1
    )
  )
noncomputable def j_M_laysStand_0_26 (rc7 : Int32 → Int32 → Int32 → Mm → Option Mm) (x1 : Int32) (x2 : Int32) (x3 : Int32) (t0 : Int32) (M : Mm) : Option Mm :=
  if t0 = 0 then (
    j_M_laysStand_0_56 rc7 x1 x2 x3 t0 0 (x2 + (4 * x3)) M
  ) else (
    (f_M_of x3 0).bind fun v2 =>
    (rd (M.1 16) 99 v2).bind fun v3 =>
    j_M_laysStand_0_56 rc7 x1 x2 x3 t0 v3 (x2 + (4 * x3)) M
  )
noncomputable def blp_M_laysStand_0_7 (rc7 : Int32 → Int32 → Int32 → Mm → Option Mm) (x1 : Int32) (x2 : Int32) (x3 : Int32) (M : Mm) : Option Mm :=
  if 6 ≤ x3 then (
    j_M_laysStand_0_187 x1 x2 M
  ) else (
    if (M.1 0 23) ≤ x3 then (
      j_M_laysStand_0_26 rc7 x1 x2 x3 0 M
    ) else (
      j_M_laysStand_0_26 rc7 x1 x2 x3 1 M
    )
  )
noncomputable def lp_M_laysStand_0_7  : Nat → Int32 → Int32 → Int32 → Mm → Option Mm
  | 0, _, _, _, _ => none
  | n + 1, x1, x2, x3, M => blp_M_laysStand_0_7  (lp_M_laysStand_0_7  n) x1 x2 x3 M
noncomputable def f_M_laysStand_0 (p0 : Int32) (M : Mm) : Option Mm :=
  lp_M_laysStand_0_7 FW p0 (49 * p0) 0 M
noncomputable def j_M_areAlike_0_48 (rc5 : Int32 → Int32 → Int32 → Int32 → Mm → Option Int32) (x1 : Int32) (x2 : Int32) (x4 : Int32) (t0 : Int32) (M : Mm) : Option Int32 :=
  rc5 x1 x2 t0 (x4 + 1) M
noncomputable def blp_M_areAlike_0_5 (rc5 : Int32 → Int32 → Int32 → Int32 → Mm → Option Int32) (x1 : Int32) (x2 : Int32) (x3 : Int32) (x4 : Int32) (M : Mm) : Option Int32 :=
  if x3 = 0 then (
    (zr x3).bind fun z2 =>
    some z2
  ) else (
    if 49 ≤ x4 then (
      (zr x3).bind fun z4 =>
      some z4
    ) else (
      (rd (M.1 19) 98000 ((49 * x1) + x4)).bind fun v5 =>
      (rd (M.1 19) 98000 ((49 * x2) + x4)).bind fun v6 =>
      if v5 = v6 then (
        j_M_areAlike_0_48 rc5 x1 x2 x4 1 M
      ) else (
        j_M_areAlike_0_48 rc5 x1 x2 x4 0 M
      )
    )
  )
noncomputable def lp_M_areAlike_0_5  : Nat → Int32 → Int32 → Int32 → Int32 → Mm → Option Int32
  | 0, _, _, _, _, _ => none
  | n + 1, x1, x2, x3, x4, M => blp_M_areAlike_0_5  (lp_M_areAlike_0_5  n) x1 x2 x3 x4 M
noncomputable def f_M_areAlike_0 (p0 : Int32) (p1 : Int32) (M : Mm) : Option Int32 :=
  lp_M_areAlike_0_5 FW p0 p1 1 0 M
noncomputable def j_M_comesAgain_0_170 (rc98 : Int32 → Int32 → Int32 → Int32 → Mm → Option (Int32 × Mm)) (x1 : Int32) (x2 : Int32) (x3 : Int32) (x4 : Int32) (M : Mm) : Option (Int32 × Mm) :=
  rc98 x1 x2 x3 (x4 + 1) M
noncomputable def j_M_comesAgain_0_145  (x2 : Int32) (x4 : Int32) (x5 : Int32) (M : Mm) : Option (Int32 × Mm) :=
  if x2 = 0 then (
    (f_M_good_0 x4 M).bind fun q3 =>
    some (q3.1, q3.2)
  ) else (
    (f_M_good_0 (x4 - x5) M).bind fun q2 =>
    some (q2.1, q2.2)
  )
noncomputable def blp_M_comesAgain_0_128 (rc98 : Int32 → Int32 → Int32 → Int32 → Mm → Option (Int32 × Mm)) (rc128 : Int32 → Int32 → Int32 → Int32 → Int32 → Mm → Option (Int32 × Mm)) (x1 : Int32) (x2 : Int32) (x3 : Int32) (x4 : Int32) (x5 : Int32) (M : Mm) : Option (Int32 × Mm) :=
  if x5 < x3 then (
    j_M_comesAgain_0_170 rc98 x1 x2 x3 x4 M
  ) else (
    (f_M_areAlike_0 x4 x5 M).bind fun v2 =>
    if v2 = 0 then (
      rc128 x1 x2 x3 x4 (x5 + (-1)) M
    ) else (
      j_M_comesAgain_0_145 x2 x4 x5 M
    )
  )
noncomputable def lp_M_comesAgain_0_128 (rc98 : Int32 → Int32 → Int32 → Int32 → Mm → Option (Int32 × Mm)) : Nat → Int32 → Int32 → Int32 → Int32 → Int32 → Mm → Option (Int32 × Mm)
  | 0, _, _, _, _, _, _ => none
  | n + 1, x1, x2, x3, x4, x5, M => blp_M_comesAgain_0_128 rc98 (lp_M_comesAgain_0_128 rc98 n) x1 x2 x3 x4 x5 M
noncomputable def blp_M_comesAgain_0_98 (rc98 : Int32 → Int32 → Int32 → Int32 → Mm → Option (Int32 × Mm)) (x1 : Int32) (x2 : Int32) (x3 : Int32) (x4 : Int32) (M : Mm) : Option (Int32 × Mm) :=
  if x1 ≤ x4 then (
    (f_M_good_0 (-2) M).bind fun q2 =>
    some (q2.1, q2.2)
  ) else (
    (f_M_minute_0_16_12 M).bind fun M3 =>
    (f_M_laysStand_0 x4 M3).bind fun M4 =>
    lp_M_comesAgain_0_128 rc98 FW x1 x2 x3 x4 (x4 - 1) M4
  )
noncomputable def lp_M_comesAgain_0_98  : Nat → Int32 → Int32 → Int32 → Int32 → Mm → Option (Int32 × Mm)
  | 0, _, _, _, _, _ => none
  | n + 1, x1, x2, x3, x4, M => blp_M_comesAgain_0_98  (lp_M_comesAgain_0_98  n) x1 x2 x3 x4 M
noncomputable def j_M_comesAgain_0_83  (x1 : Int32) (x2 : Int32) (x3 : Int32) (M : Mm) : Option (Int32 × Mm) :=
  (f_M_papers_0 M).bind fun M1 =>
  (f_M_begins_0_16 M1).bind fun M2 =>
  lp_M_comesAgain_0_98 FW x1 x2 x3 0 M2
noncomputable def j_M_comesAgain_0_76 (rc45 : Int32 → Int32 → Int32 → Int32 → Mm → Option (Int32 × Mm)) (x1 : Int32) (x2 : Int32) (x4 : Int32) (t0 : Int32) (M : Mm) : Option (Int32 × Mm) :=
  rc45 x1 x2 t0 (x4 + 1) M
noncomputable def blp_M_comesAgain_0_45 (rc45 : Int32 → Int32 → Int32 → Int32 → Mm → Option (Int32 × Mm)) (x1 : Int32) (x2 : Int32) (x3 : Int32) (x4 : Int32) (M : Mm) : Option (Int32 × Mm) :=
  if (M.1 0 24) ≤ x4 then (
    j_M_comesAgain_0_83 x1 x2 x3 M
  ) else (
    (rd (M.1 9) 8 x4).bind fun v2 =>
    if v2 ≤ x3 then (
      j_M_comesAgain_0_76 rc45 x1 x2 x4 x3 M
    ) else (
      (rd (M.1 9) 8 x4).bind fun v4 =>
      j_M_comesAgain_0_76 rc45 x1 x2 x4 v4 M
    )
  )
noncomputable def lp_M_comesAgain_0_45  : Nat → Int32 → Int32 → Int32 → Int32 → Mm → Option (Int32 × Mm)
  | 0, _, _, _, _, _ => none
  | n + 1, x1, x2, x3, x4, M => blp_M_comesAgain_0_45  (lp_M_comesAgain_0_45  n) x1 x2 x3 x4 M
noncomputable def f_M_comesAgain_0 (p0 : Int32) (p1 : Int32) (M : Mm) : Option (Int32 × Mm) :=
  (some (u1 M 0 0 0)).bind fun M1 =>
  if (M1.1 0 28) = 0 then (
    (f_M_refused_0 1 M1).bind fun q3 =>
    some (q3.1, q3.2)
  ) else (
    (f_M_in p1 0 1).bind fun v4 =>
    if v4 = 0 then (
      (f_M_refused_0 1 M1).bind fun q9 =>
      some (q9.1, q9.2)
    ) else (
      (f_M_isTerm p0).bind fun v6 =>
      if v6 = 0 then (
        (f_M_refused_0 2 M1).bind fun q8 =>
        some (q8.1, q8.2)
      ) else (
        lp_M_comesAgain_0_45 FW p0 p1 0 0 M1
      )
    )
  )
noncomputable def blp_M_remembers_0_55 (rc55 : Int32 → Mm → Option Mm) (x1 : Int32) (M : Mm) : Option Mm :=
  if 37 ≤ x1 then (
    (some (u1 M 0 35 ((M.1 0 35) + 1))).bind fun M2 =>
    some M2
  ) else (
    (rd (M.1 10) 37 x1).bind fun v3 =>
    (wr M 13 370 (((M.1 0 35) * 37) + x1) v3).bind fun M4 =>
    rc55 (x1 + 1) M4
  )
noncomputable def lp_M_remembers_0_55  : Nat → Int32 → Mm → Option Mm
  | 0, _, _ => none
  | n + 1, x1, M => blp_M_remembers_0_55  (lp_M_remembers_0_55  n) x1 M
noncomputable def j_M_remembers_0_53   (M : Mm) : Option Mm :=
  lp_M_remembers_0_55 FW 0 M
noncomputable def blp_M_remembers_0_21 (rc21 : Int32 → Mm → Option Mm) (x1 : Int32) (M : Mm) : Option Mm :=
  if ((M.1 0 35) * 37) ≤ x1 then (
    j_M_remembers_0_53 M
  ) else (
    (rd (M.1 13) 370 (x1 + 37)).bind fun v2 =>
    (wr M 13 370 x1 v2).bind fun M3 =>
    rc21 (x1 + 1) M3
  )
noncomputable def lp_M_remembers_0_21  : Nat → Int32 → Mm → Option Mm
  | 0, _, _ => none
  | n + 1, x1, M => blp_M_remembers_0_21  (lp_M_remembers_0_21  n) x1 M
noncomputable def f_M_remembers_0  (M : Mm) : Option Mm :=
  if (M.1 0 35) = 10 then (
    (some (u1 M 0 35 ((M.1 0 35) - 1))).bind fun M2 =>
    lp_M_remembers_0_21 FW 0 M2
  ) else (
    j_M_remembers_0_53 M
  )
noncomputable def f_M_changes_0 (p0 : Int32) (p1 : Int32) (M : Mm) : Option (Int32 × Mm) :=
  (f_M_remembers_0 M).bind fun M1 =>
  (rd (M1.1 10) 37 p0).bind fun v2 =>
  (wr M1 10 37 p0 p1).bind fun M3 =>
  (f_M_good_0 v2 M3).bind fun q4 =>
  some (q4.1, q4.2)
noncomputable def f_M_cards_0 (p0 : Int32) (p1 : Int32) (p2 : Int32) (M : Mm) : Option (Int32 × Mm) :=
  (some (u1 M 0 0 0)).bind fun M1 =>
  (f_M_isBench_0 p0 M1).bind fun v2 =>
  if v2 = 0 then (
    (f_M_refused_0 1 M1).bind fun q4 =>
    some (q4.1, q4.2)
  ) else (
    (f_M_isKind_0 p1 M1).bind fun v5 =>
    if v5 = 0 then (
      (f_M_refused_0 1 M1).bind fun q11 =>
      some (q11.1, q11.2)
    ) else (
      (f_M_in p2 0 9).bind fun v7 =>
      if v7 = 0 then (
        (f_M_refused_0 2 M1).bind fun q9 =>
        some (q9.1, q9.2)
      ) else (
        (f_M_changes_0 ((3 * p0) + p1) p2 M1).bind fun q10 =>
        some (q10.1, q10.2)
      )
    )
  )
noncomputable def f_M_time_0 (p0 : Int32) (p1 : Int32) (p2 : Int32) (M : Mm) : Option (Int32 × Mm) :=
  (some (u1 M 0 0 0)).bind fun M1 =>
  (f_M_isBench_0 p0 M1).bind fun v2 =>
  if v2 = 0 then (
    (f_M_refused_0 1 M1).bind fun q4 =>
    some (q4.1, q4.2)
  ) else (
    (f_M_isKind_0 p1 M1).bind fun v5 =>
    if v5 = 0 then (
      (f_M_refused_0 1 M1).bind fun q11 =>
      some (q11.1, q11.2)
    ) else (
      (f_M_in p2 1 60).bind fun v7 =>
      if v7 = 0 then (
        (f_M_refused_0 2 M1).bind fun q9 =>
        some (q9.1, q9.2)
      ) else (
        (f_M_changes_0 ((18 + (3 * p0)) + p1) p2 M1).bind fun q10 =>
        some (q10.1, q10.2)
      )
    )
  )
noncomputable def f_M_rule_0 (p0 : Int32) (M : Mm) : Option (Int32 × Mm) :=
  (some (u1 M 0 0 0)).bind fun M1 =>
  if (M1.1 0 28) = 0 then (
    (f_M_refused_0 1 M1).bind fun q7 =>
    some (q7.1, q7.2)
  ) else (
    (f_M_in p0 0 2).bind fun v3 =>
    if v3 = 0 then (
      (f_M_refused_0 2 M1).bind fun q5 =>
      some (q5.1, q5.2)
    ) else (
      (f_M_changes_0 36 p0 M1).bind fun q6 =>
      some (q6.1, q6.2)
    )
  )
noncomputable def blp_M_undo_0_43 (rc43 : Int32 → Mm → Option (Int32 × Mm)) (x1 : Int32) (M : Mm) : Option (Int32 × Mm) :=
  if 37 ≤ x1 then (
    (f_M_good_0 (M.1 0 35) M).bind fun q2 =>
    some (q2.1, q2.2)
  ) else (
    (rd (M.1 13) 370 (((M.1 0 35) * 37) + x1)).bind fun v3 =>
    (wr M 10 37 x1 v3).bind fun M4 =>
    rc43 (x1 + 1) M4
  )
noncomputable def lp_M_undo_0_43  : Nat → Int32 → Mm → Option (Int32 × Mm)
  | 0, _, _ => none
  | n + 1, x1, M => blp_M_undo_0_43  (lp_M_undo_0_43  n) x1 M
noncomputable def f_M_undo_0  (M : Mm) : Option (Int32 × Mm) :=
  (some (u1 M 0 0 0)).bind fun M1 =>
  if (M1.1 0 28) = 0 then (
    (f_M_refused_0 1 M1).bind fun q6 =>
    some (q6.1, q6.2)
  ) else (
    if (M1.1 0 35) = 0 then (
      (f_M_refused_0 5 M1).bind fun q5 =>
      some (q5.1, q5.2)
    ) else (
      (some (u1 M1 0 35 ((M1.1 0 35) - 1))).bind fun M4 =>
      lp_M_undo_0_43 FW 0 M4
    )
  )
noncomputable def j_M_keep_0_89  (x1 : Int32) (M : Mm) : Option (Int32 × Mm) :=
  (wrZ M 18 2 x1 1).bind fun M1 =>
  (f_M_granted_0 0 M1).bind fun q2 =>
  (zr q2.1).bind fun z3 =>
  some (z3, q2.2)
noncomputable def blp_M_keep_0_60 (rc60 : Int32 → Int32 → Mm → Option (Int32 × Mm)) (x1 : Int32) (x2 : Int32) (M : Mm) : Option (Int32 × Mm) :=
  if 37 ≤ x2 then (
    j_M_keep_0_89 x1 M
  ) else (
    (rd (M.1 10) 37 x2).bind fun v2 =>
    (wr M 14 74 ((37 * x1) + x2) v2).bind fun M3 =>
    rc60 x1 (x2 + 1) M3
  )
noncomputable def lp_M_keep_0_60  : Nat → Int32 → Int32 → Mm → Option (Int32 × Mm)
  | 0, _, _, _ => none
  | n + 1, x1, x2, M => blp_M_keep_0_60  (lp_M_keep_0_60  n) x1 x2 M
noncomputable def j_M_keep_0_58  (x1 : Int32) (M : Mm) : Option (Int32 × Mm) :=
  lp_M_keep_0_60 FW x1 0 M
noncomputable def blp_M_keep_0_29 (rc29 : Int32 → Int32 → Mm → Option (Int32 × Mm)) (x1 : Int32) (x2 : Int32) (M : Mm) : Option (Int32 × Mm) :=
  if 99 ≤ x2 then (
    j_M_keep_0_58 x1 M
  ) else (
    (rd (M.1 15) 99 x2).bind fun v2 =>
    (wr M 17 198 ((99 * x1) + x2) v2).bind fun M3 =>
    rc29 x1 (x2 + 1) M3
  )
noncomputable def lp_M_keep_0_29  : Nat → Int32 → Int32 → Mm → Option (Int32 × Mm)
  | 0, _, _, _ => none
  | n + 1, x1, x2, M => blp_M_keep_0_29  (lp_M_keep_0_29  n) x1 x2 M
noncomputable def f_M_keep_0 (p0 : Int32) (M : Mm) : Option (Int32 × Mm) :=
  (some (u1 M 0 0 0)).bind fun M1 =>
  if (M1.1 0 28) = 0 then (
    (f_M_granted_0 1 M1).bind fun q3 =>
    (zr q3.1).bind fun z4 =>
    some (z4, q3.2)
  ) else (
    (f_M_in p0 0 1).bind fun v5 =>
    if v5 = 0 then (
      (f_M_granted_0 1 M1).bind fun q7 =>
      (zr q7.1).bind fun z8 =>
      some (z8, q7.2)
    ) else (
      lp_M_keep_0_29 FW p0 0 M1
    )
  )
noncomputable def blp_M_back_0_69 (rc69 : Int32 → Int32 → Mm → Option (Int32 × Mm)) (x1 : Int32) (x2 : Int32) (M : Mm) : Option (Int32 × Mm) :=
  if 37 ≤ x2 then (
    (some (u1 M 0 35 0)).bind fun M2 =>
    (f_M_granted_0 0 M2).bind fun q3 =>
    (zr q3.1).bind fun z4 =>
    some (z4, q3.2)
  ) else (
    (rd (M.1 14) 74 ((37 * x1) + x2)).bind fun v5 =>
    (wr M 10 37 x2 v5).bind fun M6 =>
    rc69 x1 (x2 + 1) M6
  )
noncomputable def lp_M_back_0_69  : Nat → Int32 → Int32 → Mm → Option (Int32 × Mm)
  | 0, _, _, _ => none
  | n + 1, x1, x2, M => blp_M_back_0_69  (lp_M_back_0_69  n) x1 x2 M
noncomputable def j_M_back_0_67  (x1 : Int32) (M : Mm) : Option (Int32 × Mm) :=
  lp_M_back_0_69 FW x1 0 M
noncomputable def blp_M_back_0_38 (rc38 : Int32 → Int32 → Mm → Option (Int32 × Mm)) (x1 : Int32) (x2 : Int32) (M : Mm) : Option (Int32 × Mm) :=
  if 99 ≤ x2 then (
    j_M_back_0_67 x1 M
  ) else (
    (rd (M.1 17) 198 ((99 * x1) + x2)).bind fun v2 =>
    (wr M 15 99 x2 v2).bind fun M3 =>
    rc38 x1 (x2 + 1) M3
  )
noncomputable def lp_M_back_0_38  : Nat → Int32 → Int32 → Mm → Option (Int32 × Mm)
  | 0, _, _, _ => none
  | n + 1, x1, x2, M => blp_M_back_0_38  (lp_M_back_0_38  n) x1 x2 M
noncomputable def f_M_back_0 (p0 : Int32) (M : Mm) : Option (Int32 × Mm) :=
  (some (u1 M 0 0 0)).bind fun M1 =>
  if (M1.1 0 28) = 0 then (
    (f_M_granted_0 1 M1).bind fun q3 =>
    (zr q3.1).bind fun z4 =>
    some (z4, q3.2)
  ) else (
    (f_M_in p0 0 1).bind fun v5 =>
    if v5 = 0 then (
      (f_M_granted_0 1 M1).bind fun q7 =>
      (zr q7.1).bind fun z8 =>
      some (z8, q7.2)
    ) else (
      (rd (M1.1 18) 2 p0).bind fun v9 =>
      if v9 = 0 then (
        (f_M_granted_0 1 M1).bind fun q11 =>
        (zr q11.1).bind fun z12 =>
        some (z12, q11.2)
      ) else (
        lp_M_back_0_38 FW p0 0 M1
      )
    )
  )
noncomputable def blp_M_letter_0_107 (rc107 : Int32 → Int64 → Int32 → Mm → Option (Int32 × Mm)) (x3 : Int32) (x4 : Int64) (x7 : Int32) (M : Mm) : Option (Int32 × Mm) :=
  if x7 ≤ x3 then (
    (rmL x4 32).bind fun w2 =>
    some (((Int64.toInt32 w2) - 1), M)
  ) else (
    (dvL x4 32).bind fun w3 =>
    rc107 x3 w3 (x7 + (-1)) M
  )
noncomputable def lp_M_letter_0_107  : Nat → Int32 → Int64 → Int32 → Mm → Option (Int32 × Mm)
  | 0, _, _, _, _ => none
  | n + 1, x3, x4, x7, M => blp_M_letter_0_107  (lp_M_letter_0_107  n) x3 x4 x7 M
noncomputable def j_M_letter_0_82  (x3 : Int32) (x4 : Int64) (x6 : Int32) (M : Mm) : Option (Int32 × Mm) :=
  (f_M_in x3 0 (x6 - 1)).bind fun v1 =>
  if v1 = 0 then (
    (some (u1 M 0 0 1)).bind fun M3 =>
    some (0, M3)
  ) else (
    lp_M_letter_0_107 FW x3 x4 (x6 - 1) M
  )
noncomputable def blp_M_letter_0_61 (rc61 : Int32 → Int64 → Int32 → Int64 → Mm → Option (Int32 × Mm)) (x3 : Int32) (x4 : Int64) (x6 : Int32) (x7 : Int64) (M : Mm) : Option (Int32 × Mm) :=
  if (lg_cmp x7 0) ≤ 0 then (
    j_M_letter_0_82 x3 x4 x6 M
  ) else (
    (dvL x7 32).bind fun w2 =>
    rc61 x3 x4 (x6 + 1) w2 M
  )
noncomputable def lp_M_letter_0_61  : Nat → Int32 → Int64 → Int32 → Int64 → Mm → Option (Int32 × Mm)
  | 0, _, _, _, _, _ => none
  | n + 1, x3, x4, x6, x7, M => blp_M_letter_0_61  (lp_M_letter_0_61  n) x3 x4 x6 x7 M
noncomputable def j_M_letter_0_54  (x3 : Int32) (x4 : Int64) (M : Mm) : Option (Int32 × Mm) :=
  lp_M_letter_0_61 FW x3 x4 0 x4 M
noncomputable def j_M_letter_0_52  (x3 : Int32) (t0 : Int64) (M : Mm) : Option (Int32 × Mm) :=
  j_M_letter_0_54 x3 t0 M
noncomputable def j_M_letter_0_25  (x1 : Int32) (x2 : Int32) (x3 : Int32) (x4 : Int64) (t0 : Int32) (t1 : Int32) (t2 : Int32) (M : Mm) : Option (Int32 × Mm) :=
  (f_M_in t2 t1 (t0 - 1)).bind fun v1 =>
  if v1 = 0 then (
    j_M_letter_0_54 x3 x4 M
  ) else (
    if x1 = 0 then (
      (rdL (M.2 3) 12 x2).bind fun w4 =>
      j_M_letter_0_52 x3 w4 M
    ) else (
      (rdL (M.2 2) 6 x2).bind fun w5 =>
      j_M_letter_0_52 x3 w5 M
    )
  )
noncomputable def f_M_letter_0 (p0 : Int32) (p1 : Int32) (p2 : Int32) (M : Mm) : Option (Int32 × Mm) :=
  (some (u1 M 0 0 0)).bind fun M1 =>
  if p0 = 0 then (
    j_M_letter_0_25 p0 p1 p2 0 (M1.1 0 23) 0 p1 M1
  ) else (
    j_M_letter_0_25 p0 p1 p2 0 (M1.1 0 22) 0 p1 M1
  )
noncomputable def f_M_bytes_0  (M : Mm) : Option (Int32 × Mm) :=
  (some (u1 M 0 0 0)).bind fun M1 =>
  some ((M1.1 0 4), M1)
noncomputable def f_M_trouble_0  (M : Mm) : Option (Int32 × Mm) :=
  (some (u1 M 0 0 0)).bind fun M1 =>
  some ((M1.1 0 1), M1)

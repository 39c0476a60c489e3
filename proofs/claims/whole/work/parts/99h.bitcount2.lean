def sumB : Nat → Nat → Nat
  | 0, _ => 0
  | n + 1, x => cnt (x % 256) 8 + sumB n (x / 256)
theorem cnt_sum : ∀ (n x : Nat), cnt x (8 * n) = sumB n x
  | 0, _ => rfl
  | n + 1, x => by
    have h := cnt_B (8 * n) (x / 256) (x % 256) (Nat.mod_lt _ (by omega))
    rw [show x / 256 * 256 + x % 256 = x by omega, cnt_sum n (x / 256)] at h
    rw [show 8 * (n + 1) = 8 + 8 * n by omega, h]
    rfl
theorem pB_s (n x : Nat) : pB (n + 1) x = pB n (x / 256) * 256 + cnt (x % 256) 8 := rfl
theorem sumB_s (n x : Nat) : sumB (n + 1) x = cnt (x % 256) 8 + sumB n (x / 256) := rfl
theorem fold64 {c0 c1 c2 c3 c4 c5 c6 c7 w t1 t2 t3 t4 t5 t6 t7 : Nat} (h0 : c0 ≤ 8) (h1 : c1 ≤ 8) (h2 : c2 ≤ 8) (h3 : c3 ≤ 8) (h4 : c4 ≤ 8) (h5 : c5 ≤ 8) (h6 : c6 ≤ 8) (h7 : c7 ≤ 8) (hw : w = t1 * 256 + c0) (g1 : t1 = t2 * 256 + c1) (g2 : t2 = t3 * 256 + c2) (g3 : t3 = t4 * 256 + c3) (g4 : t4 = t5 * 256 + c4) (g5 : t5 = t6 * 256 + c5) (g6 : t6 = t7 * 256 + c6) (g7 : t7 = c7) : (w + w / 256 + (w + w / 256) / 65536 + (w + w / 256 + (w + w / 256) / 65536) / 4294967296) % 128 = c0 + (c1 + (c2 + (c3 + (c4 + (c5 + (c6 + c7)))))) := by
  have e1 : w / 256 = t1 := by clear g1 g2 g3 g4 g5 g6 g7; omega
  rw [e1]
  have e2 : (w + t1) / 65536 = t2 + t3 := by clear e1 g3 g4 g5 g6 g7; omega
  rw [e2]
  have q1 : (w + t1 + (t2 + t3)) / 256 = t1 + t2 + (t3 + t4) := by clear e1 e2 g4 g5 g6 g7; omega
  have q2 : (t1 + t2 + (t3 + t4)) / 256 = t2 + t3 + (t4 + t5) := by clear e1 e2 q1 hw g5 g6 g7; omega
  have q3 : (t2 + t3 + (t4 + t5)) / 256 = t3 + t4 + (t5 + t6) := by clear e1 e2 q1 q2 hw g1 g6 g7; omega
  have q4 : (t3 + t4 + (t5 + t6)) / 256 = t4 + t5 + (t6 + t7) := by clear e1 e2 q1 q2 q3 hw g1 g2 g7; omega
  have e3 : (w + t1 + (t2 + t3)) / 4294967296 = t4 + t5 + (t6 + t7) := by
    rw [show (4294967296 : Nat) = 256 * 256 * 256 * 256 from rfl, ← Nat.div_div_eq_div_mul, ← Nat.div_div_eq_div_mul, ← Nat.div_div_eq_div_mul, q1, q2, q3, q4]
  rw [e3]
  clear e1 e2 e3 q1 q2 q3 q4
  omega
theorem bcL {x : Nat} (hx : x < 2 ^ 41) : f_J13_bitCount_95d88 (lN x) = some (nI (cnt x 41)) := by
  have A1 : (x / 2) &&& mkB 85 8 ≤ x / 2 := Nat.and_le_left
  have B1 : s1 8 x ≤ x := Nat.sub_le _ _
  generalize hy : s1 8 x = y at B1
  have A2 : y &&& mkB 51 8 ≤ y := Nat.and_le_left
  have A3 : (y / 4) &&& mkB 51 8 ≤ y / 4 := Nat.and_le_left
  have B2 : s2 8 y ≤ y + y / 4 := Nat.add_le_add A2 A3
  generalize hz : s2 8 y = z at B2
  have B3 : s3 8 z ≤ z + z / 16 := Nat.and_le_left
  generalize hw : s3 8 z = w at B3
  have r1 : ((lN x).toUInt64 >>> ((1 : Int32).toInt64.toUInt64 &&& Int64.toUInt64 63)).toInt64 = lN (x / 2) := wb_shr (k := 1) (by omega) (by omega)
  have r2 : ((lN y).toUInt64 >>> ((2 : Int32).toInt64.toUInt64 &&& Int64.toUInt64 63)).toInt64 = lN (y / 4) := wb_shr (k := 2) (by omega) (by omega)
  have r4 : ((lN z).toUInt64 >>> ((4 : Int32).toInt64.toUInt64 &&& Int64.toUInt64 63)).toInt64 = lN (z / 16) := wb_shr (k := 4) (by omega) (by omega)
  have r8 : ((lN w).toUInt64 >>> ((8 : Int32).toInt64.toUInt64 &&& Int64.toUInt64 63)).toInt64 = lN (w / 256) := wb_shr (k := 8) (by omega) (by omega)
  have r16 : ((lN (w + w / 256)).toUInt64 >>> ((16 : Int32).toInt64.toUInt64 &&& Int64.toUInt64 63)).toInt64 = lN ((w + w / 256) / 65536) := wb_shr (k := 16) (by omega) (by omega)
  have r32 : ((lN (w + w / 256 + (w + w / 256) / 65536)).toUInt64 >>> ((32 : Int32).toInt64.toUInt64 &&& Int64.toUInt64 63)).toInt64 = lN ((w + w / 256 + (w + w / 256) / 65536) / 4294967296) := wb_shr (k := 32) (by omega) (by omega)
  have k5 : (6148914691236517205 : Int64) = lN (mkB 85 8) := by decide
  have k3 : (3689348814741910323 : Int64) = lN (mkB 51 8) := by decide
  have k0 : (1085102592571150095 : Int64) = lN (mkB 15 8) := by decide
  have t1 : lN x - (lN (x / 2) &&& lN (mkB 85 8)) = lN y := by
    rw [wb_and (by omega) (by decide), lN_sub (by omega), ← hy, s1]
  have t2 : (lN y &&& lN (mkB 51 8)) + (lN (y / 4) &&& lN (mkB 51 8)) = lN z := by
    rw [wb_and (by omega) (by decide), wb_and (by omega) (by decide), lN_add, ← hz, s2]
  have t3 : (lN z + lN (z / 16)) &&& lN (mkB 15 8) = lN w := by
    rw [lN_add, wb_and (by omega) (by decide), ← hw, s3]
  have hp : w = pB 8 x := by
    rw [← hw, ← hz, ← hy]
    exact (s_all 8 x (by omega)).1
  have hc : cnt x 41 = sumB 8 x := by
    rw [← cnt_sum 8 x]
    exact (cnt_hi hx 23).symm
  have hfin : (w + w / 256 + (w + w / 256) / 65536 + (w + w / 256 + (w + w / 256) / 65536) / 4294967296) % 128 = cnt x 41 := by
    rw [hc]
    have g7 : pB 1 (x / 256 / 256 / 256 / 256 / 256 / 256 / 256) = cnt (x / 256 / 256 / 256 / 256 / 256 / 256 / 256 % 256) 8 := by rw [pB_s, pB, Nat.zero_mul, Nat.zero_add]
    rw [sumB_s, sumB_s, sumB_s, sumB_s, sumB_s, sumB_s, sumB_s, sumB_s, sumB, Nat.add_zero]
    exact fold64 (cnt_le _ 8) (cnt_le _ 8) (cnt_le _ 8) (cnt_le _ 8) (cnt_le _ 8) (cnt_le _ 8) (cnt_le _ 8) (cnt_le _ 8) (hp.trans (pB_s 7 x)) (pB_s 6 _) (pB_s 5 _) (pB_s 4 _) (pB_s 3 _) (pB_s 2 _) (pB_s 1 _) g7
  rw [f_J13_bitCount_95d88, r1, k5, t1, r2, k3, t2, f_J13_bitCount_95d88_24, r4, k0, t3, r8, lN_add, f_J13_bitCount_95d88_41, r16, lN_add, r32, lN_add, f_J13_bitCount_95d88_55, lN_i, show (127 : Int32) = nI 127 from rfl, nx_and, show (127 : Nat) = 2 ^ 7 - 1 from rfl, Nat.and_two_pow_sub_one_eq_mod]
  exact congrArg (fun q => some (nI q)) hfin
theorem look_ok {i mi : Nat → Int32} {r mr : Nat → Nat → Int32} {u : Nat → Nat} {ml : Nat → Nat → Int64} (h : GW i r u mi mr) : ∃ q m, f_X11_look i r u = some q ∧ f_X13_look_ mi mr ml = some m ∧ q.1 = m.1 ∧ GW i q.2 u mi m.2 := look_of (fun _ hx => bcL hx) h

theorem start_SP {args : Array Value} {s : State} (ht : ∀ w ∈ lw_tbl, w.before args s = true) (hn : narrow_1.before args s = true) : ∃ zs : Nat → Nat, SP zs (fun q => s.heap.size ≤ q) s s.heap := by
  have hA : ∀ a : Nat, a < s.heap.size → ¬ (fun q => s.heap.size ≤ q) a := fun a h => Nat.not_le.mpr h
  have e0 : ∀ j : Nat, j < 18 → (Term.elem (Term.static "MarbleFloor$Shortest" "STEPS" "[I") (.int (Int32.ofNat j))).eval args s none [] s = some (.int (zSteps.getD j 0)) := by
    intro j hj
    match j, hj with
    | 0, _ => exact va_eqt (nw_5 hn)
    | 1, _ => exact va_eqt (nw_6 hn)
    | 2, _ => exact va_eqt (nw_7 hn)
    | 3, _ => exact va_eqt (nw_8 hn)
    | 4, _ => exact va_eqt (nw_9 hn)
    | 5, _ => exact va_eqt (nw_10 hn)
    | 6, _ => exact va_eqt (nw_11 hn)
    | 7, _ => exact va_eqt (nw_12 hn)
    | 8, _ => exact va_eqt (nw_13 hn)
    | 9, _ => exact va_eqt (nw_14 hn)
    | 10, _ => exact va_eqt (nw_15 hn)
    | 11, _ => exact va_eqt (nw_16 hn)
    | 12, _ => exact va_eqt (nw_17 hn)
    | 13, _ => exact va_eqt (nw_18 hn)
    | 14, _ => exact va_eqt (nw_19 hn)
    | 15, _ => exact va_eqt (nw_20 hn)
    | 16, _ => exact va_eqt (nw_21 hn)
    | 17, _ => exact va_eqt (nw_22 hn)
    | j + 18, hj => exact absurd hj (by omega)
  have e1 : ∀ j : Nat, j < 19 → (Term.elem (Term.static "MarbleFloor$Tape" "WORDS" "[J") (.int (Int32.ofNat j))).eval args s none [] s = some (.long (zWords.getD j 0)) := by
    intro j hj
    match j, hj with
    | 0, _ => exact va_eqtl (nw_26 hn)
    | 1, _ => exact va_eqtl (nw_27 hn)
    | 2, _ => exact va_eqtl (nw_28 hn)
    | 3, _ => exact va_eqtl (nw_29 hn)
    | 4, _ => exact va_eqtl (nw_30 hn)
    | 5, _ => exact va_eqtl (nw_31 hn)
    | 6, _ => exact va_eqtl (nw_32 hn)
    | 7, _ => exact va_eqtl (nw_33 hn)
    | 8, _ => exact va_eqtl (nw_34 hn)
    | 9, _ => exact va_eqtl (nw_35 hn)
    | 10, _ => exact va_eqtl (nw_36 hn)
    | 11, _ => exact va_eqtl (nw_37 hn)
    | 12, _ => exact va_eqtl (nw_38 hn)
    | 13, _ => exact va_eqtl (nw_39 hn)
    | 14, _ => exact va_eqtl (nw_40 hn)
    | 15, _ => exact va_eqtl (nw_41 hn)
    | 16, _ => exact va_eqtl (nw_42 hn)
    | 17, _ => exact va_eqtl (nw_43 hn)
    | 18, _ => exact va_eqtl (nw_44 hn)
    | j + 19, hj => exact absurd hj (by omega)
  obtain ⟨t0, h0, T0⟩ := va_Tof (tm := (Term.static "MarbleFloor$Shortest" "STEPS" "[I")) (ty := .int) (N := 18) (f := fun j => .int (zSteps.getD j 0)) (by decide) (nw_3 hn) (va_eqt (nw_4 hn)) e0 hA
  obtain ⟨t1, h1, T1⟩ := va_Tof (tm := (Term.static "MarbleFloor$Tape" "WORDS" "[J")) (ty := .long) (N := 19) (f := fun j => .long (zWords.getD j 0)) (by decide) (nw_24 hn) (va_eqt (nw_25 hn)) e1 hA
  have ez : ∃ tm : Nat → Term, tm 0 = (Term.string "MarbleFloorModel" (119 : Nat)) ∧ tm 1 = (Term.string "MarbleFloorModel" (102 : Nat)) ∧ tm 2 = (Term.string "MarbleFloorModel" (104 : Nat)) ∧ tm 3 = (Term.string "MarbleFloorModel" (109 : Nat)) ∧ tm 4 = (Term.string "MarbleFloorModel" (426 : Nat)) ∧ tm 5 = (Term.string "MarbleFloorModel" (446 : Nat)) ∧ tm 6 = (Term.string "MarbleFloorModel" (447 : Nat)) ∧ tm 7 = (Term.string "MarbleFloorModel" (449 : Nat)) ∧ tm 8 = (Term.string "MarbleFloorModel" (451 : Nat)) ∧ tm 9 = (Term.string "MarbleFloorModel" (452 : Nat)) ∧ tm 10 = (Term.string "MarbleFloorModel" (454 : Nat)) ∧ tm 11 = (Term.string "MarbleFloorModel" (428 : Nat)) ∧ tm 12 = (Term.string "MarbleFloorModel" (429 : Nat)) ∧ tm 13 = (Term.string "MarbleFloorModel" (431 : Nat)) ∧ tm 14 = (Term.string "MarbleFloorModel" (433 : Nat)) ∧ tm 15 = (Term.string "MarbleFloorModel" (435 : Nat)) ∧ tm 16 = (Term.string "MarbleFloorModel" (437 : Nat)) ∧ tm 17 = (Term.string "MarbleFloorModel" (439 : Nat)) ∧ tm 18 = (Term.string "MarbleFloorModel" (441 : Nat)) ∧ tm 19 = (Term.string "MarbleFloorModel" (379 : Nat)) := ⟨fun i => ([(Term.string "MarbleFloorModel" (119 : Nat)), (Term.string "MarbleFloorModel" (102 : Nat)), (Term.string "MarbleFloorModel" (104 : Nat)), (Term.string "MarbleFloorModel" (109 : Nat)), (Term.string "MarbleFloorModel" (426 : Nat)), (Term.string "MarbleFloorModel" (446 : Nat)), (Term.string "MarbleFloorModel" (447 : Nat)), (Term.string "MarbleFloorModel" (449 : Nat)), (Term.string "MarbleFloorModel" (451 : Nat)), (Term.string "MarbleFloorModel" (452 : Nat)), (Term.string "MarbleFloorModel" (454 : Nat)), (Term.string "MarbleFloorModel" (428 : Nat)), (Term.string "MarbleFloorModel" (429 : Nat)), (Term.string "MarbleFloorModel" (431 : Nat)), (Term.string "MarbleFloorModel" (433 : Nat)), (Term.string "MarbleFloorModel" (435 : Nat)), (Term.string "MarbleFloorModel" (437 : Nat)), (Term.string "MarbleFloorModel" (439 : Nat)), (Term.string "MarbleFloorModel" (441 : Nat)), (Term.string "MarbleFloorModel" (379 : Nat))] : List Term).getD i (.int 0), rfl, rfl, rfl, rfl, rfl, rfl, rfl, rfl, rfl, rfl, rfl, rfl, rfl, rfl, rfl, rfl, rfl, rfl, rfl, rfl⟩
  obtain ⟨tm, m0, m1, m2, m3, m4, m5, m6, m7, m8, m9, m10, m11, m12, m13, m14, m15, m16, m17, m18, m19⟩ := ez
  have c1 : ∀ i : Nat, i < 20 → (Cond.exactly (tm i) "java/lang/String").before args s = true := by
    intro i hi
    match i, hi with
    | 0, _ => rw [m0]; exact (nw_65 hn)
    | 1, _ => rw [m1]; exact (nw_74 hn)
    | 2, _ => rw [m2]; exact (nw_83 hn)
    | 3, _ => rw [m3]; exact (nw_93 hn)
    | 4, _ => rw [m4]; exact (nw_102 hn)
    | 5, _ => rw [m5]; exact (nw_114 hn)
    | 6, _ => rw [m6]; exact (nw_126 hn)
    | 7, _ => rw [m7]; exact (nw_139 hn)
    | 8, _ => rw [m8]; exact (nw_153 hn)
    | 9, _ => rw [m9]; exact (nw_169 hn)
    | 10, _ => rw [m10]; exact (nw_186 hn)
    | 11, _ => rw [m11]; exact (nw_206 hn)
    | 12, _ => rw [m12]; exact (nw_223 hn)
    | 13, _ => rw [m13]; exact (nw_242 hn)
    | 14, _ => rw [m14]; exact (nw_263 hn)
    | 15, _ => rw [m15]; exact (nw_285 hn)
    | 16, _ => rw [m16]; exact (nw_306 hn)
    | 17, _ => rw [m17]; exact (nw_328 hn)
    | 18, _ => rw [m18]; exact (nw_353 hn)
    | 19, _ => rw [m19]; exact (nw_380 hn)
    | i + 20, hi => exact absurd hi (by omega)
  have c2 : ∀ i : Nat, i < 20 → (Cond.eq (.field (tm i) "java/lang/String" "coder" "B") (.int 0)).before args s = true := by
    intro i hi
    match i, hi with
    | 0, _ => rw [m0]; exact (nw_66 hn)
    | 1, _ => rw [m1]; exact (nw_75 hn)
    | 2, _ => rw [m2]; exact (nw_84 hn)
    | 3, _ => rw [m3]; exact (nw_94 hn)
    | 4, _ => rw [m4]; exact (nw_103 hn)
    | 5, _ => rw [m5]; exact (nw_115 hn)
    | 6, _ => rw [m6]; exact (nw_127 hn)
    | 7, _ => rw [m7]; exact (nw_140 hn)
    | 8, _ => rw [m8]; exact (nw_154 hn)
    | 9, _ => rw [m9]; exact (nw_170 hn)
    | 10, _ => rw [m10]; exact (nw_187 hn)
    | 11, _ => rw [m11]; exact (nw_207 hn)
    | 12, _ => rw [m12]; exact (nw_224 hn)
    | 13, _ => rw [m13]; exact (nw_243 hn)
    | 14, _ => rw [m14]; exact (nw_264 hn)
    | 15, _ => rw [m15]; exact (nw_286 hn)
    | 16, _ => rw [m16]; exact (nw_307 hn)
    | 17, _ => rw [m17]; exact (nw_329 hn)
    | 18, _ => rw [m18]; exact (nw_354 hn)
    | 19, _ => rw [m19]; exact (nw_381 hn)
    | i + 20, hi => exact absurd hi (by omega)
  have c3 : ∀ i : Nat, i < 20 → (Cond.arrayOf (.field (tm i) "java/lang/String" "value" "[B") .byte).before args s = true := by
    intro i hi
    match i, hi with
    | 0, _ => rw [m0]; exact (nw_67 hn)
    | 1, _ => rw [m1]; exact (nw_76 hn)
    | 2, _ => rw [m2]; exact (nw_85 hn)
    | 3, _ => rw [m3]; exact (nw_95 hn)
    | 4, _ => rw [m4]; exact (nw_104 hn)
    | 5, _ => rw [m5]; exact (nw_116 hn)
    | 6, _ => rw [m6]; exact (nw_128 hn)
    | 7, _ => rw [m7]; exact (nw_141 hn)
    | 8, _ => rw [m8]; exact (nw_155 hn)
    | 9, _ => rw [m9]; exact (nw_171 hn)
    | 10, _ => rw [m10]; exact (nw_188 hn)
    | 11, _ => rw [m11]; exact (nw_208 hn)
    | 12, _ => rw [m12]; exact (nw_225 hn)
    | 13, _ => rw [m13]; exact (nw_244 hn)
    | 14, _ => rw [m14]; exact (nw_265 hn)
    | 15, _ => rw [m15]; exact (nw_287 hn)
    | 16, _ => rw [m16]; exact (nw_308 hn)
    | 17, _ => rw [m17]; exact (nw_330 hn)
    | 18, _ => rw [m18]; exact (nw_355 hn)
    | 19, _ => rw [m19]; exact (nw_382 hn)
    | i + 20, hi => exact absurd hi (by omega)
  have c4 : ∀ i : Nat, i < 20 → (Cond.eq (.length (.field (tm i) "java/lang/String" "value" "[B")) (.int (Int32.ofNat (zLen.getD i 0)))).before args s = true := by
    intro i hi
    match i, hi with
    | 0, _ => rw [m0]; exact (nw_68 hn)
    | 1, _ => rw [m1]; exact (nw_77 hn)
    | 2, _ => rw [m2]; exact (nw_86 hn)
    | 3, _ => rw [m3]; exact (nw_96 hn)
    | 4, _ => rw [m4]; exact (nw_105 hn)
    | 5, _ => rw [m5]; exact (nw_117 hn)
    | 6, _ => rw [m6]; exact (nw_129 hn)
    | 7, _ => rw [m7]; exact (nw_142 hn)
    | 8, _ => rw [m8]; exact (nw_156 hn)
    | 9, _ => rw [m9]; exact (nw_172 hn)
    | 10, _ => rw [m10]; exact (nw_189 hn)
    | 11, _ => rw [m11]; exact (nw_209 hn)
    | 12, _ => rw [m12]; exact (nw_226 hn)
    | 13, _ => rw [m13]; exact (nw_245 hn)
    | 14, _ => rw [m14]; exact (nw_266 hn)
    | 15, _ => rw [m15]; exact (nw_288 hn)
    | 16, _ => rw [m16]; exact (nw_309 hn)
    | 17, _ => rw [m17]; exact (nw_331 hn)
    | 18, _ => rw [m18]; exact (nw_356 hn)
    | 19, _ => rw [m19]; exact (nw_383 hn)
    | i + 20, hi => exact absurd hi (by omega)
  have c5 : ∀ i : Nat, i < 20 → ∀ j : Nat, j < zLen.getD i 0 → (Cond.eq (.elem (.field (tm i) "java/lang/String" "value" "[B") (.int (Int32.ofNat j))) (.int ((zByt.getD i []).getD j 0))).before args s = true := by
    intro i hi j hj
    match i, hi, j, hj with
    | 0, _, 0, _ => rw [m0]; exact (nw_69 hn)
    | 0, _, 1, _ => rw [m0]; exact (nw_70 hn)
    | 0, _, 2, _ => rw [m0]; exact (nw_71 hn)
    | 0, _, 3, _ => rw [m0]; exact (nw_72 hn)
    | 0, _, 4, _ => rw [m0]; exact (nw_73 hn)
    | 0, _, j + 5, hj => exact absurd hj (by show ¬ (j + 5 < 5); omega)
    | 1, _, 0, _ => rw [m1]; exact (nw_78 hn)
    | 1, _, 1, _ => rw [m1]; exact (nw_79 hn)
    | 1, _, 2, _ => rw [m1]; exact (nw_80 hn)
    | 1, _, 3, _ => rw [m1]; exact (nw_81 hn)
    | 1, _, j + 4, hj => exact absurd hj (by show ¬ (j + 4 < 4); omega)
    | 2, _, 0, _ => rw [m2]; exact (nw_87 hn)
    | 2, _, 1, _ => rw [m2]; exact (nw_88 hn)
    | 2, _, 2, _ => rw [m2]; exact (nw_89 hn)
    | 2, _, 3, _ => rw [m2]; exact (nw_90 hn)
    | 2, _, j + 4, hj => exact absurd hj (by show ¬ (j + 4 < 4); omega)
    | 3, _, 0, _ => rw [m3]; exact (nw_97 hn)
    | 3, _, 1, _ => rw [m3]; exact (nw_98 hn)
    | 3, _, j + 2, hj => exact absurd hj (by show ¬ (j + 2 < 2); omega)
    | 4, _, 0, _ => rw [m4]; exact (nw_106 hn)
    | 4, _, 1, _ => rw [m4]; exact (nw_107 hn)
    | 4, _, 2, _ => rw [m4]; exact (nw_108 hn)
    | 4, _, 3, _ => rw [m4]; exact (nw_109 hn)
    | 4, _, j + 4, hj => exact absurd hj (by show ¬ (j + 4 < 4); omega)
    | 5, _, 0, _ => rw [m5]; exact (nw_118 hn)
    | 5, _, 1, _ => rw [m5]; exact (nw_119 hn)
    | 5, _, 2, _ => rw [m5]; exact (nw_120 hn)
    | 5, _, j + 3, hj => exact absurd hj (by show ¬ (j + 3 < 3); omega)
    | 6, _, 0, _ => rw [m6]; exact (nw_130 hn)
    | 6, _, 1, _ => rw [m6]; exact (nw_131 hn)
    | 6, _, 2, _ => rw [m6]; exact (nw_132 hn)
    | 6, _, j + 3, hj => exact absurd hj (by show ¬ (j + 3 < 3); omega)
    | 7, _, 0, _ => rw [m7]; exact (nw_143 hn)
    | 7, _, 1, _ => rw [m7]; exact (nw_144 hn)
    | 7, _, 2, _ => rw [m7]; exact (nw_145 hn)
    | 7, _, j + 3, hj => exact absurd hj (by show ¬ (j + 3 < 3); omega)
    | 8, _, 0, _ => rw [m8]; exact (nw_157 hn)
    | 8, _, 1, _ => rw [m8]; exact (nw_158 hn)
    | 8, _, 2, _ => rw [m8]; exact (nw_159 hn)
    | 8, _, 3, _ => rw [m8]; exact (nw_160 hn)
    | 8, _, j + 4, hj => exact absurd hj (by show ¬ (j + 4 < 4); omega)
    | 9, _, 0, _ => rw [m9]; exact (nw_173 hn)
    | 9, _, 1, _ => rw [m9]; exact (nw_174 hn)
    | 9, _, 2, _ => rw [m9]; exact (nw_175 hn)
    | 9, _, 3, _ => rw [m9]; exact (nw_176 hn)
    | 9, _, j + 4, hj => exact absurd hj (by show ¬ (j + 4 < 4); omega)
    | 10, _, 0, _ => rw [m10]; exact (nw_190 hn)
    | 10, _, 1, _ => rw [m10]; exact (nw_191 hn)
    | 10, _, 2, _ => rw [m10]; exact (nw_192 hn)
    | 10, _, 3, _ => rw [m10]; exact (nw_193 hn)
    | 10, _, 4, _ => rw [m10]; exact (nw_194 hn)
    | 10, _, 5, _ => rw [m10]; exact (nw_195 hn)
    | 10, _, j + 6, hj => exact absurd hj (by show ¬ (j + 6 < 6); omega)
    | 11, _, 0, _ => rw [m11]; exact (nw_210 hn)
    | 11, _, 1, _ => rw [m11]; exact (nw_211 hn)
    | 11, _, j + 2, hj => exact absurd hj (by show ¬ (j + 2 < 2); omega)
    | 12, _, 0, _ => rw [m12]; exact (nw_227 hn)
    | 12, _, 1, _ => rw [m12]; exact (nw_228 hn)
    | 12, _, 2, _ => rw [m12]; exact (nw_229 hn)
    | 12, _, j + 3, hj => exact absurd hj (by show ¬ (j + 3 < 3); omega)
    | 13, _, 0, _ => rw [m13]; exact (nw_246 hn)
    | 13, _, 1, _ => rw [m13]; exact (nw_247 hn)
    | 13, _, 2, _ => rw [m13]; exact (nw_248 hn)
    | 13, _, 3, _ => rw [m13]; exact (nw_249 hn)
    | 13, _, j + 4, hj => exact absurd hj (by show ¬ (j + 4 < 4); omega)
    | 14, _, 0, _ => rw [m14]; exact (nw_267 hn)
    | 14, _, 1, _ => rw [m14]; exact (nw_268 hn)
    | 14, _, 2, _ => rw [m14]; exact (nw_269 hn)
    | 14, _, 3, _ => rw [m14]; exact (nw_270 hn)
    | 14, _, j + 4, hj => exact absurd hj (by show ¬ (j + 4 < 4); omega)
    | 15, _, 0, _ => rw [m15]; exact (nw_289 hn)
    | 15, _, 1, _ => rw [m15]; exact (nw_290 hn)
    | 15, _, j + 2, hj => exact absurd hj (by show ¬ (j + 2 < 2); omega)
    | 16, _, 0, _ => rw [m16]; exact (nw_310 hn)
    | 16, _, 1, _ => rw [m16]; exact (nw_311 hn)
    | 16, _, j + 2, hj => exact absurd hj (by show ¬ (j + 2 < 2); omega)
    | 17, _, 0, _ => rw [m17]; exact (nw_332 hn)
    | 17, _, 1, _ => rw [m17]; exact (nw_333 hn)
    | 17, _, 2, _ => rw [m17]; exact (nw_334 hn)
    | 17, _, 3, _ => rw [m17]; exact (nw_335 hn)
    | 17, _, j + 4, hj => exact absurd hj (by show ¬ (j + 4 < 4); omega)
    | 18, _, 0, _ => rw [m18]; exact (nw_357 hn)
    | 18, _, 1, _ => rw [m18]; exact (nw_358 hn)
    | 18, _, 2, _ => rw [m18]; exact (nw_359 hn)
    | 18, _, 3, _ => rw [m18]; exact (nw_360 hn)
    | 18, _, 4, _ => rw [m18]; exact (nw_361 hn)
    | 18, _, j + 5, hj => exact absurd hj (by show ¬ (j + 5 < 5); omega)
    | 19, _, 0, _ => rw [m19]; exact (nw_384 hn)
    | 19, _, j + 1, hj => exact absurd hj (by show ¬ (j + 1 < 1); omega)
    | i + 20, hi, _, _ => exact absurd hi (by omega)
  have c6 : ∀ i j : Nat, i < 20 → j < 20 → i ≠ j → (Cond.not (Cond.eq (tm i) (tm j))).before args s = true ∨ (Cond.not (Cond.eq (tm j) (tm i))).before args s = true := by
    have c7 : ∀ i j : Nat, i < j → j < 20 → (Cond.not (Cond.eq (tm i) (tm j))).before args s = true ∨ (Cond.not (Cond.eq (tm j) (tm i))).before args s = true := by
      intro i j h1 h2
      match j, h2, i, h1 with
      | 0, _, i + 0, h1 => exact absurd h1 (by omega)
      | 1, _, 0, _ => rw [m0, m1]; exact Or.inl (nw_82 hn)
      | 1, _, i + 1, h1 => exact absurd h1 (by omega)
      | 2, _, 0, _ => rw [m0, m2]; exact Or.inl (nw_91 hn)
      | 2, _, 1, _ => rw [m1, m2]; exact Or.inl (nw_92 hn)
      | 2, _, i + 2, h1 => exact absurd h1 (by omega)
      | 3, _, 0, _ => rw [m0, m3]; exact Or.inl (nw_99 hn)
      | 3, _, 1, _ => rw [m1, m3]; exact Or.inl (nw_100 hn)
      | 3, _, 2, _ => rw [m2, m3]; exact Or.inl (nw_101 hn)
      | 3, _, i + 3, h1 => exact absurd h1 (by omega)
      | 4, _, 0, _ => rw [m0, m4]; exact Or.inl (nw_110 hn)
      | 4, _, 1, _ => rw [m1, m4]; exact Or.inl (nw_111 hn)
      | 4, _, 2, _ => rw [m2, m4]; exact Or.inl (nw_112 hn)
      | 4, _, 3, _ => rw [m3, m4]; exact Or.inl (nw_113 hn)
      | 4, _, i + 4, h1 => exact absurd h1 (by omega)
      | 5, _, 0, _ => rw [m0, m5]; exact Or.inl (nw_121 hn)
      | 5, _, 1, _ => rw [m1, m5]; exact Or.inl (nw_122 hn)
      | 5, _, 2, _ => rw [m2, m5]; exact Or.inl (nw_123 hn)
      | 5, _, 3, _ => rw [m3, m5]; exact Or.inl (nw_124 hn)
      | 5, _, 4, _ => rw [m4, m5]; exact Or.inl (nw_125 hn)
      | 5, _, i + 5, h1 => exact absurd h1 (by omega)
      | 6, _, 0, _ => rw [m0, m6]; exact Or.inl (nw_133 hn)
      | 6, _, 1, _ => rw [m1, m6]; exact Or.inl (nw_134 hn)
      | 6, _, 2, _ => rw [m2, m6]; exact Or.inl (nw_135 hn)
      | 6, _, 3, _ => rw [m3, m6]; exact Or.inl (nw_136 hn)
      | 6, _, 4, _ => rw [m4, m6]; exact Or.inl (nw_137 hn)
      | 6, _, 5, _ => rw [m5, m6]; exact Or.inl (nw_138 hn)
      | 6, _, i + 6, h1 => exact absurd h1 (by omega)
      | 7, _, 0, _ => rw [m0, m7]; exact Or.inl (nw_146 hn)
      | 7, _, 1, _ => rw [m1, m7]; exact Or.inl (nw_147 hn)
      | 7, _, 2, _ => rw [m2, m7]; exact Or.inl (nw_148 hn)
      | 7, _, 3, _ => rw [m3, m7]; exact Or.inl (nw_149 hn)
      | 7, _, 4, _ => rw [m4, m7]; exact Or.inl (nw_150 hn)
      | 7, _, 5, _ => rw [m5, m7]; exact Or.inl (nw_151 hn)
      | 7, _, 6, _ => rw [m6, m7]; exact Or.inl (nw_152 hn)
      | 7, _, i + 7, h1 => exact absurd h1 (by omega)
      | 8, _, 0, _ => rw [m0, m8]; exact Or.inl (nw_161 hn)
      | 8, _, 1, _ => rw [m1, m8]; exact Or.inl (nw_162 hn)
      | 8, _, 2, _ => rw [m2, m8]; exact Or.inl (nw_163 hn)
      | 8, _, 3, _ => rw [m3, m8]; exact Or.inl (nw_164 hn)
      | 8, _, 4, _ => rw [m4, m8]; exact Or.inl (nw_165 hn)
      | 8, _, 5, _ => rw [m5, m8]; exact Or.inl (nw_166 hn)
      | 8, _, 6, _ => rw [m6, m8]; exact Or.inl (nw_167 hn)
      | 8, _, 7, _ => rw [m7, m8]; exact Or.inl (nw_168 hn)
      | 8, _, i + 8, h1 => exact absurd h1 (by omega)
      | 9, _, 0, _ => rw [m0, m9]; exact Or.inl (nw_177 hn)
      | 9, _, 1, _ => rw [m1, m9]; exact Or.inl (nw_178 hn)
      | 9, _, 2, _ => rw [m2, m9]; exact Or.inl (nw_179 hn)
      | 9, _, 3, _ => rw [m3, m9]; exact Or.inl (nw_180 hn)
      | 9, _, 4, _ => rw [m4, m9]; exact Or.inl (nw_181 hn)
      | 9, _, 5, _ => rw [m5, m9]; exact Or.inl (nw_182 hn)
      | 9, _, 6, _ => rw [m6, m9]; exact Or.inl (nw_183 hn)
      | 9, _, 7, _ => rw [m7, m9]; exact Or.inl (nw_184 hn)
      | 9, _, 8, _ => rw [m8, m9]; exact Or.inl (nw_185 hn)
      | 9, _, i + 9, h1 => exact absurd h1 (by omega)
      | 10, _, 0, _ => rw [m0, m10]; exact Or.inl (nw_196 hn)
      | 10, _, 1, _ => rw [m1, m10]; exact Or.inl (nw_197 hn)
      | 10, _, 2, _ => rw [m2, m10]; exact Or.inl (nw_198 hn)
      | 10, _, 3, _ => rw [m3, m10]; exact Or.inl (nw_199 hn)
      | 10, _, 4, _ => rw [m4, m10]; exact Or.inl (nw_200 hn)
      | 10, _, 5, _ => rw [m5, m10]; exact Or.inl (nw_201 hn)
      | 10, _, 6, _ => rw [m6, m10]; exact Or.inl (nw_202 hn)
      | 10, _, 7, _ => rw [m7, m10]; exact Or.inl (nw_203 hn)
      | 10, _, 8, _ => rw [m8, m10]; exact Or.inl (nw_204 hn)
      | 10, _, 9, _ => rw [m9, m10]; exact Or.inl (nw_205 hn)
      | 10, _, i + 10, h1 => exact absurd h1 (by omega)
      | 11, _, 0, _ => rw [m0, m11]; exact Or.inl (nw_212 hn)
      | 11, _, 1, _ => rw [m1, m11]; exact Or.inl (nw_213 hn)
      | 11, _, 2, _ => rw [m2, m11]; exact Or.inl (nw_214 hn)
      | 11, _, 3, _ => rw [m3, m11]; exact Or.inl (nw_215 hn)
      | 11, _, 4, _ => rw [m4, m11]; exact Or.inl (nw_216 hn)
      | 11, _, 5, _ => rw [m5, m11]; exact Or.inl (nw_217 hn)
      | 11, _, 6, _ => rw [m6, m11]; exact Or.inl (nw_218 hn)
      | 11, _, 7, _ => rw [m7, m11]; exact Or.inl (nw_219 hn)
      | 11, _, 8, _ => rw [m8, m11]; exact Or.inl (nw_220 hn)
      | 11, _, 9, _ => rw [m9, m11]; exact Or.inl (nw_221 hn)
      | 11, _, 10, _ => rw [m10, m11]; exact Or.inl (nw_222 hn)
      | 11, _, i + 11, h1 => exact absurd h1 (by omega)
      | 12, _, 0, _ => rw [m0, m12]; exact Or.inl (nw_230 hn)
      | 12, _, 1, _ => rw [m1, m12]; exact Or.inl (nw_231 hn)
      | 12, _, 2, _ => rw [m2, m12]; exact Or.inl (nw_232 hn)
      | 12, _, 3, _ => rw [m3, m12]; exact Or.inl (nw_233 hn)
      | 12, _, 4, _ => rw [m4, m12]; exact Or.inl (nw_234 hn)
      | 12, _, 5, _ => rw [m5, m12]; exact Or.inl (nw_235 hn)
      | 12, _, 6, _ => rw [m6, m12]; exact Or.inl (nw_236 hn)
      | 12, _, 7, _ => rw [m7, m12]; exact Or.inl (nw_237 hn)
      | 12, _, 8, _ => rw [m8, m12]; exact Or.inl (nw_238 hn)
      | 12, _, 9, _ => rw [m9, m12]; exact Or.inl (nw_239 hn)
      | 12, _, 10, _ => rw [m10, m12]; exact Or.inl (nw_240 hn)
      | 12, _, 11, _ => rw [m11, m12]; exact Or.inl (nw_241 hn)
      | 12, _, i + 12, h1 => exact absurd h1 (by omega)
      | 13, _, 0, _ => rw [m0, m13]; exact Or.inl (nw_250 hn)
      | 13, _, 1, _ => rw [m1, m13]; exact Or.inl (nw_251 hn)
      | 13, _, 2, _ => rw [m2, m13]; exact Or.inl (nw_252 hn)
      | 13, _, 3, _ => rw [m3, m13]; exact Or.inl (nw_253 hn)
      | 13, _, 4, _ => rw [m4, m13]; exact Or.inl (nw_254 hn)
      | 13, _, 5, _ => rw [m5, m13]; exact Or.inl (nw_255 hn)
      | 13, _, 6, _ => rw [m6, m13]; exact Or.inl (nw_256 hn)
      | 13, _, 7, _ => rw [m7, m13]; exact Or.inl (nw_257 hn)
      | 13, _, 8, _ => rw [m8, m13]; exact Or.inl (nw_258 hn)
      | 13, _, 9, _ => rw [m9, m13]; exact Or.inl (nw_259 hn)
      | 13, _, 10, _ => rw [m10, m13]; exact Or.inl (nw_260 hn)
      | 13, _, 11, _ => rw [m11, m13]; exact Or.inl (nw_261 hn)
      | 13, _, 12, _ => rw [m12, m13]; exact Or.inl (nw_262 hn)
      | 13, _, i + 13, h1 => exact absurd h1 (by omega)
      | 14, _, 0, _ => rw [m0, m14]; exact Or.inl (nw_271 hn)
      | 14, _, 1, _ => rw [m1, m14]; exact Or.inl (nw_272 hn)
      | 14, _, 2, _ => rw [m2, m14]; exact Or.inl (nw_273 hn)
      | 14, _, 3, _ => rw [m3, m14]; exact Or.inl (nw_274 hn)
      | 14, _, 4, _ => rw [m4, m14]; exact Or.inl (nw_275 hn)
      | 14, _, 5, _ => rw [m5, m14]; exact Or.inl (nw_276 hn)
      | 14, _, 6, _ => rw [m6, m14]; exact Or.inl (nw_277 hn)
      | 14, _, 7, _ => rw [m7, m14]; exact Or.inl (nw_278 hn)
      | 14, _, 8, _ => rw [m8, m14]; exact Or.inl (nw_279 hn)
      | 14, _, 9, _ => rw [m9, m14]; exact Or.inl (nw_280 hn)
      | 14, _, 10, _ => rw [m10, m14]; exact Or.inl (nw_281 hn)
      | 14, _, 11, _ => rw [m11, m14]; exact Or.inl (nw_282 hn)
      | 14, _, 12, _ => rw [m12, m14]; exact Or.inl (nw_283 hn)
      | 14, _, 13, _ => rw [m13, m14]; exact Or.inl (nw_284 hn)
      | 14, _, i + 14, h1 => exact absurd h1 (by omega)
      | 15, _, 0, _ => rw [m0, m15]; exact Or.inl (nw_291 hn)
      | 15, _, 1, _ => rw [m1, m15]; exact Or.inl (nw_292 hn)
      | 15, _, 2, _ => rw [m2, m15]; exact Or.inl (nw_293 hn)
      | 15, _, 3, _ => rw [m3, m15]; exact Or.inl (nw_294 hn)
      | 15, _, 4, _ => rw [m4, m15]; exact Or.inl (nw_295 hn)
      | 15, _, 5, _ => rw [m5, m15]; exact Or.inl (nw_296 hn)
      | 15, _, 6, _ => rw [m6, m15]; exact Or.inl (nw_297 hn)
      | 15, _, 7, _ => rw [m7, m15]; exact Or.inl (nw_298 hn)
      | 15, _, 8, _ => rw [m8, m15]; exact Or.inl (nw_299 hn)
      | 15, _, 9, _ => rw [m9, m15]; exact Or.inl (nw_300 hn)
      | 15, _, 10, _ => rw [m10, m15]; exact Or.inl (nw_301 hn)
      | 15, _, 11, _ => rw [m11, m15]; exact Or.inl (nw_302 hn)
      | 15, _, 12, _ => rw [m12, m15]; exact Or.inl (nw_303 hn)
      | 15, _, 13, _ => rw [m13, m15]; exact Or.inl (nw_304 hn)
      | 15, _, 14, _ => rw [m14, m15]; exact Or.inl (nw_305 hn)
      | 15, _, i + 15, h1 => exact absurd h1 (by omega)
      | 16, _, 0, _ => rw [m0, m16]; exact Or.inl (nw_312 hn)
      | 16, _, 1, _ => rw [m1, m16]; exact Or.inl (nw_313 hn)
      | 16, _, 2, _ => rw [m2, m16]; exact Or.inl (nw_314 hn)
      | 16, _, 3, _ => rw [m3, m16]; exact Or.inl (nw_315 hn)
      | 16, _, 4, _ => rw [m4, m16]; exact Or.inl (nw_316 hn)
      | 16, _, 5, _ => rw [m5, m16]; exact Or.inl (nw_317 hn)
      | 16, _, 6, _ => rw [m6, m16]; exact Or.inl (nw_318 hn)
      | 16, _, 7, _ => rw [m7, m16]; exact Or.inl (nw_319 hn)
      | 16, _, 8, _ => rw [m8, m16]; exact Or.inl (nw_320 hn)
      | 16, _, 9, _ => rw [m9, m16]; exact Or.inl (nw_321 hn)
      | 16, _, 10, _ => rw [m10, m16]; exact Or.inl (nw_322 hn)
      | 16, _, 11, _ => rw [m11, m16]; exact Or.inl (nw_323 hn)
      | 16, _, 12, _ => rw [m12, m16]; exact Or.inl (nw_324 hn)
      | 16, _, 13, _ => rw [m13, m16]; exact Or.inl (nw_325 hn)
      | 16, _, 14, _ => rw [m14, m16]; exact Or.inl (nw_326 hn)
      | 16, _, 15, _ => rw [m15, m16]; exact Or.inl (nw_327 hn)
      | 16, _, i + 16, h1 => exact absurd h1 (by omega)
      | 17, _, 0, _ => rw [m0, m17]; exact Or.inl (nw_336 hn)
      | 17, _, 1, _ => rw [m1, m17]; exact Or.inl (nw_337 hn)
      | 17, _, 2, _ => rw [m2, m17]; exact Or.inl (nw_338 hn)
      | 17, _, 3, _ => rw [m3, m17]; exact Or.inl (nw_339 hn)
      | 17, _, 4, _ => rw [m4, m17]; exact Or.inl (nw_340 hn)
      | 17, _, 5, _ => rw [m5, m17]; exact Or.inl (nw_341 hn)
      | 17, _, 6, _ => rw [m6, m17]; exact Or.inl (nw_342 hn)
      | 17, _, 7, _ => rw [m7, m17]; exact Or.inl (nw_343 hn)
      | 17, _, 8, _ => rw [m8, m17]; exact Or.inl (nw_344 hn)
      | 17, _, 9, _ => rw [m9, m17]; exact Or.inl (nw_345 hn)
      | 17, _, 10, _ => rw [m10, m17]; exact Or.inl (nw_346 hn)
      | 17, _, 11, _ => rw [m11, m17]; exact Or.inl (nw_347 hn)
      | 17, _, 12, _ => rw [m12, m17]; exact Or.inl (nw_348 hn)
      | 17, _, 13, _ => rw [m13, m17]; exact Or.inl (nw_349 hn)
      | 17, _, 14, _ => rw [m14, m17]; exact Or.inl (nw_350 hn)
      | 17, _, 15, _ => rw [m15, m17]; exact Or.inl (nw_351 hn)
      | 17, _, 16, _ => rw [m16, m17]; exact Or.inl (nw_352 hn)
      | 17, _, i + 17, h1 => exact absurd h1 (by omega)
      | 18, _, 0, _ => rw [m0, m18]; exact Or.inl (nw_362 hn)
      | 18, _, 1, _ => rw [m1, m18]; exact Or.inl (nw_363 hn)
      | 18, _, 2, _ => rw [m2, m18]; exact Or.inl (nw_364 hn)
      | 18, _, 3, _ => rw [m3, m18]; exact Or.inl (nw_365 hn)
      | 18, _, 4, _ => rw [m4, m18]; exact Or.inl (nw_366 hn)
      | 18, _, 5, _ => rw [m5, m18]; exact Or.inl (nw_367 hn)
      | 18, _, 6, _ => rw [m6, m18]; exact Or.inl (nw_368 hn)
      | 18, _, 7, _ => rw [m7, m18]; exact Or.inl (nw_369 hn)
      | 18, _, 8, _ => rw [m8, m18]; exact Or.inl (nw_370 hn)
      | 18, _, 9, _ => rw [m9, m18]; exact Or.inl (nw_371 hn)
      | 18, _, 10, _ => rw [m10, m18]; exact Or.inl (nw_372 hn)
      | 18, _, 11, _ => rw [m11, m18]; exact Or.inl (nw_373 hn)
      | 18, _, 12, _ => rw [m12, m18]; exact Or.inl (nw_374 hn)
      | 18, _, 13, _ => rw [m13, m18]; exact Or.inl (nw_375 hn)
      | 18, _, 14, _ => rw [m14, m18]; exact Or.inl (nw_376 hn)
      | 18, _, 15, _ => rw [m15, m18]; exact Or.inl (nw_377 hn)
      | 18, _, 16, _ => rw [m16, m18]; exact Or.inl (nw_378 hn)
      | 18, _, 17, _ => rw [m17, m18]; exact Or.inl (nw_379 hn)
      | 18, _, i + 18, h1 => exact absurd h1 (by omega)
      | 19, _, 0, _ => rw [m0, m19]; exact Or.inl (nw_385 hn)
      | 19, _, 1, _ => rw [m1, m19]; exact Or.inl (nw_386 hn)
      | 19, _, 2, _ => rw [m2, m19]; exact Or.inl (nw_387 hn)
      | 19, _, 3, _ => rw [m3, m19]; exact Or.inl (nw_388 hn)
      | 19, _, 4, _ => rw [m4, m19]; exact Or.inl (nw_389 hn)
      | 19, _, 5, _ => rw [m5, m19]; exact Or.inl (nw_390 hn)
      | 19, _, 6, _ => rw [m6, m19]; exact Or.inl (nw_391 hn)
      | 19, _, 7, _ => rw [m7, m19]; exact Or.inl (nw_392 hn)
      | 19, _, 8, _ => rw [m8, m19]; exact Or.inl (nw_393 hn)
      | 19, _, 9, _ => rw [m9, m19]; exact Or.inl (nw_394 hn)
      | 19, _, 10, _ => rw [m10, m19]; exact Or.inl (nw_395 hn)
      | 19, _, 11, _ => rw [m11, m19]; exact Or.inl (nw_396 hn)
      | 19, _, 12, _ => rw [m12, m19]; exact Or.inl (nw_397 hn)
      | 19, _, 13, _ => rw [m13, m19]; exact Or.inl (nw_398 hn)
      | 19, _, 14, _ => rw [m14, m19]; exact Or.inl (nw_399 hn)
      | 19, _, 15, _ => rw [m15, m19]; exact Or.inl (nw_400 hn)
      | 19, _, 16, _ => rw [m16, m19]; exact Or.inl (nw_401 hn)
      | 19, _, 17, _ => rw [m17, m19]; exact Or.inl (nw_402 hn)
      | 19, _, 18, _ => rw [m18, m19]; exact Or.inl (nw_403 hn)
      | 19, _, i + 19, h1 => exact absurd h1 (by omega)
      | j + 20, h2, _, _ => exact absurd h2 (by omega)
    intro i j hi hj hij
    rcases Nat.lt_or_gt_of_ne hij with h | h
    · exact c7 i j h hj
    · exact (c7 j i h hi).symm
  have c0 : ∀ i : Nat, i < 20 → zLen.getD i 0 < 2 ^ 31 := by
    intro i hi
    match i, hi with
    | 0, _ => exact (by decide : 5 < 2 ^ 31)
    | 1, _ => exact (by decide : 4 < 2 ^ 31)
    | 2, _ => exact (by decide : 4 < 2 ^ 31)
    | 3, _ => exact (by decide : 2 < 2 ^ 31)
    | 4, _ => exact (by decide : 4 < 2 ^ 31)
    | 5, _ => exact (by decide : 3 < 2 ^ 31)
    | 6, _ => exact (by decide : 3 < 2 ^ 31)
    | 7, _ => exact (by decide : 3 < 2 ^ 31)
    | 8, _ => exact (by decide : 4 < 2 ^ 31)
    | 9, _ => exact (by decide : 4 < 2 ^ 31)
    | 10, _ => exact (by decide : 6 < 2 ^ 31)
    | 11, _ => exact (by decide : 2 < 2 ^ 31)
    | 12, _ => exact (by decide : 3 < 2 ^ 31)
    | 13, _ => exact (by decide : 4 < 2 ^ 31)
    | 14, _ => exact (by decide : 4 < 2 ^ 31)
    | 15, _ => exact (by decide : 2 < 2 ^ 31)
    | 16, _ => exact (by decide : 2 < 2 ^ 31)
    | 17, _ => exact (by decide : 4 < 2 ^ 31)
    | 18, _ => exact (by decide : 5 < 2 ^ 31)
    | 19, _ => exact (by decide : 1 < 2 ^ 31)
    | i + 20, hi => exact absurd hi (by omega)
  obtain ⟨adK, adV, hS, hE⟩ := vk_Sof (N := 20) (tm := tm) (len := zLen) (byt := zByt) c0 c1 c2 c3 c4 c5 c6 hA
  have hr : ∀ (i : Nat) (q : Nat × String), zStrs[i]? = some q → vk_R "MarbleFloorModel" q.1 q.2 (adK i) s := by
    intro i q hq
    have hi : i < 20 := by
      have := (List.getElem?_eq_some_iff.mp hq).1
      exact this
    have hv := hE i hi
    match i, hi, hq, hv with
    | 0, _, hq, hv => cases hq; rw [m0] at hv; exact vk_R.of (ht _ (List.mem_append_right _ (List.mem_append_right _ (List.mem_append_right _ (List.mem_append_right _ (List.mem_append_right _ (List.mem_append_right _ (List.mem_append_right _ (List.mem_append_right _ (List.mem_append_left _ (List.mem_of_getElem? (i := 49) rfl))))))))))) hv
    | 1, _, hq, hv => cases hq; rw [m1] at hv; exact vk_R.of (ht _ (List.mem_append_right _ (List.mem_append_right _ (List.mem_append_right _ (List.mem_append_right _ (List.mem_append_right _ (List.mem_append_right _ (List.mem_append_right _ (List.mem_append_right _ (List.mem_append_left _ (List.mem_of_getElem? (i := 134) rfl))))))))))) hv
    | 2, _, hq, hv => cases hq; rw [m2] at hv; exact vk_R.of (ht _ (List.mem_append_right _ (List.mem_append_right _ (List.mem_append_right _ (List.mem_append_right _ (List.mem_append_right _ (List.mem_append_right _ (List.mem_append_right _ (List.mem_append_right _ (List.mem_append_left _ (List.mem_of_getElem? (i := 135) rfl))))))))))) hv
    | 3, _, hq, hv => cases hq; rw [m3] at hv; exact vk_R.of (ht _ (List.mem_append_right _ (List.mem_append_right _ (List.mem_append_right _ (List.mem_append_right _ (List.mem_append_right _ (List.mem_append_right _ (List.mem_append_right _ (List.mem_append_right _ (List.mem_append_left _ (List.mem_of_getElem? (i := 140) rfl))))))))))) hv
    | 4, _, hq, hv => cases hq; rw [m4] at hv; exact vk_R.of (ht _ (List.mem_append_right _ (List.mem_append_right _ (List.mem_append_right _ (List.mem_append_right _ (List.mem_append_right _ (List.mem_append_right _ (List.mem_append_right _ (List.mem_append_right _ (List.mem_append_right _ (List.mem_append_left _ (List.mem_of_getElem? (i := 19) rfl)))))))))))) hv
    | 5, _, hq, hv => cases hq; rw [m5] at hv; exact vk_R.of (ht _ (List.mem_append_right _ (List.mem_append_right _ (List.mem_append_right _ (List.mem_append_right _ (List.mem_append_right _ (List.mem_append_right _ (List.mem_append_right _ (List.mem_append_right _ (List.mem_append_right _ (List.mem_append_left _ (List.mem_of_getElem? (i := 32) rfl)))))))))))) hv
    | 6, _, hq, hv => cases hq; rw [m6] at hv; exact vk_R.of (ht _ (List.mem_append_right _ (List.mem_append_right _ (List.mem_append_right _ (List.mem_append_right _ (List.mem_append_right _ (List.mem_append_right _ (List.mem_append_right _ (List.mem_append_right _ (List.mem_append_right _ (List.mem_append_left _ (List.mem_of_getElem? (i := 33) rfl)))))))))))) hv
    | 7, _, hq, hv => cases hq; rw [m7] at hv; exact vk_R.of (ht _ (List.mem_append_right _ (List.mem_append_right _ (List.mem_append_right _ (List.mem_append_right _ (List.mem_append_right _ (List.mem_append_right _ (List.mem_append_right _ (List.mem_append_right _ (List.mem_append_right _ (List.mem_append_left _ (List.mem_of_getElem? (i := 34) rfl)))))))))))) hv
    | 8, _, hq, hv => cases hq; rw [m8] at hv; exact vk_R.of (ht _ (List.mem_append_right _ (List.mem_append_right _ (List.mem_append_right _ (List.mem_append_right _ (List.mem_append_right _ (List.mem_append_right _ (List.mem_append_right _ (List.mem_append_right _ (List.mem_append_right _ (List.mem_append_left _ (List.mem_of_getElem? (i := 35) rfl)))))))))))) hv
    | 9, _, hq, hv => cases hq; rw [m9] at hv; exact vk_R.of (ht _ (List.mem_append_right _ (List.mem_append_right _ (List.mem_append_right _ (List.mem_append_right _ (List.mem_append_right _ (List.mem_append_right _ (List.mem_append_right _ (List.mem_append_right _ (List.mem_append_right _ (List.mem_append_left _ (List.mem_of_getElem? (i := 36) rfl)))))))))))) hv
    | 10, _, hq, hv => cases hq; rw [m10] at hv; exact vk_R.of (ht _ (List.mem_append_right _ (List.mem_append_right _ (List.mem_append_right _ (List.mem_append_right _ (List.mem_append_right _ (List.mem_append_right _ (List.mem_append_right _ (List.mem_append_right _ (List.mem_append_right _ (List.mem_append_left _ (List.mem_of_getElem? (i := 37) rfl)))))))))))) hv
    | 11, _, hq, hv => cases hq; rw [m11] at hv; exact vk_R.of (ht _ (List.mem_append_right _ (List.mem_append_right _ (List.mem_append_right _ (List.mem_append_right _ (List.mem_append_right _ (List.mem_append_right _ (List.mem_append_right _ (List.mem_append_right _ (List.mem_append_right _ (List.mem_append_left _ (List.mem_of_getElem? (i := 38) rfl)))))))))))) hv
    | 12, _, hq, hv => cases hq; rw [m12] at hv; exact vk_R.of (ht _ (List.mem_append_right _ (List.mem_append_right _ (List.mem_append_right _ (List.mem_append_right _ (List.mem_append_right _ (List.mem_append_right _ (List.mem_append_right _ (List.mem_append_right _ (List.mem_append_right _ (List.mem_append_left _ (List.mem_of_getElem? (i := 39) rfl)))))))))))) hv
    | 13, _, hq, hv => cases hq; rw [m13] at hv; exact vk_R.of (ht _ (List.mem_append_right _ (List.mem_append_right _ (List.mem_append_right _ (List.mem_append_right _ (List.mem_append_right _ (List.mem_append_right _ (List.mem_append_right _ (List.mem_append_right _ (List.mem_append_right _ (List.mem_append_left _ (List.mem_of_getElem? (i := 40) rfl)))))))))))) hv
    | 14, _, hq, hv => cases hq; rw [m14] at hv; exact vk_R.of (ht _ (List.mem_append_right _ (List.mem_append_right _ (List.mem_append_right _ (List.mem_append_right _ (List.mem_append_right _ (List.mem_append_right _ (List.mem_append_right _ (List.mem_append_right _ (List.mem_append_right _ (List.mem_append_left _ (List.mem_of_getElem? (i := 41) rfl)))))))))))) hv
    | 15, _, hq, hv => cases hq; rw [m15] at hv; exact vk_R.of (ht _ (List.mem_append_right _ (List.mem_append_right _ (List.mem_append_right _ (List.mem_append_right _ (List.mem_append_right _ (List.mem_append_right _ (List.mem_append_right _ (List.mem_append_right _ (List.mem_append_right _ (List.mem_append_left _ (List.mem_of_getElem? (i := 42) rfl)))))))))))) hv
    | 16, _, hq, hv => cases hq; rw [m16] at hv; exact vk_R.of (ht _ (List.mem_append_right _ (List.mem_append_right _ (List.mem_append_right _ (List.mem_append_right _ (List.mem_append_right _ (List.mem_append_right _ (List.mem_append_right _ (List.mem_append_right _ (List.mem_append_right _ (List.mem_append_left _ (List.mem_of_getElem? (i := 43) rfl)))))))))))) hv
    | 17, _, hq, hv => cases hq; rw [m17] at hv; exact vk_R.of (ht _ (List.mem_append_right _ (List.mem_append_right _ (List.mem_append_right _ (List.mem_append_right _ (List.mem_append_right _ (List.mem_append_right _ (List.mem_append_right _ (List.mem_append_right _ (List.mem_append_right _ (List.mem_append_left _ (List.mem_of_getElem? (i := 44) rfl)))))))))))) hv
    | 18, _, hq, hv => cases hq; rw [m18] at hv; exact vk_R.of (ht _ (List.mem_append_right _ (List.mem_append_right _ (List.mem_append_right _ (List.mem_append_right _ (List.mem_append_right _ (List.mem_append_right _ (List.mem_append_right _ (List.mem_append_right _ (List.mem_append_right _ (List.mem_append_left _ (List.mem_of_getElem? (i := 45) rfl)))))))))))) hv
    | 19, _, hq, hv => cases hq; rw [m19] at hv; exact vk_R.of (ht _ (List.mem_append_right _ (List.mem_append_right _ (List.mem_append_right _ (List.mem_append_right _ (List.mem_append_right _ (List.mem_append_right _ (List.mem_append_right _ (List.mem_append_right _ (List.mem_append_right _ (List.mem_append_left _ (List.mem_of_getElem? (i := 84) rfl)))))))))))) hv
    | i + 20, hi, _, _ => exact absurd hi (by omega)
  obtain ⟨zs, z0, z1, zk, zv⟩ : ∃ zs : Nat → Nat, zs 0 = t0 ∧ zs 1 = t1 ∧ (∀ i, i < 20 → zs (10 + i) = adK i) ∧ ∀ i, i < 20 → zs (40 + i) = adV i := by
    refine ⟨fun k => if k = 0 then t0 else if k = 1 then t1 else if k < 40 then adK (k - 10) else adV (k - 40), rfl, rfl, fun i hi => ?_, fun i hi => ?_⟩
    · show (if 10 + i = 0 then t0 else if 10 + i = 1 then t1 else if 10 + i < 40 then adK (10 + i - 10) else adV (10 + i - 40)) = adK i
      rw [if_neg (by omega), if_neg (by omega), if_pos (by omega), Nat.add_sub_cancel_left]
    · show (if 40 + i = 0 then t0 else if 40 + i = 1 then t1 else if 40 + i < 40 then adK (40 + i - 10) else adV (40 + i - 40)) = adV i
      rw [if_neg (by omega), if_neg (by omega), if_neg (by omega), Nat.add_sub_cancel_left]
  refine ⟨zs, ?_, ?_, ?_, ?_, ?_, ⟨fun i hi => ?_, fun i j hi hj e => ?_⟩, fun i q hq => ?_, ?_⟩
  · rw [z0]; exact va_Zof (ht _ (List.mem_append_right _ (List.mem_append_left _ (List.mem_of_getElem? (i := 141) rfl)))) (ht _ (List.mem_append_right _ (List.mem_append_left _ (List.mem_of_getElem? (i := 6) rfl)))) h0 hA
  · rw [z0]; exact T0
  · rw [z1]; exact va_Zof (ht _ (List.mem_append_right _ (List.mem_append_right _ (List.mem_append_right _ (List.mem_append_left _ (List.mem_of_getElem? (i := 49) rfl)))))) (ht _ (List.mem_append_right _ (List.mem_append_left _ (List.mem_of_getElem? (i := 2) rfl)))) h1 hA
  · rw [z1]; exact T1
  · exact va_Zof (ht _ (List.mem_append_right _ (List.mem_append_right _ (List.mem_append_right _ (List.mem_append_right _ (List.mem_append_right _ (List.mem_append_right _ (List.mem_append_right _ (List.mem_append_right _ (List.mem_append_left _ (List.mem_of_getElem? (i := 67) rfl))))))))))) (ht _ (List.mem_append_right _ (List.mem_append_left _ (List.mem_of_getElem? (i := 18) rfl)))) (va_eqi (nw_47 hn)) hA
  · show va_O _ (zs (10 + i)) _ _ _ ∧ va_OF _ _ _ _ (zs (10 + i)) _ _ _ ∧ va_OF _ _ _ (.ref (zs (40 + i))) (zs (10 + i)) _ _ _ ∧ va_T _ (zs (40 + i)) _ _ _ _ _
    rw [zk i hi, zv i hi]
    exact hS.1 i hi
  · have e2 : zs (10 + i) = zs (10 + j) := e
    rw [zk i hi, zk j hj] at e2
    exact hS.2 i j hi hj e2
  · have hi : i < 20 := (List.getElem?_eq_some_iff.mp hq).1
    rw [zk i hi]
    exact hr i q hq
  · exact va_Zqof (ht _ (List.mem_append_right _ (List.mem_append_right _ (List.mem_append_right _ (List.mem_append_right _ (List.mem_append_right _ (List.mem_append_right _ (List.mem_append_right _ (List.mem_append_right _ (List.mem_append_left _ (List.mem_of_getElem? (i := 83) rfl))))))))))) (ht _ (List.mem_append_right _ (List.mem_append_left _ (List.mem_of_getElem? (i := 20) rfl)))) (nw_48 hn) hA
theorem start_SX {args : Array Value} {s : State} (ht : ∀ w ∈ lw_tbl, w.before args s = true) (hn : narrow_1.before args s = true) : SX (fun q => s.heap.size ≤ q) s s.heap := by
  have hA : ∀ a : Nat, a < s.heap.size → ¬ (fun q => s.heap.size ≤ q) a := fun a h => Nat.not_le.mpr h
  refine ⟨(ht _ (List.mem_append_right _ (List.mem_append_left _ (List.mem_of_getElem? (i := 80) rfl)))), (ht _ (List.mem_append_right _ (List.mem_append_right _ (List.mem_append_left _ (List.mem_of_getElem? (i := 92) rfl))))), ?_, ?_⟩
  · exact va_Zqof (ht _ (List.mem_append_right _ (List.mem_append_right _ (List.mem_append_right _ (List.mem_append_right _ (List.mem_append_right _ (List.mem_append_right _ (List.mem_append_left _ (List.mem_of_getElem? (i := 183) rfl))))))))) (ht _ (List.mem_append_right _ (List.mem_append_left _ (List.mem_of_getElem? (i := 15) rfl)))) (nw_45 hn) hA
  · exact va_Zqof (ht _ (List.mem_append_right _ (List.mem_append_right _ (List.mem_append_right _ (List.mem_append_right _ (List.mem_append_right _ (List.mem_append_right _ (List.mem_append_left _ (List.mem_of_getElem? (i := 185) rfl))))))))) (ht _ (List.mem_append_right _ (List.mem_append_left _ (List.mem_of_getElem? (i := 15) rfl)))) (nw_46 hn) hA
theorem arr_of {args : Array Value} {s : State} {ty : FieldType} (hp : ∀ c, va_RA s c ty = (s.vm.findClass ("[" ++ ty.toString) = some c)) (h : (Cond.arrayClass ty).before args s = true) : ∃ c : ClassId, ArrOfT s c ty ∧ va_RA s c ty := by
  obtain ⟨c, k, comp, h1, h2, h3⟩ := Cond.arrayClass_spec h
  exact ⟨c, fun n z => ⟨(fun k h => by cases h), k, h2, comp, h3⟩, by rw [hp]; exact h1⟩
theorem start_K {args : Array Value} {s : State} (ht : ∀ w ∈ lw_tbl, w.before args s = true) (hX : SX (fun q => s.heap.size ≤ q) s s.heap) : ∃ (D : va_G) (cs : Nat → ClassId), va_K D vwCl (tys cs) s := by
  have hg : ∀ w ∈ tbG, w.before args s = true := fun w h => ht w (tbG_in h)
  obtain ⟨c0, i0, K0⟩ := u_known (C := RX0) (T := TX0) (N := 7) (n := 7) hg hiX0 (hg _ isX0)
  obtain ⟨c1, i1, K1⟩ := u_known (C := RX1) (T := TX1) (N := 16) (n := 16) hg hiX1 (hg _ isX1)
  obtain ⟨c2, i2, K2⟩ := u_known (C := RX2) (T := TX2) (N := 6) (n := 6) hg hiX2 (hg _ isX2)
  obtain ⟨c3, i3, K3⟩ := u_known (C := RX3) (T := TX3) (N := 1) (n := 1) hg hiX3 (hg _ isX3)
  obtain ⟨c4, i4, K4⟩ := u_known (C := RX4) (T := TX4) (N := 13) (n := 13) hg hiX4 (hg _ isX4)
  obtain ⟨c5, i5, K5⟩ := u_known (C := RX5) (T := TX5) (N := 16) (n := 16) hg hiX5 (hg _ isX5)
  obtain ⟨c6, i6, K6⟩ := u_known (C := RX6) (T := TX6) (N := 9) (n := 9) hg hiX6 (hg _ isX6)
  obtain ⟨c7, i7, K7⟩ := u_known (C := RX7) (T := TX7) (N := 13) (n := 13) hg hiX7 (hg _ isX7)
  obtain ⟨c8, i8, K8⟩ := u_known (C := RX8) (T := TX8) (N := 4) (n := 4) hg hiX8 (hg _ isX8)
  obtain ⟨c9, i9, K9⟩ := u_known (C := RX9) (T := TX9) (N := 12) (n := 12) hg hiX9 (hg _ isX9)
  obtain ⟨c10, i10, K10⟩ := u_known (C := RX10) (T := TX10) (N := 4) (n := 4) hg hiX10 (hg _ isX10)
  obtain ⟨c11, i11, K11⟩ := u_known (C := RX11) (T := TX11) (N := 13) (n := 13) hg hiX11 (hg _ isX11)
  obtain ⟨c12, i12, K12⟩ := u_known (C := RX12) (T := TX12) (N := 6) (n := 6) hg hiX12 (hg _ isX12)
  obtain ⟨c13, i13, K13⟩ := u_known (C := RX13) (T := TX13) (N := 87) (n := 87) hg hiX13 (hg _ isX13)
  obtain ⟨a0, A0, B0⟩ := arr_of (s := s) (ty := .int) (fun _ => rfl) (hg _ ac_int)
  obtain ⟨a1, A1, B1⟩ := arr_of (s := s) (ty := .long) (fun _ => rfl) (hg _ ac_long)
  obtain ⟨a2, A2, B2⟩ := arr_of (s := s) (ty := .boolean) (fun _ => rfl) (hg _ ac_boolean)
  obtain ⟨a3, A3, B3⟩ := arr_of (s := s) (ty := .byte) (fun _ => rfl) (hg _ ac_byte)
  obtain ⟨p4, a4, k4, h41, h42, h43, h44, h45⟩ := Cond.arrayOver_spec hX.1
  obtain ⟨p5, a5, k5, h51, h53, h54, h55⟩ := Cond.arrayOver_specA hX.2.1
  refine ⟨(fun k => ([c0, c1, c2, c3, c4, c5, c6, c7, c8, c9, c10, c11, c12, c13] : List ClassId).getD k 0, fun k => ([i0, i1, i2, i3, i4, i5, i6, i7, i8, i9, i10, i11, i12, i13] : List (Nat → Nat)).getD k (fun _ => 0)), fun k => ([a0, a1, a2, a3, a4, a5] : List ClassId).getD k 0, ?_, ?_⟩
  · intro k q hq
    match k, hq with
    | 0, hq => cases hq; exact K0
    | 1, hq => cases hq; exact K1
    | 2, hq => cases hq; exact K2
    | 3, hq => cases hq; exact K3
    | 4, hq => cases hq; exact K4
    | 5, hq => cases hq; exact K5
    | 6, hq => cases hq; exact K6
    | 7, hq => cases hq; exact K7
    | 8, hq => cases hq; exact K8
    | 9, hq => cases hq; exact K9
    | 10, hq => cases hq; exact K10
    | 11, hq => cases hq; exact K11
    | 12, hq => cases hq; exact K12
    | 13, hq => cases hq; exact K13
    | k + 14, hq => exact absurd (List.getElem?_eq_some_iff.mp hq).1 (by show ¬ (k + 14 < 14); omega)
  · intro k q hq
    match k, hq with
    | 0, hq => cases hq; exact ⟨A0, B0⟩
    | 1, hq => cases hq; exact ⟨A1, B1⟩
    | 2, hq => cases hq; exact ⟨A2, B2⟩
    | 3, hq => cases hq; exact ⟨A3, B3⟩
    | 4, hq => cases hq; exact ⟨fun n z => ⟨(fun k h => by cases h), k4, h43, p4, h44⟩, k4, p4, h43, h44, h41, h45⟩
    | 5, hq => cases hq; exact ⟨fun n z => ⟨(fun k h => by cases h), k5, h53, p5, h54⟩, h55⟩
    | k + 6, hq => exact absurd (List.getElem?_eq_some_iff.mp hq).1 (by show ¬ (k + 6 < 6); omega)

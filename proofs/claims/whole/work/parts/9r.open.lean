/-! ===== program: if and from ===== -/
theorem TT.keep {s w c m c' m' : Nat} {r2 r2' mr mr' : Nat → Nat → Int32} (h : TT 60 1000 s w c m r2 mr) (f7 : r2' 7 (2 * s + w) = r2 7 (2 * s + w)) (f8 : r2' 8 (2 * s + w) = r2 8 (2 * s + w)) (f4 : ∀ z, z < 2 → mr' 34 (4 * (60 + s) + 2 * w + z) = mr 34 (4 * (60 + s) + 2 * w + z) ∧ mr' 35 (4 * (60 + s) + 2 * w + z) = mr 35 (4 * (60 + s) + 2 * w + z)) (f36 : mr' 36 (2 * (60 + s) + w) = mr 36 (2 * (60 + s) + w)) (f5 : ∀ j, j < c → r2' 12 j = r2 12 j) (f6 : ∀ j, j < m → mr' 39 (1000 + j) = mr 39 (1000 + j) ∧ mr' 40 (1000 + j) = mr 40 (1000 + j) ∧ mr' 41 (1000 + j) = mr 41 (1000 + j)) (hc : c ≤ c') (hm : m ≤ m') : TT 60 1000 s w c' m' r2' mr' := by
  obtain ⟨c0, m0, L1, L2, z, e1, e2, e3, e4, e5, e6, e7, e8, e9, e10, e11, e12, e13, e14, e15⟩ := h
  exact ⟨c0, m0, L1, L2, z, by omega, by omega, f7.trans e3, f8.trans e4, e5.keep (by omega) (by omega) f5 f6, e6.keep (by omega) (by omega) f5 f6, (f5 _ (by omega)).trans e7, e8, (f4 0 (by omega)).1.trans e9, (f4 0 (by omega)).2.trans e10, (f4 1 (by omega)).1.trans e11, (f4 1 (by omega)).2.trans e12, f36.trans e13, e14, e15⟩
def FA (s c m : Nat) (r2 : Nat → Nat → Int32) (l2 : Nat → Nat → Int64) (mr : Nat → Nat → Int32) (ml : Nat → Nat → Int64) (r2' : Nat → Nat → Int32) (l2' : Nat → Nat → Int64) (mr' : Nat → Nat → Int32) (ml' : Nat → Nat → Int64) : Prop :=
  (r2' 0 s = r2 0 s ∧ r2' 3 s = r2 3 s ∧ r2' 4 s = r2 4 s ∧ r2' 5 s = r2 5 s ∧ l2' 6 s = l2 6 s ∧ mr' 28 (60 + s) = mr 28 (60 + s) ∧ mr' 30 (60 + s) = mr 30 (60 + s) ∧ ml' 45 s = ml 45 s) ∧
  (∀ w, w < 2 → r2' 7 (2 * s + w) = r2 7 (2 * s + w) ∧ r2' 8 (2 * s + w) = r2 8 (2 * s + w) ∧ r2' 9 (2 * s + w) = r2 9 (2 * s + w) ∧ r2' 10 (2 * s + w) = r2 10 (2 * s + w) ∧ mr' 32 (2 * (60 + s) + w) = mr 32 (2 * (60 + s) + w) ∧ mr' 33 (2 * (60 + s) + w) = mr 33 (2 * (60 + s) + w) ∧ mr' 36 (2 * (60 + s) + w) = mr 36 (2 * (60 + s) + w) ∧ mr' 37 (2 * (60 + s) + w) = mr 37 (2 * (60 + s) + w) ∧ mr' 38 (2 * (60 + s) + w) = mr 38 (2 * (60 + s) + w)) ∧
  (∀ w, w < 4 → mr' 34 (4 * (60 + s) + w) = mr 34 (4 * (60 + s) + w) ∧ mr' 35 (4 * (60 + s) + w) = mr 35 (4 * (60 + s) + w)) ∧
  (∀ j, j < c → r2' 12 j = r2 12 j) ∧ ∀ j, j < m → mr' 39 (1000 + j) = mr 39 (1000 + j) ∧ mr' 40 (1000 + j) = mr 40 (1000 + j) ∧ mr' 41 (1000 + j) = mr 41 (1000 + j)
theorem NDw.at {s c m c' m' : Nat} {r2 r2' : Nat → Nat → Int32} {l2 l2' : Nat → Nat → Int64} {mr mr' : Nat → Nat → Int32} {ml ml' : Nat → Nat → Int64} (h : NDw 60 1000 s c m r2 l2 mr ml) (f : FA s c m r2 l2 mr ml r2' l2' mr' ml') (hc : c ≤ c') (hm : m ≤ m') : NDw 60 1000 s c' m' r2' l2' mr' ml' := by
  obtain ⟨x, hx, h0, h28, hp, d1, d2, d3, d4⟩ := h
  obtain ⟨⟨a1, a2, a3, a4, a5, a6, a7, a8⟩, f2, f4, f5, f6⟩ := f
  have VRk : ∀ w, w < 2 → VR 60 s w r2 mr → VR 60 s w r2' mr' := by
    intro w hw ⟨v, a, e1, e2, e3, e4⟩
    obtain ⟨b1, b2, b3, b4, b5, b6, b7, b8, b9⟩ := f2 w hw
    refine ⟨v, a, e1, ?_, b5.trans e3, b6.trans e4⟩
    match w, hw with
    | 0, _ => exact a3.trans e2
    | 1, _ => exact a4.trans e2
  have TTk : ∀ w, w < 2 → TT 60 1000 s w c m r2 mr → TT 60 1000 s w c' m' r2' mr' := fun w hw t => by
    obtain ⟨b1, b2, b3, b4, b5, b6, b7, b8, b9⟩ := f2 w hw
    exact t.keep b1 b2 (fun z hz => by rw [Nat.add_assoc]; exact f4 (2 * w + z) (by omega)) b7 f5 f6 hc hm
  refine ⟨x, hx, a1.trans h0, a6.trans h28, by rw [a2, a7]; exact hp, fun q => ?_, fun q => ⟨VRk 0 (by omega) (d2 q).1, VRk 1 (by omega) (d2 q).2⟩, fun q => ?_, fun q => ?_⟩
  · obtain ⟨v, c0, m0, L, e1, e2, e3, e4, e5, e6, e7, e8⟩ := d1 q
    obtain ⟨b1, b2, b3, b4, b5, b6, b7, b8, b9⟩ := f2 0 (by omega)
    obtain ⟨g1, g2⟩ := f4 0 (by omega)
    exact ⟨VRk 0 (by omega) v, c0, m0, L, by omega, by omega, b1.trans e3, b2.trans e4, e5.keep (by omega) (by omega) f5 f6, g1.trans e6, g2.trans e7, e8⟩
  · obtain ⟨t1, t2, t3⟩ := d3 q
    refine ⟨TTk 0 (by omega) t1, TTk 1 (by omega) t2, fun w hw => ?_⟩
    obtain ⟨p1, p2⟩ := t3 w hw
    obtain ⟨b1, b2, b3, b4, b5, b6, b7, b8, b9⟩ := f2 w hw
    rw [b3, b4, b8, b9]
    exact ⟨p1, p2⟩
  · obtain ⟨t, e1, e2, e3⟩ := d4 q
    exact ⟨t, e1, a5.trans e2, a8.trans e3⟩
/-- a TEST that is read, in one TT; what it leaves of the other STEPS -/
theorem test_fr {b : Nat → Nat} {N M k n w c : Nat} {L1 L2 : List MKt} {l2 ml : Nat → Nat → Int64} {CL : List Int32} {ML : List MKt} {i0 i0' : Nat → Int32} {r0 r0' : Nat → Nat → Int32} {i2 i2' : Nat → Int32} {r2 r2' : Nat → Nat → Int32} {mi mi' : Nat → Int32} {mr mr' : Nat → Nat → Int32} (hn : n < 60) (hw : w < 2) (hCL : CLp CL i2 r2) (hML : MLp ML mi mr) (hR : f_X13_readTest mi mr ml (nI (60 + n)) (nI w) = some (.inl (mi', mr'))) (t5 : CLp (CL ++ (L1.map cM ++ L2.map cM ++ [-(nI c)])) i2' r2') (t6 : MLp (ML ++ (L1 ++ L2)) mi' mr') (t7 : KT i0 r0 i2 r2 i0' r0' i2' r2') (t9 : sumOK L1) (t10 : sumOK L2) (t11 : c = 61 ∨ c = 60 ∨ c = 62 ∨ c = 33) (t12 : r2' 7 = upd (r2 7) (2 * n + w) (nI CL.length)) (t13 : r2' 8 = upd (r2 8) (2 * n + w) (nI (CL.length + L1.length + L2.length + 1))) (t14 : mr' 34 = upd (upd (mr 34) (4 * (60 + n) + 2 * w) (nI (1000 + ML.length))) (4 * (60 + n) + 2 * w + 1) (nI (1000 + (ML.length + L1.length)))) (t15 : mr' 35 = upd (upd (mr 35) (4 * (60 + n) + 2 * w) (nI (1000 + (ML.length + L1.length)))) (4 * (60 + n) + 2 * w + 1) (nI (1000 + (ML.length + L1.length + L2.length)))) (t16 : mr' 36 = upd (mr 36) (2 * (60 + n) + w) (nI c)) : TT 60 1000 n w (CL ++ (L1.map cM ++ L2.map cM ++ [-(nI c)])).length (ML ++ (L1 ++ L2)).length r2' mr' ∧ (∀ s, s < 60 → s ≠ n → FA s CL.length ML.length r2 l2 mr ml r2' l2 mr' ml) ∧ FB n CL.length ML.length 200 r2 l2 mr ml r2' l2 mr' ml ∧ (∀ s, ¬ (s = 34 ∨ s = 35 ∨ s = 36 ∨ s = 39 ∨ s = 40 ∨ s = 41) → mr' s = mr s) := by
  have F := fr_X13_readTest hR
  have F2 : ∀ s, ¬ (s = 34 ∨ s = 35 ∨ s = 36 ∨ s = 39 ∨ s = 40 ∨ s = 41) → mr' s = mr s := F.2
  have hk := CLk hCL t5
  have hkm := MLk hML t6
  have lC : (CL ++ (L1.map cM ++ L2.map cM ++ [-(nI c)])).length = CL.length + L1.length + L2.length + 1 := by
    rw [List.length_append, List.length_append, List.length_append, List.length_map, List.length_map]
    show CL.length + (L1.length + L2.length + 1) = _
    omega
  have lM : (ML ++ (L1 ++ L2)).length = ML.length + L1.length + L2.length := by rw [List.length_append, List.length_append]; omega
  have t5' : CLp (CL ++ (L1.map cM ++ (L2.map cM ++ [-(nI c)]))) i2' r2' := by rw [← List.append_assoc (L1.map cM)]; exact t5
  have sg1 : SG 1000 CL.length ML.length L1 r2' mr' := SG.of t5' t6
  have sg2 : SG 1000 (CL.length + L1.length) (ML.length + L1.length) L2 r2' mr' := by
    have t5'' : CLp ((CL ++ L1.map cM) ++ (L2.map cM ++ [-(nI c)])) i2' r2' := by rw [List.append_assoc]; exact t5'
    have t6'' : MLp ((ML ++ L1) ++ (L2 ++ [])) mi' mr' := by rw [List.append_nil, List.append_assoc]; exact t6
    have := SG.of t5'' t6''
    rw [List.length_append, List.length_append, List.length_map] at this
    exact this
  have hz : r2' 12 (CL.length + L1.length + L2.length) = -(nI c) := by
    refine t5.2 _ _ ?_
    rw [List.getElem?_append_right (by omega), List.getElem?_append_right (by rw [List.length_append, List.length_map, List.length_map]; omega), List.length_append, List.length_map, List.length_map, show CL.length + L1.length + L2.length - CL.length - (L1.length + L2.length) = 0 by omega]
    rfl
  refine ⟨⟨CL.length, ML.length, L1, L2, c, by omega, by omega, by rw [t12, pk_us], by rw [t13, pk_us], sg1, sg2, hz, t11, by rw [t14, pk_un (by omega), pk_us], by rw [t15, pk_un (by omega), pk_us], by rw [t14, pk_us], by rw [t15, pk_us], by rw [t16, pk_us], t9, t10⟩, fun s hs hsn => ⟨⟨?_, ?_, ?_, ?_, rfl, ?_, ?_, rfl⟩, fun z hz => ⟨?_, ?_, ?_, ?_, ?_, ?_, ?_, ?_, ?_⟩, fun z hz => ⟨?_, ?_⟩, hk, hkm⟩, ⟨fun s hs => ⟨?_, ?_, ?_, ?_, rfl, ?_, ?_, rfl⟩, fun j hj => ⟨?_, ?_, ?_, ?_, ?_, ?_, ?_⟩, fun j hj _ => ⟨?_, ?_⟩, fun j hj => ⟨?_, ?_⟩, hk, hkm⟩, F2⟩
  · rw [t7.2.2.2 0 (by omega) (by omega) (by omega)]
  · rw [t7.2.2.2 3 (by omega) (by omega) (by omega)]
  · rw [t7.2.2.2 4 (by omega) (by omega) (by omega)]
  · rw [t7.2.2.2 5 (by omega) (by omega) (by omega)]
  · rw [F2 28 (by omega)]
  · rw [F2 30 (by omega)]
  · rw [t12, pk_un (by omega)]
  · rw [t13, pk_un (by omega)]
  · rw [t7.2.2.2 9 (by omega) (by omega) (by omega)]
  · rw [t7.2.2.2 10 (by omega) (by omega) (by omega)]
  · rw [F2 32 (by omega)]
  · rw [F2 33 (by omega)]
  · rw [t16, pk_un (by omega)]
  · rw [F2 37 (by omega)]
  · rw [F2 38 (by omega)]
  · rw [t14, pk_un (by omega), pk_un (by omega)]
  · rw [t15, pk_un (by omega), pk_un (by omega)]
  · rw [t7.2.2.2 0 (by omega) (by omega) (by omega)]
  · rw [t7.2.2.2 3 (by omega) (by omega) (by omega)]
  · rw [t7.2.2.2 4 (by omega) (by omega) (by omega)]
  · rw [t7.2.2.2 5 (by omega) (by omega) (by omega)]
  · rw [F2 28 (by omega)]
  · rw [F2 30 (by omega)]
  · rw [t12, pk_un (by omega)]
  · rw [t13, pk_un (by omega)]
  · rw [F2 32 (by omega)]
  · rw [F2 33 (by omega)]
  · rw [t16, pk_un (by omega)]
  · rw [F2 37 (by omega)]
  · rw [F2 38 (by omega)]
  · rw [t7.2.2.2 9 (by omega) (by omega) (by omega)]
  · rw [t7.2.2.2 10 (by omega) (by omega) (by omega)]
  · rw [t14, pk_un (by omega), pk_un (by omega)]
  · rw [t15, pk_un (by omega), pk_un (by omega)]
/-- the reference keeps where a body of STEP n begins and ends -/
def kpB (n w : Nat) (mi : Nat → Int32) (mr : Nat → Nat → Int32) : Nat → Nat → Int32 := va_up (va_up mr 37 (upd (mr 37) (2 * (60 + n) + w) (mi 51))) 38 (upd (mr 38) (2 * (60 + n) + w) (mi 52))
theorem kpB_ok {n w : Nat} {mi : Nat → Int32} {mr : Nat → Nat → Int32} {ml : Nat → Nat → Int64} (hn : n < 60) (hw : w < 2) {x : Int32} (hx : x = nI w) : f_X13_keepBody mi mr ml (nI (60 + n)) x = some (kpB n w mi mr) := by
  have e5 : (2 : Int32) * nI (60 + n) + nI w = nI (2 * (60 + n) + w) := by rw [show (2 : Int32) = nI 2 from rfl, pk_mul, nI_add]
  have hin := inb_nI (n := 2 * (60 + n) + w) (N := 240) (by omega) (by omega)
  rw [f_X13_keepBody, hx, e5, ck_t hin, ck_t hin, nI_clamp (by omega), kpB]
theorem kpB_o {n w z : Nat} {mi : Nat → Int32} {mr : Nat → Nat → Int32} (h7 : z ≠ 37) (h8 : z ≠ 38) : kpB n w mi mr z = mr z := by
  unfold kpB
  rw [up_n h8, up_n h7]
theorem kpB_37 {n w : Nat} {mi : Nat → Int32} {mr : Nat → Nat → Int32} : kpB n w mi mr 37 = upd (mr 37) (2 * (60 + n) + w) (mi 51) := by
  unfold kpB
  rw [up_n (by omega), up_s]
theorem kpB_38 {n w : Nat} {mi : Nat → Int32} {mr : Nat → Nat → Int32} : kpB n w mi mr 38 = upd (mr 38) (2 * (60 + n) + w) (mi 52) := by
  unfold kpB
  rw [up_s]
theorem kpB_FA {n w s c m : Nat} {mi : Nat → Int32} {r2 mr : Nat → Nat → Int32} {l2 ml : Nat → Nat → Int64} (hw : w < 2) (hs : s ≠ n) : FA s c m r2 l2 mr ml r2 l2 (kpB n w mi mr) ml := by
  refine ⟨⟨rfl, rfl, rfl, rfl, rfl, ?_, ?_, rfl⟩, fun z hz => ⟨rfl, rfl, rfl, rfl, ?_, ?_, ?_, ?_, ?_⟩, fun z hz => ⟨?_, ?_⟩, fun _ _ => rfl, fun j hj => ⟨?_, ?_, ?_⟩⟩
  · rw [kpB_o (by omega) (by omega)]
  · rw [kpB_o (by omega) (by omega)]
  · rw [kpB_o (by omega) (by omega)]
  · rw [kpB_o (by omega) (by omega)]
  · rw [kpB_o (by omega) (by omega)]
  · rw [kpB_37, pk_un (by omega)]
  · rw [kpB_38, pk_un (by omega)]
  · rw [kpB_o (by omega) (by omega)]
  · rw [kpB_o (by omega) (by omega)]
  · rw [kpB_o (by omega) (by omega)]
  · rw [kpB_o (by omega) (by omega)]
  · rw [kpB_o (by omega) (by omega)]
theorem kpB_FB {n w c m : Nat} {mi : Nat → Int32} {r2 mr : Nat → Nat → Int32} {l2 ml : Nat → Nat → Int64} (hw : w < 2) : FB n c m 200 r2 l2 mr ml r2 l2 (kpB n w mi mr) ml := by
  refine ⟨fun s hs => ⟨rfl, rfl, rfl, rfl, rfl, ?_, ?_, rfl⟩, fun j hj => ⟨rfl, rfl, ?_, ?_, ?_, ?_, ?_⟩, fun _ _ _ => ⟨rfl, rfl⟩, fun j hj => ⟨?_, ?_⟩, fun _ _ => rfl, fun j hj => ⟨?_, ?_, ?_⟩⟩
  · rw [kpB_o (by omega) (by omega)]
  · rw [kpB_o (by omega) (by omega)]
  · rw [kpB_o (by omega) (by omega)]
  · rw [kpB_o (by omega) (by omega)]
  · rw [kpB_o (by omega) (by omega)]
  · rw [kpB_37, pk_un (by omega)]
  · rw [kpB_38, pk_un (by omega)]
  · rw [kpB_o (by omega) (by omega)]
  · rw [kpB_o (by omega) (by omega)]
  · rw [kpB_o (by omega) (by omega)]
  · rw [kpB_o (by omega) (by omega)]
  · rw [kpB_o (by omega) (by omega)]
/-! the words of if, and those of from -/
def ow (j z : Nat) : Nat := if j = 4 then 13 + z else 16 + z
theorem ow_lt {j z : Nat} (hz : z < 3) : ow j z < 19 := by
  unfold ow
  split <;> omega
theorem r82 {j : Nat} {F : (Nat → Int32) → (Nat → Nat → Int32) → (Nat → Nat → Int64) → Option (((Nat → Int32) × (Nat → Nat → Int64) × (Nat → Nat → Int32)) ⊕ ((Nat → Int32) × (Nat → Nat → Int64) × (Nat → Nat → Int32)))} {mi : Nat → Int32} {mr : Nat → Nat → Int32} {ml : Nat → Nat → Int64} {x : Int32} (hj : j = 4 ∨ j = 5) : f_X13_readOne_82 F mi ml mr (nI j) x = bt (f_X13_readTest (upd mi 50 ((mi 50) + 1)) mr ml x 0) (fun q27 => bt (f_X13_word (ow j 0) q27.1 q27.2 ml) (fun q29 => f_X13_readOne_116 F q29 ml q27.2 (nI j) x) (fun t29 => some (.inr (t29, ml, q27.2)))) (fun t27 => some (.inr (t27.1, ml, t27.2))) := by
  rw [f_X13_readOne_82]
  rcases hj with e | e
  · subst e; rfl
  · subst e; rfl
theorem r116 {j n : Nat} {F : (Nat → Int32) → (Nat → Nat → Int32) → (Nat → Nat → Int64) → Option (((Nat → Int32) × (Nat → Nat → Int64) × (Nat → Nat → Int32)) ⊕ ((Nat → Int32) × (Nat → Nat → Int64) × (Nat → Nat → Int32)))} {mi : Nat → Int32} {mr : Nat → Nat → Int32} {ml : Nat → Nat → Int64} (hj : j = 4 ∨ j = 5) (hn : n < 60) : f_X13_readOne_116 F mi ml mr (nI j) (nI (60 + n)) = bt (F mi mr ml) (fun q23 => bt (f_X13_word (ow j 1) q23.1 (kpB n 0 q23.1 q23.2.2) q23.2.1) (fun q26 => f_X13_readOne_144 F q26 q23.2.1 (kpB n 0 q23.1 q23.2.2) (nI j) (nI (60 + n))) (fun t26 => some (.inr (t26, q23.2.1, (kpB n 0 q23.1 q23.2.2))))) (fun t23 => some (.inr (t23.1, t23.2.1, t23.2.2))) := by
  rw [f_X13_readOne_116]
  simp only [kpB_ok hn (show 0 < 2 by omega) (show (0 : Int32) = nI 0 from rfl), bd_some]
  rcases hj with e | e
  · subst e; rfl
  · subst e; rfl
theorem r144 {j n : Nat} {F : (Nat → Int32) → (Nat → Nat → Int32) → (Nat → Nat → Int64) → Option (((Nat → Int32) × (Nat → Nat → Int64) × (Nat → Nat → Int32)) ⊕ ((Nat → Int32) × (Nat → Nat → Int64) × (Nat → Nat → Int32)))} {mi : Nat → Int32} {mr : Nat → Nat → Int32} {ml : Nat → Nat → Int64} (hj : j = 4 ∨ j = 5) (hn : n < 60) : f_X13_readOne_144 F mi ml mr (nI j) (nI (60 + n)) = bt (F mi mr ml) (fun q19 => bt (f_X13_word (ow j 2) q19.1 (kpB n 1 q19.1 q19.2.2) q19.2.1) (fun q22 => f_X13_readOne_172 F q22 q19.2.1 (kpB n 1 q19.1 q19.2.2) (nI (60 + n))) (fun t22 => some (.inr (t22, q19.2.1, (kpB n 1 q19.1 q19.2.2))))) (fun t19 => some (.inr (t19.1, t19.2.1, t19.2.2))) := by
  rw [f_X13_readOne_144]
  simp only [kpB_ok hn (show 1 < 2 by omega) (show (1 : Int32) = nI 1 from rfl), bd_some]
  rcases hj with e | e
  · subst e; rfl
  · subst e; rfl
theorem c58o {j n y : Nat} {r1 : Nat → Nat → Int32} {l1 l2 : Nat → Nat → Int64} {i0 : Nat → Int32} {r0 : Nat → Nat → Int32} {i1 i' i2 i2a : Nat → Int32} {r2 r2a : Nat → Nat → Int32} (hj : j = 4 ∨ j = 5) (h4 : i0 4 = nI y) (s1 : f_X5_addStep i2 r2 l2 (nI j) (nI y) = some (nI n, i2a, r2a)) (t1 : f_X9_advance i1 r1 l1 = some i') : f_X6_readStep_58 r1 l1 i0 r0 i1 i2 l2 r2 (nI j) = bd (f_X6_readTest i0 r0 i' r1 l1 i2a r2a l2 (nI n) 0) (fun q20 => f_X6_readStep_134 r1 l1 q20.1 q20.2.1 q20.2.2.1 q20.2.2.2.1 l2 q20.2.2.2.2 (nI n) (nI (kap.getD (ow j 0) 0))) := by
  rw [f_X6_readStep_58, h4, s1, bd_some]
  dsimp only
  rw [t1, bd_some]
  rcases hj with e | e
  · subst e; rfl
  · subst e; rfl
/-- the class at the end of a body of STEP n -/
theorem cEnd {j n O y : Nat} {r1 : Nat → Nat → Int32} {l1 l2 : Nat → Nat → Int64} {i0 : Nat → Int32} {r0 : Nat → Nat → Int32} {i1 i2 : Nat → Int32} {r2 : Nat → Nat → Int32} (hj : j = 4 ∨ j = 5) (hn : n < 60) (hO : O < 6) (h5 : i0 5 = nI (O + 1)) (hr : r0 1 O = nI n) (hk : r2 0 n = nI j) (K : (Nat → Int32) → (Nat → Nat → Int32) → (Nat → Int32) → (Nat → Nat → Int64) → (Nat → Nat → Int32) → (Nat → Int32) → (Nat → Nat → Int64) → (Nat → Nat → Int32) → Int32 → Option (Int32 × (Nat → Int32) × (Nat → Nat → Int32) × (Nat → Int32) × (Nat → Nat → Int64) × (Nat → Nat → Int32) × (Nat → Int32) × (Nat → Nat → Int64) × (Nat → Nat → Int32))) (x : Int32) : f_X6_readInto_107 K i0 r0 i1 l1 r1 i2 l2 r2 x = bd (if i0 4 = nI (2 * n) then f_X6_endBody_55 r1 l1 l2 i0 r0 i1 i2 r2 (nI n) (nI (kap.getD (ow j 1) 0)) else f_X6_endBody_83 r1 l1 l2 i0 r0 i1 i2 r2 (nI n) (nI (kap.getD (ow j 2) 0))) (fun q17 => K q17.1 q17.2.1 q17.2.2.1 l1 r1 q17.2.2.2.1 l2 q17.2.2.2.2 (x + 1)) := by
  have e1 : nI (O + 1) - 1 = nI O := nI_pred O
  have e2 : (2 : Int32) * nI n = nI (2 * n) := by rw [show (2 : Int32) = nI 2 from rfl, pk_mul]
  rw [f_X6_readInto_107, h5, if_neg (nI_nle (by omega) (by omega)), f_X6_endBody, h5, e1, ck_t (inb_nI (by omega) (by omega)), nI_clamp (by omega), hr, f_X5_kindOf, ck_t (inb_nI (by omega) (by omega)), bd_some, nI_clamp (by omega), hk]
  simp only [f_X6_readInto_125]
  rcases hj with e | e
  · subst e
    rw [if_pos (show nI 4 = 4 from rfl), f_X6_endBody_29, e2]
    rfl
  · subst e
    rw [if_neg (show ¬ nI 5 = 4 by decide), f_X6_endBody_29, e2]
    rfl

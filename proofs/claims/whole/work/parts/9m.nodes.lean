/-! ===== program: a STEP's data in both ===== -/
def PT (o : Nat) (x y : Int32) : Prop := (x = -1 ∧ y = -1) ∨ ∃ t, t < 60 ∧ x = nI t ∧ y = nI (o + t)
def SG (q c0 m0 : Nat) (L : List MKt) (r2 mr : Nat → Nat → Int32) : Prop := ∀ j t, L[j]? = some t → r2 12 (c0 + j) = cM t ∧ mr 39 (q + (m0 + j)) = nI t.1 ∧ mr 40 (q + (m0 + j)) = nI t.2.1 ∧ mr 41 (q + (m0 + j)) = nI t.2.2
def VR (o s w : Nat) (r2 mr : Nat → Nat → Int32) : Prop := ∃ v a, okV v a ∧ r2 (4 + w) s = nI (vc v a) ∧ mr 32 (2 * (o + s) + w) = nI v ∧ mr 33 (2 * (o + s) + w) = nI a
def SM (o q s c m : Nat) (r2 mr : Nat → Nat → Int32) : Prop := ∃ c0 m0 L, c0 + L.length ≤ c ∧ m0 + L.length ≤ m ∧ r2 7 (2 * s) = nI c0 ∧ r2 8 (2 * s) = nI (c0 + L.length) ∧ SG q c0 m0 L r2 mr ∧ mr 34 (4 * (o + s)) = nI (q + m0) ∧ mr 35 (4 * (o + s)) = nI (q + (m0 + L.length)) ∧ sumOK L
def TT (o q s w c m : Nat) (r2 mr : Nat → Nat → Int32) : Prop := ∃ c0 m0 L1 L2 z, c0 + L1.length + L2.length + 1 ≤ c ∧ m0 + L1.length + L2.length ≤ m ∧ r2 7 (2 * s + w) = nI c0 ∧ r2 8 (2 * s + w) = nI (c0 + L1.length + L2.length + 1) ∧ SG q c0 m0 L1 r2 mr ∧ SG q (c0 + L1.length) (m0 + L1.length) L2 r2 mr ∧ r2 12 (c0 + L1.length + L2.length) = -(nI z) ∧ (z = 61 ∨ z = 60 ∨ z = 62 ∨ z = 33) ∧ mr 34 (4 * (o + s) + 2 * w) = nI (q + m0) ∧ mr 35 (4 * (o + s) + 2 * w) = nI (q + (m0 + L1.length)) ∧ mr 34 (4 * (o + s) + 2 * w + 1) = nI (q + (m0 + L1.length)) ∧ mr 35 (4 * (o + s) + 2 * w + 1) = nI (q + (m0 + L1.length + L2.length)) ∧ mr 36 (2 * (o + s) + w) = nI z ∧ sumOK L1 ∧ sumOK L2
def NMd (s : Nat) (l2 ml : Nat → Nat → Int64) : Prop := ∃ t, okNm t ∧ l2 6 s = lN (encL t 0) ∧ ml 45 s = lN (nm5 t 0)
def DAT (x o q s c m : Nat) (r2 : Nat → Nat → Int32) (l2 : Nat → Nat → Int64) (mr : Nat → Nat → Int32) (ml : Nat → Nat → Int64) : Prop := (x < 3 → VR o s 0 r2 mr ∧ SM o q s c m r2 mr) ∧ (x = 3 → VR o s 0 r2 mr ∧ VR o s 1 r2 mr) ∧ (x = 4 ∨ x = 5 → TT o q s 0 c m r2 mr ∧ TT o q s 1 c m r2 mr ∧ ∀ w, w < 2 → PT o (r2 9 (2 * s + w)) (mr 37 (2 * (o + s) + w)) ∧ PT o (r2 10 (2 * s + w)) (mr 38 (2 * (o + s) + w))) ∧ (6 ≤ x → NMd s l2 ml)
def NDw (o q s c m : Nat) (r2 : Nat → Nat → Int32) (l2 : Nat → Nat → Int64) (mr : Nat → Nat → Int32) (ml : Nat → Nat → Int64) : Prop := ∃ x, x < 8 ∧ r2 0 s = nI x ∧ mr 28 (o + s) = nI x ∧ PT o (r2 3 s) (mr 30 (o + s)) ∧ DAT x o q s c m r2 l2 mr ml
/-- what stands of the STEPS below n, of the codes below c, of the marks below m; body y aside -/
def FB (n c m y : Nat) (r2 : Nat → Nat → Int32) (l2 : Nat → Nat → Int64) (mr : Nat → Nat → Int32) (ml : Nat → Nat → Int64) (r2' : Nat → Nat → Int32) (l2' : Nat → Nat → Int64) (mr' : Nat → Nat → Int32) (ml' : Nat → Nat → Int64) : Prop :=
  (∀ s, s < n → r2' 0 s = r2 0 s ∧ r2' 3 s = r2 3 s ∧ r2' 4 s = r2 4 s ∧ r2' 5 s = r2 5 s ∧ l2' 6 s = l2 6 s ∧ mr' 28 (60 + s) = mr 28 (60 + s) ∧ mr' 30 (60 + s) = mr 30 (60 + s) ∧ ml' 45 s = ml 45 s) ∧
  (∀ j, j < 2 * n → r2' 7 j = r2 7 j ∧ r2' 8 j = r2 8 j ∧ mr' 32 (120 + j) = mr 32 (120 + j) ∧ mr' 33 (120 + j) = mr 33 (120 + j) ∧ mr' 36 (120 + j) = mr 36 (120 + j) ∧ mr' 37 (120 + j) = mr 37 (120 + j) ∧ mr' 38 (120 + j) = mr 38 (120 + j)) ∧
  (∀ j, j < 2 * n → j ≠ y → r2' 9 j = r2 9 j ∧ r2' 10 j = r2 10 j) ∧
  (∀ j, j < 4 * n → mr' 34 (240 + j) = mr 34 (240 + j) ∧ mr' 35 (240 + j) = mr 35 (240 + j)) ∧
  (∀ j, j < c → r2' 12 j = r2 12 j) ∧ ∀ j, j < m → mr' 39 (1000 + j) = mr 39 (1000 + j) ∧ mr' 40 (1000 + j) = mr 40 (1000 + j) ∧ mr' 41 (1000 + j) = mr 41 (1000 + j)
theorem FB.rf {n c m y : Nat} {r2 : Nat → Nat → Int32} {l2 : Nat → Nat → Int64} {mr : Nat → Nat → Int32} {ml : Nat → Nat → Int64} : FB n c m y r2 l2 mr ml r2 l2 mr ml := ⟨fun _ _ => ⟨rfl, rfl, rfl, rfl, rfl, rfl, rfl, rfl⟩, fun _ _ => ⟨rfl, rfl, rfl, rfl, rfl, rfl, rfl⟩, fun _ _ _ => ⟨rfl, rfl⟩, fun _ _ => ⟨rfl, rfl⟩, fun _ _ => rfl, fun _ _ => ⟨rfl, rfl, rfl⟩⟩
theorem FB.tr {n n' c c' m m' y y' : Nat} {r2 r2' r2'' : Nat → Nat → Int32} {l2 l2' l2'' : Nat → Nat → Int64} {mr mr' mr'' : Nat → Nat → Int32} {ml ml' ml'' : Nat → Nat → Int64} (h : FB n c m y r2 l2 mr ml r2' l2' mr' ml') (g : FB n' c' m' y' r2' l2' mr' ml' r2'' l2'' mr'' ml'') (hn : n ≤ n') (hc : c ≤ c') (hm : m ≤ m') (hy : y' = y ∨ 2 * n ≤ y') : FB n c m y r2 l2 mr ml r2'' l2'' mr'' ml'' := by
  obtain ⟨h1, h2, h3, h4, h5, h6⟩ := h
  obtain ⟨g1, g2, g3, g4, g5, g6⟩ := g
  refine ⟨fun s hs => ?_, fun j hj => ?_, fun j hj hjy => ?_, fun j hj => ?_, fun j hj => ?_, fun j hj => ?_⟩
  · obtain ⟨a1, a2, a3, a4, a5, a6, a7, a8⟩ := h1 s hs
    obtain ⟨b1, b2, b3, b4, b5, b6, b7, b8⟩ := g1 s (by omega)
    exact ⟨b1.trans a1, b2.trans a2, b3.trans a3, b4.trans a4, b5.trans a5, b6.trans a6, b7.trans a7, b8.trans a8⟩
  · obtain ⟨a1, a2, a3, a4, a5, a6, a7⟩ := h2 j hj
    obtain ⟨b1, b2, b3, b4, b5, b6, b7⟩ := g2 j (by omega)
    exact ⟨b1.trans a1, b2.trans a2, b3.trans a3, b4.trans a4, b5.trans a5, b6.trans a6, b7.trans a7⟩
  · obtain ⟨a1, a2⟩ := h3 j hj hjy
    obtain ⟨b1, b2⟩ := g3 j (by omega) (by rcases hy with e | e <;> omega)
    exact ⟨b1.trans a1, b2.trans a2⟩
  · obtain ⟨a1, a2⟩ := h4 j hj
    obtain ⟨b1, b2⟩ := g4 j (by omega)
    exact ⟨b1.trans a1, b2.trans a2⟩
  · exact (g5 j (by omega)).trans (h5 j hj)
  · obtain ⟨a1, a2, a3⟩ := h6 j hj
    obtain ⟨b1, b2, b3⟩ := g6 j (by omega)
    exact ⟨b1.trans a1, b2.trans a2, b3.trans a3⟩
theorem SG.keep {c0 m0 c m : Nat} {L : List MKt} {r2 mr r2' mr' : Nat → Nat → Int32} (h : SG 1000 c0 m0 L r2 mr) (hc : c0 + L.length ≤ c) (hm : m0 + L.length ≤ m) (f : ∀ j, j < c → r2' 12 j = r2 12 j) (g : ∀ j, j < m → mr' 39 (1000 + j) = mr 39 (1000 + j) ∧ mr' 40 (1000 + j) = mr 40 (1000 + j) ∧ mr' 41 (1000 + j) = mr 41 (1000 + j)) : SG 1000 c0 m0 L r2' mr' := by
  intro j t hj
  have hl := (List.getElem?_eq_some_iff.mp hj).1
  obtain ⟨a1, a2, a3, a4⟩ := h j t hj
  obtain ⟨b1, b2, b3⟩ := g (m0 + j) (by omega)
  exact ⟨(f _ (by omega)).trans a1, b1.trans a2, b2.trans a3, b3.trans a4⟩
theorem ix2 (s w : Nat) : 2 * (60 + s) + w = 120 + (2 * s + w) := by omega
theorem ix4 (s w : Nat) : 4 * (60 + s) + w = 240 + (4 * s + w) := by omega
/-- a STEP that is read stays as it is -/
theorem NDw.keep {n s c m c' m' y : Nat} {r2 r2' : Nat → Nat → Int32} {l2 l2' : Nat → Nat → Int64} {mr mr' : Nat → Nat → Int32} {ml ml' : Nat → Nat → Int64} (h : NDw 60 1000 s c m r2 l2 mr ml) (f : FB n c m y r2 l2 mr ml r2' l2' mr' ml') (hs : s < n) (hy : y < 2 * s ∨ 2 * s + 1 < y) (hc : c ≤ c') (hm : m ≤ m') : NDw 60 1000 s c' m' r2' l2' mr' ml' := by
  obtain ⟨x, hx, h0, h28, hp, d1, d2, d3, d4⟩ := h
  obtain ⟨f1, f2, f3, f4, f5, f6⟩ := f
  obtain ⟨a1, a2, a3, a4, a5, a6, a7, a8⟩ := f1 s hs
  have VRk : ∀ w, w < 2 → VR 60 s w r2 mr → VR 60 s w r2' mr' := by
    intro w hw ⟨v, a, e1, e2, e3, e4⟩
    obtain ⟨b1, b2, b3, b4, b5, b6, b7⟩ := f2 (2 * s + w) (by omega)
    refine ⟨v, a, e1, ?_, ?_, ?_⟩
    · match w, hw with
      | 0, _ => exact a3.trans e2
      | 1, _ => exact a4.trans e2
    · rw [ix2] at e3 ⊢; exact b3.trans e3
    · rw [ix2] at e4 ⊢; exact b4.trans e4
  have TTk : ∀ w, w < 2 → TT 60 1000 s w c m r2 mr → TT 60 1000 s w c' m' r2' mr' := by
    intro w hw ⟨c0, m0, L1, L2, z, e1, e2, e3, e4, e5, e6, e7, e8, e9, e10, e11, e12, e13, e14, e15⟩
    obtain ⟨b1, b2, b3, b4, b5, b6, b7⟩ := f2 (2 * s + w) (by omega)
    obtain ⟨g1, g2⟩ := f4 (4 * s + 2 * w) (by omega)
    obtain ⟨g3, g4⟩ := f4 (4 * s + (2 * w + 1)) (by omega)
    refine ⟨c0, m0, L1, L2, z, by omega, by omega, b1.trans e3, b2.trans e4, e5.keep (by omega) (by omega) f5 f6, e6.keep (by omega) (by omega) f5 f6, (f5 _ (by omega)).trans e7, e8, ?_, ?_, ?_, ?_, ?_, e14, e15⟩
    · rw [ix4] at e9 ⊢; exact g1.trans e9
    · rw [ix4] at e10 ⊢; exact g2.trans e10
    · rw [Nat.add_assoc, ix4] at e11 ⊢; exact g3.trans e11
    · rw [Nat.add_assoc, ix4] at e12 ⊢; exact g4.trans e12
    · rw [ix2] at e13 ⊢; exact b5.trans e13
  refine ⟨x, hx, a1.trans h0, a6.trans h28, by rw [a2, a7]; exact hp, fun q => ?_, fun q => ?_, fun q => ?_, fun q => ?_⟩
  · obtain ⟨v, c0, m0, L, e1, e2, e3, e4, e5, e6, e7, e8⟩ := d1 q
    obtain ⟨b1, b2, b3, b4, b5, b6, b7⟩ := f2 (2 * s) (by omega)
    obtain ⟨g1, g2⟩ := f4 (4 * s + 0) (by omega)
    have i4 : 4 * (60 + s) = 240 + (4 * s + 0) := by omega
    refine ⟨VRk 0 (by omega) v, c0, m0, L, by omega, by omega, b1.trans e3, b2.trans e4, e5.keep (by omega) (by omega) f5 f6, ?_, ?_, e8⟩
    · rw [i4] at e6 ⊢; exact g1.trans e6
    · rw [i4] at e7 ⊢; exact g2.trans e7
  · exact ⟨VRk 0 (by omega) (d2 q).1, VRk 1 (by omega) (d2 q).2⟩
  · obtain ⟨t1, t2, t3⟩ := d3 q
    refine ⟨TTk 0 (by omega) t1, TTk 1 (by omega) t2, fun w hw => ?_⟩
    obtain ⟨p1, p2⟩ := t3 w hw
    obtain ⟨b1, b2, b3, b4, b5, b6, b7⟩ := f2 (2 * s + w) (by omega)
    obtain ⟨g1, g2⟩ := f3 (2 * s + w) (by omega) (by omega)
    rw [ix2] at p1 p2 ⊢
    rw [g1, g2, b6, b7]
    exact ⟨p1, p2⟩
  · obtain ⟨t, e1, e2, e3⟩ := d4 q
    exact ⟨t, e1, a5.trans e2, a8.trans e3⟩
theorem SG.of {CL : List Int32} {ML L : List MKt} {i2 mi : Nat → Int32} {r2 mr : Nat → Nat → Int32} {X : List Int32} {Y : List MKt} (h : CLp (CL ++ (L.map cM ++ X)) i2 r2) (g : MLp (ML ++ (L ++ Y)) mi mr) : SG 1000 CL.length ML.length L r2 mr := by
  intro j t hj
  have hl := (List.getElem?_eq_some_iff.mp hj).1
  have e1 : (CL ++ (L.map cM ++ X))[CL.length + j]? = some (cM t) := by
    rw [List.getElem?_append_right (by omega), Nat.add_sub_cancel_left, List.getElem?_append_left (by rw [List.length_map]; exact hl), List.getElem?_map, hj]
    rfl
  have e2 : (ML ++ (L ++ Y))[ML.length + j]? = some t := by
    rw [List.getElem?_append_right (by omega), Nat.add_sub_cancel_left, List.getElem?_append_left hl, hj]
  exact ⟨h.2 _ _ e1, g.2 _ _ e2⟩
theorem CLk {CL X : List Int32} {i2 i2' : Nat → Int32} {r2 r2' : Nat → Nat → Int32} (h : CLp CL i2 r2) (g : CLp (CL ++ X) i2' r2') : ∀ j, j < CL.length → r2' 12 j = r2 12 j := by
  intro j hj
  have e1 : CL[j]? = some CL[j] := List.getElem?_eq_getElem hj
  have e2 : (CL ++ X)[j]? = some CL[j] := by rw [List.getElem?_append_left hj, e1]
  rw [h.2 _ _ e1, g.2 _ _ e2]
theorem MLk {ML X : List MKt} {mi mi' : Nat → Int32} {mr mr' : Nat → Nat → Int32} (h : MLp ML mi mr) (g : MLp (ML ++ X) mi' mr') : ∀ j, j < ML.length → mr' 39 (1000 + j) = mr 39 (1000 + j) ∧ mr' 40 (1000 + j) = mr 40 (1000 + j) ∧ mr' 41 (1000 + j) = mr 41 (1000 + j) := by
  intro j hj
  have e1 : ML[j]? = some ML[j] := List.getElem?_eq_getElem hj
  have e2 : (ML ++ X)[j]? = some ML[j] := by rw [List.getElem?_append_left hj, e1]
  obtain ⟨a1, a2, a3⟩ := h.2 _ _ e1
  obtain ⟨b1, b2, b3⟩ := g.2 _ _ e2
  exact ⟨b1.trans a1.symm, b2.trans a2.symm, b3.trans a3.symm⟩
/-! the bodies, in the class alone -/
/-- every STEP lies in a body; what stands ahead of it and behind it lies there too; how deep it lies -/
def CW (n : Nat) (lv : Nat → Nat) (r2 : Nat → Nat → Int32) : Prop :=
  (∀ s, s < n → ∃ y, y < 126 ∧ r2 1 s = nI y ∧ lv s ≤ 6 ∧ (y < 120 → y / 2 < s ∧ lv s = lv (y / 2) + 1) ∧ (120 ≤ y → lv s = 0) ∧ (r2 2 s = -1 ∨ ∃ t, t < n ∧ r2 2 s = nI t ∧ r2 1 t = nI y) ∧ (r2 3 s = -1 ∨ ∃ t, t < n ∧ r2 3 s = nI t ∧ r2 1 t = nI y)) ∧
  (∀ y, y < 126 → (r2 9 y = -1 ∨ ∃ t, t < n ∧ r2 9 y = nI t ∧ r2 1 t = nI y) ∧ (r2 10 y = -1 ∨ ∃ t, t < n ∧ r2 10 y = nI t ∧ r2 1 t = nI y)) ∧
  ∀ y, 2 * n ≤ y → y < 120 → r2 9 y = -1 ∧ r2 10 y = -1
theorem CW.congr {n : Nat} {lv : Nat → Nat} {r2 r2' : Nat → Nat → Int32} (h : CW n lv r2) (h1 : r2' 1 = r2 1) (h2 : r2' 2 = r2 2) (h3 : r2' 3 = r2 3) (h9 : r2' 9 = r2 9) (h10 : r2' 10 = r2 10) : CW n lv r2' := by
  unfold CW at h ⊢
  rw [h1, h2, h3, h9, h10]
  exact h
theorem addStep_ok {n y : Nat} {lv : Nat → Nat} {i2 : Nat → Int32} {r2 : Nat → Nat → Int32} {l2 : Nat → Nat → Int64} {x O : Nat} (hn : n < 60) (hy : y < 126) (h13 : i2 13 = nI n) (hW : CW n lv r2) (hO : O ≤ 6) (hl1 : y < 120 → y / 2 < n ∧ O = lv (y / 2) + 1) (hl2 : 120 ≤ y → O = 0) : ∃ r2' lv', f_X5_addStep i2 r2 l2 (nI x) (nI y) = some (nI n, upd i2 13 (nI (n + 1)), r2') ∧ CW (n + 1) lv' r2' ∧ (∀ s, s < n → lv' s = lv s) ∧ lv' n = O ∧ r2' 0 = upd (r2 0) n (nI x) ∧ r2' 1 = upd (r2 1) n (nI y) ∧ r2' 3 = upd (r2 3) n (r2 10 y) ∧ r2' 10 = upd (r2 10) y (nI n) ∧ r2' 2 n = -1 ∧ (∀ s, s < n → ¬ r2 10 y = nI s → r2' 2 s = r2 2 s) ∧ (∀ s, s < n → r2 10 y = nI s → r2' 2 s = nI n) ∧ (r2' 9 = if r2 10 y = -1 then upd (r2 9) y (nI n) else r2 9) ∧ ∀ s, s ≠ 0 → s ≠ 1 → s ≠ 2 → s ≠ 3 → s ≠ 9 → s ≠ 10 → r2' s = r2 s := by
  obtain ⟨w1, w2, w3⟩ := hW
  have i60 := inb_nI (n := n) (N := 60) hn (by omega)
  have i126 := inb_nI (n := y) (N := 126) hy (by omega)
  have cn : (nI n).toNatClampNeg = n := nI_clamp (by omega)
  have cy : (nI y).toNatClampNeg = y := nI_clamp (by omega)
  -- the new levels
  have lvn : ∀ s, s < n → (fun s => if s = n then O else lv s) s = lv s := fun s hs => if_neg (by omega)
  have A : ∀ r9 : Nat → Nat → Int32, f_X5_addStep_59 l2 (upd i2 13 (nI (n + 1))) r9 (nI y) (nI n) = (if r9 10 y = -1 then some (nI n, upd i2 13 (nI (n + 1)), va_up (va_up r9 9 (upd (r9 9) y (nI n))) 10 (upd (r9 10) y (nI n))) else ck (inb (r9 10 y) 60) (some (nI n, upd i2 13 (nI (n + 1)), va_up (va_up r9 2 (upd (r9 2) (r9 10 y).toNatClampNeg (nI n))) 10 (upd (r9 10) y (nI n))))) := by
    intro r9
    rw [f_X5_addStep_59, ck_t i126, cy, ck_t i126, ck_t i126, ck_t i126]
    simp only [ck_t i126]
  have B : f_X5_addStep i2 r2 l2 (nI x) (nI y) = f_X5_addStep_59 l2 (upd i2 13 (nI (n + 1))) (va_up (va_up (va_up (va_up r2 0 (upd (r2 0) n (nI x))) 1 (upd (r2 1) n (nI y))) 2 (upd (r2 2) n (-1))) 3 (upd (r2 3) n (r2 10 y))) (nI y) (nI n) := by
    rw [f_X5_addStep, h13, if_pos (show nI n < (60 : Int32) from nI_lt (b := 60) hn (by omega)), ck_t i60, ck_t i60, f_X5_addStep_40, ck_t i60, ck_t i126, ck_t i60, cn, cy, nI_1]
    simp only [up_n (show (2 : Nat) ≠ 1 by omega), up_n (show (2 : Nat) ≠ 0 by omega), up_n (show (3 : Nat) ≠ 1 by omega), up_n (show (3 : Nat) ≠ 0 by omega), up_n (show (10 : Nat) ≠ 1 by omega), up_n (show (10 : Nat) ≠ 0 by omega)]
  rw [B, A]
  simp only [up_n (show (10 : Nat) ≠ 3 by omega), up_n (show (10 : Nat) ≠ 2 by omega), up_n (show (10 : Nat) ≠ 1 by omega), up_n (show (10 : Nat) ≠ 0 by omega), up_n (show (9 : Nat) ≠ 3 by omega), up_n (show (9 : Nat) ≠ 2 by omega), up_n (show (9 : Nat) ≠ 1 by omega), up_n (show (9 : Nat) ≠ 0 by omega), up_n (show (2 : Nat) ≠ 3 by omega), up_s]
  -- what holds of the new bodies, whatever the arrays are called
  have fin : ∀ r' : Nat → Nat → Int32, r' 1 = upd (r2 1) n (nI y) → r' 3 = upd (r2 3) n (r2 10 y) → r' 10 = upd (r2 10) y (nI n) → r' 2 n = -1 → (∀ s, s < n → ¬ r2 10 y = nI s → r' 2 s = r2 2 s) → (∀ s, s < n → r2 10 y = nI s → r' 2 s = nI n) → (r' 9 = if r2 10 y = -1 then upd (r2 9) y (nI n) else r2 9) → CW (n + 1) (fun s => if s = n then O else lv s) r' := by
    intro r' e1 e3 e10 e2 e2a e2b e9
    have one : ∀ t, t < n → r' 1 t = r2 1 t := fun t ht => by rw [e1, pk_un (by omega)]
    refine ⟨fun s hs => ?_, fun z hz => ⟨?_, ?_⟩, fun z h1 h2 => ?_⟩
    · by_cases e : s = n
      · subst e
        refine ⟨y, hy, by rw [e1, pk_us], by show (if s = s then O else lv s) ≤ 6; rw [if_pos rfl]; exact hO, fun q => ?_, fun q => by show (if s = s then O else lv s) = 0; rw [if_pos rfl]; exact hl2 q, Or.inl e2, ?_⟩
        · obtain ⟨q1, q2⟩ := hl1 q
          refine ⟨q1, ?_⟩
          show (if s = s then O else lv s) = (if y / 2 = s then O else lv (y / 2)) + 1
          rw [if_pos rfl, if_neg (by omega)]
          exact q2
        · rw [e3, pk_us]
          rcases (w2 y hy).2 with q | ⟨t, t1, t2, t3⟩
          · exact Or.inl q
          · exact Or.inr ⟨t, by omega, t2, by rw [one t t1]; exact t3⟩
      · obtain ⟨z, z1, z2, z3, z4, z5, z6, z7⟩ := w1 s (by omega)
        have hl : (fun s => if s = n then O else lv s) s = lv s := if_neg e
        refine ⟨z, z1, by rw [one s (by omega)]; exact z2, by rw [hl]; exact z3, fun q => ?_, fun q => by rw [hl]; exact z5 q, ?_, ?_⟩
        · obtain ⟨q1, q2⟩ := z4 q
          refine ⟨q1, ?_⟩
          rw [hl]
          show lv s = (if z / 2 = n then O else lv (z / 2)) + 1
          rw [if_neg (by omega)]
          exact q2
        · by_cases q : r2 10 y = nI s
          · rw [e2b s (by omega) q]
            refine Or.inr ⟨n, by omega, rfl, ?_⟩
            rcases (w2 y hy).2 with p | ⟨t, t1, t2, t3⟩
            · rw [p] at q
              exact absurd q.symm (nm1N (by omega))
            · rw [t2] at q
              have := nI_inj (by omega) (by omega) q
              subst this
              rw [e1, pk_us, ← t3, z2]
          · rw [e2a s (by omega) q]
            rcases z6 with p | ⟨t, t1, t2, t3⟩
            · exact Or.inl p
            · exact Or.inr ⟨t, by omega, t2, by rw [one t t1]; exact t3⟩
        · rw [e3, pk_un e]
          rcases z7 with p | ⟨t, t1, t2, t3⟩
          · exact Or.inl p
          · exact Or.inr ⟨t, by omega, t2, by rw [one t t1]; exact t3⟩
    · have old : r2 9 z = -1 ∨ ∃ t, t < n + 1 ∧ r2 9 z = nI t ∧ r' 1 t = nI z := by
        rcases (w2 z hz).1 with p | ⟨t, t1, t2, t3⟩
        · exact Or.inl p
        · exact Or.inr ⟨t, by omega, t2, by rw [one t t1]; exact t3⟩
      rw [e9]
      by_cases q : r2 10 y = -1
      · rw [if_pos q]
        by_cases e : z = y
        · subst e
          rw [pk_us]
          exact Or.inr ⟨n, by omega, rfl, by rw [e1, pk_us]⟩
        · rw [pk_un e]
          exact old
      · rw [if_neg q]
        exact old
    · rw [e10]
      by_cases e : z = y
      · subst e
        rw [pk_us]
        exact Or.inr ⟨n, by omega, rfl, by rw [e1, pk_us]⟩
      · rw [pk_un e]
        rcases (w2 z hz).2 with p | ⟨t, t1, t2, t3⟩
        · exact Or.inl p
        · exact Or.inr ⟨t, by omega, t2, by rw [one t t1]; exact t3⟩
    · have hzy : z ≠ y := fun q => by
        subst q
        have := (hl1 h2).1
        omega
      obtain ⟨q1, q2⟩ := w3 z (by omega) h2
      rw [e9, e10, pk_un hzy]
      refine ⟨?_, q2⟩
      by_cases q : r2 10 y = -1
      · rw [if_pos q, pk_un hzy, q1]
      · rw [if_neg q, q1]
  by_cases q : r2 10 y = -1
  · rw [if_pos q]
    refine ⟨_, fun s => if s = n then O else lv s, rfl, fin _ ?_ ?_ ?_ ?_ ?_ ?_ ?_, lvn, if_pos rfl, ?_, ?_, ?_, ?_, ?_, ?_, ?_, ?_, fun s h0 h1 h2 h3 h9 h10 => ?_⟩
    · rw [up_n (by omega), up_n (by omega), up_n (by omega), up_n (by omega), up_s]
    · rw [up_n (by omega), up_n (by omega), up_s]
    · rw [up_s]
    · rw [up_n (by omega), up_n (by omega), up_n (by omega), up_s, pk_us]
    · intro s hs _
      rw [up_n (by omega), up_n (by omega), up_n (by omega), up_s, pk_un (by omega)]
    · intro s hs z
      rw [z] at q
      exact absurd q (nm1N (by omega))
    · rw [up_n (by omega), up_s, if_pos q]
    · rw [up_n (by omega), up_n (by omega), up_n (by omega), up_n (by omega), up_n (by omega), up_s]
    · rw [up_n (by omega), up_n (by omega), up_n (by omega), up_n (by omega), up_s]
    · rw [up_n (by omega), up_n (by omega), up_s]
    · rw [up_s]
    · rw [up_n (by omega), up_n (by omega), up_n (by omega), up_s, pk_us]
    · intro s hs _
      rw [up_n (by omega), up_n (by omega), up_n (by omega), up_s, pk_un (by omega)]
    · intro s hs z
      rw [z] at q
      exact absurd q (nm1N (by omega))
    · rw [up_n (by omega), up_s, if_pos q]
    · rw [up_n h10, up_n h9, up_n h3, up_n h2, up_n h1, up_n h0]
  · obtain ⟨t, t1, t2, t3⟩ : ∃ t, t < n ∧ r2 10 y = nI t ∧ r2 1 t = nI y := by
      rcases (w2 y hy).2 with p | p
      · exact absurd p q
      · exact p
    have ct : (nI t).toNatClampNeg = t := nI_clamp (by omega)
    rw [if_neg q, t2, ck_t (inb_nI (by omega) (by omega)), ct]
    rw [t2] at fin
    rw [t2] at q
    refine ⟨_, fun s => if s = n then O else lv s, rfl, fin _ ?_ ?_ ?_ ?_ ?_ ?_ ?_, lvn, if_pos rfl, ?_, ?_, ?_, ?_, ?_, ?_, ?_, ?_, fun s h0 h1 h2 h3 h9 h10 => ?_⟩
    · rw [up_n (by omega), up_n (by omega), up_n (by omega), up_n (by omega), up_s]
    · rw [up_n (by omega), up_n (by omega), up_s]
    · rw [up_s]
    · rw [up_n (by omega), up_s, pk_un (by omega), pk_us]
    · intro s hs z
      rw [up_n (by omega), up_s, pk_un (fun e => z (by rw [e])), pk_un (by omega)]
    · intro s hs z
      have := nI_inj (by omega) (by omega) z
      subst this
      rw [up_n (by omega), up_s, pk_us]
    · rw [up_n (by omega), up_n (by omega), up_n (by omega), up_n (by omega), up_n (by omega), up_n (by omega), if_neg q]
    · rw [up_n (by omega), up_n (by omega), up_n (by omega), up_n (by omega), up_n (by omega), up_s]
    · rw [up_n (by omega), up_n (by omega), up_n (by omega), up_n (by omega), up_s]
    · rw [up_n (by omega), up_n (by omega), up_s]
    · rw [up_s]
    · rw [up_n (by omega), up_s, pk_un (by omega), pk_us]
    · intro s hs z
      rw [up_n (by omega), up_s, pk_un (fun e => z (by rw [e])), pk_un (by omega)]
    · intro s hs z
      have := nI_inj (by omega) (by omega) z
      subst this
      rw [up_n (by omega), up_s, pk_us]
    · rw [up_n (by omega), up_n (by omega), up_n (by omega), up_n (by omega), up_n (by omega), up_n (by omega), if_neg q]
    · rw [up_n h10, up_n h2, up_n h3, up_n h2, up_n h1, up_n h0]

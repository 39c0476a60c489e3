/-! ===== program: STEPS that open nothing ===== -/
def KF (i0 : Nat → Int32) (r0 : Nat → Nat → Int32) (i2 : Nat → Int32) (r2 : Nat → Nat → Int32) (mi : Nat → Int32) (mr : Nat → Nat → Int32) (i0' : Nat → Int32) (r0' : Nat → Nat → Int32) (i2' : Nat → Int32) (r2' : Nat → Nat → Int32) (mi' : Nat → Int32) (mr' : Nat → Nat → Int32) : Prop := (∀ s, s ≠ 6 → s ≠ 7 → s ≠ 8 → i0' s = i0 s) ∧ r0' 1 = r0 1 ∧ (∀ s, s ≠ 15 → i2' s = i2 s) ∧ (∀ s, s ≠ 4 → s ≠ 5 → s ≠ 7 → s ≠ 8 → s ≠ 12 → r2' s = r2 s) ∧ (∀ s, ¬ (s = 4 ∨ s = 5 ∨ s = 6 ∨ s = 7 ∨ s = 8 ∨ s = 9 ∨ s = 49 ∨ s = 53 ∨ s = 54 ∨ s = 55 ∨ s = 56 ∨ s = 57) → mi' s = mi s) ∧ ∀ s, ¬ (s = 32 ∨ s = 33 ∨ s = 34 ∨ s = 35 ∨ s = 36 ∨ s = 39 ∨ s = 40 ∨ s = 41) → mr' s = mr s
theorem KF.tr {a a' a'' c c' c'' e e' e'' : Nat → Int32} {r r' r'' s s' s'' m m' m'' : Nat → Nat → Int32} (h : KF a r c s e m a' r' c' s' e' m') (g : KF a' r' c' s' e' m' a'' r'' c'' s'' e'' m'') : KF a r c s e m a'' r'' c'' s'' e'' m'' := ⟨fun z z1 z2 z3 => (g.1 z z1 z2 z3).trans (h.1 z z1 z2 z3), g.2.1.trans h.2.1, fun z z1 => (g.2.2.1 z z1).trans (h.2.2.1 z z1), fun z z1 z2 z3 z4 z5 => (g.2.2.2.1 z z1 z2 z3 z4 z5).trans (h.2.2.2.1 z z1 z2 z3 z4 z5), fun z z1 => (g.2.2.2.2.1 z z1).trans (h.2.2.2.2.1 z z1), fun z z1 => (g.2.2.2.2.2 z z1).trans (h.2.2.2.2.2 z z1)⟩
/-- the letters that are barred behind a VAR -/
def barV (v : Nat) : Nat := if v < 8 then 2 ^ v else 256
theorem barV_lt {v : Nat} (h : v < 10) : barV v < 2 ^ 31 := by
  unfold barV
  split
  · have := Nat.pow_lt_pow_right (a := 2) (by omega) (show v < 9 by omega)
    omega
  · omega
theorem okV_lt {v a : Nat} (h : okV v a) : v < 10 ∧ a < 10 ∧ vc v a < 30 ∧ (v < 8 → vc v a = v) ∧ (¬ v < 8 → 10 ≤ vc v a) ∧ (v = 9 → vc v a = 20 + a ∧ a < 8) ∧ (v = 8 → vc v a = 10 + a) := by
  unfold vc
  rcases h with ⟨h1, h2⟩ | ⟨h1, h2⟩ | ⟨h1, h2⟩
  · rw [if_pos h1]; exact ⟨by omega, by omega, by omega, fun _ => rfl, fun q => absurd h1 q, fun q => by omega, fun q => by omega⟩
  · rw [if_neg (by omega), if_pos h1]; exact ⟨by omega, by omega, by omega, fun q => by omega, fun q => by omega, fun q => by omega, fun q => rfl⟩
  · rw [if_neg (by omega), if_neg (by omega)]; exact ⟨by omega, by omega, by omega, fun q => by omega, fun q => by omega, fun q => ⟨rfl, h2⟩, fun q => by omega⟩
theorem cbar {v a : Nat} (h : okV v a) {α : Type} (f : Int32 → α) : (if nI (vc v a) < 10 then f ((1 : Int32) <<< (nI (vc v a) &&& 31)) else f 256) = f (nI (barV v)) := by
  obtain ⟨h1, h2, h3, h4, h5, h6, h7⟩ := okV_lt h
  unfold barV
  by_cases q : v < 8
  · rw [if_pos (show nI (vc v a) < (10 : Int32) from nI_lt (b := 10) (by rw [h4 q]; omega) (by omega)), h4 q, sh1 (by omega), if_pos q]
  · rw [if_neg (show ¬ nI (vc v a) < (10 : Int32) from nI_nlt (b := 10) (h5 q) (by omega)), if_neg q]
    rfl
theorem mbar {v : Nat} (h : v < 10) : (1 : Int32) <<< ((if nI v < 8 then nI v else 8) &&& 31) = nI (barV v) := by
  unfold barV
  by_cases q : v < 8
  · rw [if_pos (show nI v < (8 : Int32) from nI_lt (b := 8) q (by omega)), sh1 (by omega), if_pos q]
  · rw [if_neg (show ¬ nI v < (8 : Int32) from nI_nlt (b := 8) (by omega) (by omega)), if_neg q]
    exact sh1 (a := 8) (by omega)
theorem fm_c31 {r1 : Nat → Nat → Int32} {l1 l2 : Nat → Nat → Int64} {c n : Nat} {i0 : Nat → Int32} {r0 : Nat → Nat → Int32} {i1 i2 : Nat → Int32} {r2 : Nat → Nat → Int32} (h : FM i1) (hc : c ≤ 900) (h15 : i2 15 = nI c) (hn : n < 60) (y : Int32) : ∃ i0' r0' i2' r2', f_X6_readChange_31 r1 l1 l2 i0 r0 i1 i2 r2 (nI n) y = some (i0', r0', i1, i2', r2') := by
  have e2 : (2 : Int32) * nI n + 0 = nI (2 * n) := by
    rw [show (2 : Int32) = nI 2 from rfl, show (0 : Int32) = nI 0 from rfl, pk_mul, nI_add]
    rfl
  have hin := inb_nI (n := 2 * n) (N := 120) (by omega) (by omega)
  obtain ⟨y0, z0, y2, z2, d, b1, b2, b3, b4⟩ := fm_sum (r1 := r1) (l1 := l1) (l2 := l2) (i0 := upd i0 8 y) (r0 := r0) (r2 := va_up r2 7 (upd (r2 7) (2 * n) (i2 15))) h hc h15
  rw [f_X6_readChange_31, f_X5_beginSum, e2, ck_t hin, bd_some, nI_clamp (by omega), b1, bd_some]
  dsimp only
  rw [f_X5_endSum, e2, ck_t hin, bd_some]
  exact ⟨_, _, _, _, rfl⟩
theorem chg_ok {b : Nat → Nat} {N M k n x : Nat} {r1 : Nat → Nat → Int32} {l1 l2 ml : Nat → Nat → Int64} {F : (Nat → Int32) → (Nat → Nat → Int32) → (Nat → Nat → Int64) → Option (((Nat → Int32) × (Nat → Nat → Int64) × (Nat → Nat → Int32)) ⊕ ((Nat → Int32) × (Nat → Nat → Int64) × (Nat → Nat → Int32)))} {CL : List Int32} {ML : List MKt} {i0 : Nat → Int32} {r0 : Nat → Nat → Int32} {i1 i2 : Nat → Int32} {r2 : Nat → Nat → Int32} {mi : Nat → Int32} {mr : Nat → Nat → Int32} (hx : x < 3) (hX : CX b N M r1 l1 mr) (hA : AT b N M k i1 mi) (h8 : i0 8 = 0) (hCL : CLp CL i2 r2) (hML : MLp ML mi mr) (hc : CL.length ≤ k) (hm : ML.length ≤ CL.length) (hn : n < 60) : (∃ k' L i0' r0' i1' i2' r2' mi' mr', k < k' ∧ f_X6_readChange i0 r0 i1 r1 l1 i2 r2 l2 (nI n) = some (i0', r0', i1', i2', r2') ∧ bt (f_X13_readVar mi mr ml 0) (fun q36 => ck (inb (2 * nI (60 + n)) 240) (f_X13_readOne_240 F q36 ml (va_up mr 32 (upd (mr 32) (2 * nI (60 + n)).toNatClampNeg (q36 56))) (nI x) (nI (60 + n)))) (fun t36 => some (.inr (t36, ml, mr))) = some (.inl (nI (60 + n), mi', ml, mr')) ∧ AT b N M k' i1' mi' ∧ CLp (CL ++ L.map cM) i2' r2' ∧ MLp (ML ++ L) mi' mr' ∧ CL.length + L.length ≤ k' ∧ DAT x 60 1000 n (CL.length + L.length) (ML.length + L.length) r2' l2 mr' ml ∧ KF i0 r0 i2 r2 mi mr i0' r0' i2' r2' mi' mr' ∧ i0' 8 = 0 ∧ FB n CL.length ML.length 200 r2 l2 mr ml r2' l2 mr' ml) ∨ (∃ i0' r0' i1' i2' r2' mi' ml' mr', f_X6_readChange i0 r0 i1 r1 l1 i2 r2 l2 (nI n) = some (i0', r0', i1', i2', r2') ∧ bt (f_X13_readVar mi mr ml 0) (fun q36 => ck (inb (2 * nI (60 + n)) 240) (f_X13_readOne_240 F q36 ml (va_up mr 32 (upd (mr 32) (2 * nI (60 + n)).toNatClampNeg (q36 56))) (nI x) (nI (60 + n)))) (fun t36 => some (.inr (t36, ml, mr))) = some (.inr (mi', ml', mr')) ∧ FT i1' mi') := by
  have hM := hX.2.1
  have hkM := hA.1.1
  have e2 : (2 : Int32) * nI n + 0 = nI (2 * n) := by
    rw [show (2 : Int32) = nI 2 from rfl, show (0 : Int32) = nI 0 from rfl, pk_mul, nI_add]
    rfl
  have e60 : (2 : Int32) * nI (60 + n) = nI (2 * (60 + n)) := by rw [show (2 : Int32) = nI 2 from rfl, pk_mul]
  have e40 : (4 : Int32) * nI (60 + n) = nI (4 * (60 + n)) := by rw [show (4 : Int32) = nI 4 from rfl, pk_mul]
  have hin := inb_nI (n := 2 * n) (N := 120) (by omega) (by omega)
  have i60 := inb_nI (n := n) (N := 60) hn (by omega)
  have h240 := inb_nI (n := 2 * (60 + n)) (N := 240) (by omega) (by omega)
  simp only [e60, ck_t h240, nI_clamp (show 2 * (60 + n) < 2 ^ 31 by omega)]
  rw [f_X6_readChange]
  rcases wVar (r0 := r0) (i0 := i0) (i2 := i2) (r2 := r2) (l2 := l2) (ml := ml) (bar := 0) hX hA (by omega) h8 with ⟨k1, v, a, i', mi', w0, w1, w2, w3, w4, w5, w6⟩ | ⟨y, i', mi', w2, w3, w4⟩
  · have w3 : f_X13_readVar mi mr ml 0 = some (.inl mi') := w3
    obtain ⟨o1, o2, o3, o4, o5, o6, o7⟩ := okV_lt w1
    have F1 := fr_X13_readVar w3
    have F1' : ∀ s, ¬ (s = 4 ∨ s = 5 ∨ s = 6 ∨ s = 7 ∨ s = 8 ∨ s = 9 ∨ s = 56 ∨ s = 57) → mi' s = mi s := F1
    have hR : bt (f_X13_readVar mi mr ml 0) (fun q36 => f_X13_readOne_240 F q36 ml (va_up mr 32 (upd (mr 32) (2 * (60 + n)) (q36 56))) (nI x) (nI (60 + n))) (fun t36 => some (.inr (t36, ml, mr))) = bt (f_X13_readSum mi' (va_up (va_up mr 32 (upd (mr 32) (2 * (60 + n)) (nI v))) 33 (upd (mr 33) (2 * (60 + n)) (nI a))) ml (nI (4 * (60 + n))) (nI (barV v))) (fun q32 => some (.inl (nI (60 + n), q32.1, ml, q32.2))) (fun t32 => some (.inr (t32.1, ml, t32.2))) := by
      rw [w3, bt_l, f_X13_readOne_240, e60, ck_t h240, nI_clamp (by omega), if_neg (show ¬ nI x = 3 from fun z => by have := nI_inj (b := 3) (by omega) (by omega) z; omega), w5, w6, mbar o1, e40, up_n (show (33 : Nat) ≠ 32 by omega)]
    rw [hR, w2, bd_some]
    dsimp only
    rw [f_X5_setVars, ck_t i60, ck_t i60, bd_some, nI_clamp (show n < 2 ^ 31 by omega), cbar w1 (fun z => f_X6_readChange_31 r1 l1 l2 i0 r0 i' i2 (va_up (va_up r2 4 (upd (r2 4) n (nI (vc v a)))) 5 (upd (r2 5) n (nI (vc v a)))) (nI n) z), f_X6_readChange_31, f_X5_beginSum, e2, ck_t hin, bd_some, nI_clamp (by omega), hCL.1]
    have hX2 : CX b N M r1 l1 (va_up (va_up mr 32 (upd (mr 32) (2 * (60 + n)) (nI v))) 33 (upd (mr 33) (2 * (60 + n)) (nI a))) := hX.mr (by rw [up_n (by omega), up_n (by omega)])
    have hCL2 : CLp CL i2 (va_up (va_up (va_up r2 4 (upd (r2 4) n (nI (vc v a)))) 5 (upd (r2 5) n (nI (vc v a)))) 7 (upd ((va_up (va_up r2 4 (upd (r2 4) n (nI (vc v a)))) 5 (upd (r2 5) n (nI (vc v a)))) 7) (2 * n) (nI CL.length))) := ⟨hCL.1, fun j t hj => by rw [up_n (by omega), up_n (by omega), up_n (by omega)]; exact hCL.2 j t hj⟩
    have hML2 : MLp ML mi' (va_up (va_up mr 32 (upd (mr 32) (2 * (60 + n)) (nI v))) 33 (upd (mr 33) (2 * (60 + n)) (nI a))) := ⟨(F1' 49 (by omega)).trans hML.1, fun j t hj => by rw [up_n (by omega), up_n (by omega), up_n (by omega), up_n (by omega), up_n (by omega), up_n (by omega)]; exact hML.2 j t hj⟩
    rcases rsum_ok (l2 := l2) (ml := ml) (r0 := r0) (i0 := upd i0 8 (nI (barV v))) (bar := barV v) (e := 0) (x := 4 * (60 + n)) (barV_lt o1) hX2 w4 pk_us hCL2 hML2 (by omega) hm (by omega) with ⟨k3, L, y0, z0, y1, y2, z2, my, mz, t1, t2, t3, t4, t5, t6, t7, t8, t9, t10, t11⟩ | ⟨y0, z0, y1, y2, z2, my, mz, c, t1, t2, t3, t4, t5, t6⟩
    · left
      have G := fr_X13_readSum t3
      have G1 : ∀ s, ¬ (s = 4 ∨ s = 5 ∨ s = 6 ∨ s = 7 ∨ s = 8 ∨ s = 9 ∨ s = 49 ∨ s = 53 ∨ s = 54 ∨ s = 55 ∨ s = 56 ∨ s = 57) → my s = mi' s := G.1
      have G2 : ∀ s, ¬ (s = 34 ∨ s = 35 ∨ s = 39 ∨ s = 40 ∨ s = 41) → mz s = va_up (va_up mr 32 (upd (mr 32) (2 * (60 + n)) (nI v))) 33 (upd (mr 33) (2 * (60 + n)) (nI a)) s := G.2
      have lC : (CL ++ L.map cM).length = CL.length + L.length := by rw [List.length_append, List.length_map]
      rw [t2, bd_some, t3, bt_l]
      dsimp only
      rw [f_X5_endSum, e2, ck_t hin, bd_some, nI_clamp (by omega)]
      have hz : ∀ s, s ≠ 12 → z2 s = va_up (va_up (va_up r2 4 (upd (r2 4) n (nI (vc v a)))) 5 (upd (r2 5) n (nI (vc v a)))) 7 (upd ((va_up (va_up r2 4 (upd (r2 4) n (nI (vc v a)))) 5 (upd (r2 5) n (nI (vc v a)))) 7) (2 * n) (nI CL.length)) s := t7.2.2.2
      have z4 : z2 4 = upd (r2 4) n (nI (vc v a)) := by rw [hz 4 (by omega), up_n (by omega), up_n (by omega), up_s]
      have z5 : z2 5 = upd (r2 5) n (nI (vc v a)) := by rw [hz 5 (by omega), up_n (by omega), up_s]
      have z7 : z2 7 = upd (r2 7) (2 * n) (nI CL.length) := by rw [hz 7 (by omega), up_s, up_n (by omega), up_n (by omega)]
      have z8 : z2 8 = r2 8 := by rw [hz 8 (by omega), up_n (by omega), up_n (by omega), up_n (by omega)]
      have hCL3 : CLp (CL ++ L.map cM) y2 (va_up z2 8 (upd (z2 8) (2 * n) (y2 15))) := ⟨t5.1, fun j t hj => by rw [up_n (by omega)]; exact t5.2 j t hj⟩
      have g32 : mz 32 = upd (mr 32) (2 * (60 + n)) (nI v) := by rw [G2 32 (by omega), up_n (by omega), up_s]
      have g33 : mz 33 = upd (mr 33) (2 * (60 + n)) (nI a) := by rw [G2 33 (by omega), up_s]
      have q34 : mz 34 = upd (mr 34) (4 * (60 + n)) (nI (1000 + ML.length)) := by rw [t10, up_n (by omega), up_n (by omega)]
      have q35 : mz 35 = upd (mr 35) (4 * (60 + n)) (nI (1000 + (ML.length + L.length))) := by rw [t11, up_n (by omega), up_n (by omega)]
      have hk8 : y2 15 = nI (CL.length + L.length) := by rw [t5.1, lC]
      have sg : SG 1000 CL.length ML.length L (va_up z2 8 (upd (z2 8) (2 * n) (y2 15))) mz := SG.of (X := []) (Y := []) (by rw [List.append_nil]; exact hCL3) (by rw [List.append_nil]; exact t6)
      refine ⟨k3, L, upd y0 8 0, z0, y1, y2, va_up z2 8 (upd (z2 8) (2 * n) (y2 15)), my, mz, by omega, rfl, rfl, t4, hCL3, t6, by omega, ⟨fun _ => ⟨⟨v, a, w1, ?_, ?_, ?_⟩, CL.length, ML.length, L, Nat.le_refl _, Nat.le_refl _, ?_, ?_, sg, ?_, ?_, t9⟩, fun q => by omega, fun q => by omega, fun q => by omega⟩, ⟨fun s s6 s7 s8 => ?_, t7.2.1, t7.2.2.1, fun s s4 s5 s7 s8 s12 => ?_, fun s hs => ?_, fun s hs => ?_⟩, pk_us, ⟨fun s hs => ⟨?_, ?_, ?_, ?_, rfl, ?_, ?_, rfl⟩, fun j hj => ⟨?_, ?_, ?_, ?_, ?_, ?_, ?_⟩, fun j hj _ => ⟨?_, ?_⟩, fun j hj => ⟨?_, ?_⟩, fun j hj => ?_, fun j hj => ?_⟩⟩
      · show va_up z2 8 _ 4 n = _
        rw [up_n (by omega), z4, pk_us]
      · rw [g32, Nat.add_zero, pk_us]
      · rw [g33, Nat.add_zero, pk_us]
      · rw [up_n (by omega), z7, pk_us]
      · rw [up_s, pk_us, hk8]
      · rw [q34, pk_us]
      · rw [q35, pk_us]
      · rw [pk_un s8, t7.1 s s6 s7, pk_un s8]
      · rw [up_n s8, hz s s12, up_n s7, up_n s5, up_n s4]
      · rw [G1 s (by omega), F1' s (by omega)]
      · rw [G2 s (by omega), up_n (by omega), up_n (by omega)]
      · rw [up_n (by omega), hz 0 (by omega), up_n (by omega), up_n (by omega), up_n (by omega)]
      · rw [up_n (by omega), hz 3 (by omega), up_n (by omega), up_n (by omega), up_n (by omega)]
      · rw [up_n (by omega), z4, pk_un (by omega)]
      · rw [up_n (by omega), z5, pk_un (by omega)]
      · rw [G2 28 (by omega), up_n (by omega), up_n (by omega)]
      · rw [G2 30 (by omega), up_n (by omega), up_n (by omega)]
      · rw [up_n (by omega), z7, pk_un (by omega)]
      · rw [up_s, pk_un (by omega), z8]
      · rw [g32, pk_un (by omega)]
      · rw [g33, pk_un (by omega)]
      · rw [G2 36 (by omega), up_n (by omega), up_n (by omega)]
      · rw [G2 37 (by omega), up_n (by omega), up_n (by omega)]
      · rw [G2 38 (by omega), up_n (by omega), up_n (by omega)]
      · rw [up_n (by omega), hz 9 (by omega), up_n (by omega), up_n (by omega), up_n (by omega)]
      · rw [up_n (by omega), hz 10 (by omega), up_n (by omega), up_n (by omega), up_n (by omega)]
      · rw [q34, pk_un (by omega)]
      · rw [q35, pk_un (by omega)]
      · exact CLk hCL hCL3 j hj
      · have := MLk hML2 t6 j hj
        rw [up_n (by omega), up_n (by omega), up_n (by omega), up_n (by omega), up_n (by omega), up_n (by omega)] at this
        exact this
    · right
      rw [t1, bd_some, t2, bt_r]
      dsimp only
      rw [f_X5_endSum, e2, ck_t hin, bd_some]
      exact ⟨_, _, y1, _, _, my, ml, mz, rfl, rfl, t3⟩
  · right
    have w3 : f_X13_readVar mi mr ml 0 = some (.inr mi') := w3
    rw [w2, bd_some, w3, bt_r]
    dsimp only
    rw [f_X5_setVars, ck_t i60, ck_t i60, bd_some]
    by_cases q : y < 10
    · obtain ⟨y0, z0, y2, z2, b1⟩ := fm_c31 (r1 := r1) (l1 := l1) (l2 := l2) (i0 := i0) (r0 := r0) (i2 := i2) (r2 := va_up (va_up r2 4 (upd (r2 4) (nI n).toNatClampNeg y)) 5 (upd (r2 5) (nI n).toNatClampNeg y)) w4.1 (show CL.length ≤ 900 by omega) hCL.1 hn ((1 : Int32) <<< (y &&& 31))
      rw [if_pos q, b1]
      exact ⟨_, _, i', _, _, mi', ml, mr, rfl, rfl, w4⟩
    · obtain ⟨y0, z0, y2, z2, b1⟩ := fm_c31 (r1 := r1) (l1 := l1) (l2 := l2) (i0 := i0) (r0 := r0) (i2 := i2) (r2 := va_up (va_up r2 4 (upd (r2 4) (nI n).toNatClampNeg y)) 5 (upd (r2 5) (nI n).toNatClampNeg y)) w4.1 (show CL.length ≤ 900 by omega) hCL.1 hn 256
      rw [if_neg q, b1]
      exact ⟨_, _, i', _, _, mi', ml, mr, rfl, rfl, w4⟩
theorem fm_sw45 {r1 : Nat → Nat → Int32} {l1 l2 : Nat → Nat → Int64} {n : Nat} {i0 : Nat → Int32} {r0 : Nat → Nat → Int32} {i1 i2 : Nat → Int32} {r2 : Nat → Nat → Int32} (h : FM i1) (hn : n < 60) (y : Int32) : ∃ i0' r2', f_X6_readSwap_45 r0 r1 l1 i2 l2 i0 i1 r2 (nI n) y = some (i0', i1, r2') := by
  have i60 := inb_nI (n := n) (N := 60) hn (by omega)
  rw [f_X6_readSwap_45, fm_var h, bd_some, f_X5_setVars, ck_t i60, ck_t i60, bd_some]
  exact ⟨_, _, rfl⟩
theorem fm_sw21 {r1 : Nat → Nat → Int32} {l1 l2 : Nat → Nat → Int64} {n : Nat} {i0 : Nat → Int32} {r0 : Nat → Nat → Int32} {i1 i2 : Nat → Int32} {r2 : Nat → Nat → Int32} (h : FM i1) (hn : n < 60) (y z : Int32) : ∃ i0' r2', f_X6_readSwap_21 r0 r1 l1 i2 l2 i0 i1 r2 (nI n) y z = some (i0', i1, r2') := by
  rw [f_X6_readSwap_21]
  by_cases q : y < 20
  · rw [if_pos q]
    exact fm_sw45 h hn y
  · rw [if_neg q]
    exact fm_sw45 h hn y
/-- the letters that are barred behind the first VAR of a swap -/
def barW (v a : Nat) : Nat := if v = 9 then 256 ||| 2 ^ a else barV v
theorem barW_lt {v a : Nat} (h : okV v a) : barW v a < 2 ^ 31 := by
  obtain ⟨h1, h2, h3, h4, h5, h6, h7⟩ := okV_lt h
  unfold barW
  by_cases q : v = 9
  · rw [if_pos q]
    have := Nat.or_lt_two_pow (x := 256) (y := 2 ^ a) (n := 9) (by decide) (Nat.pow_lt_pow_right (by omega) (by have := (h6 q).2; omega))
    omega
  · rw [if_neg q]
    exact barV_lt h1
theorem swp_ok {b : Nat → Nat} {N M k n : Nat} {r1 : Nat → Nat → Int32} {l1 l2 ml : Nat → Nat → Int64} {F : (Nat → Int32) → (Nat → Nat → Int32) → (Nat → Nat → Int64) → Option (((Nat → Int32) × (Nat → Nat → Int64) × (Nat → Nat → Int32)) ⊕ ((Nat → Int32) × (Nat → Nat → Int64) × (Nat → Nat → Int32)))} {CL : List Int32} {ML : List MKt} {i0 : Nat → Int32} {r0 : Nat → Nat → Int32} {i1 i2 : Nat → Int32} {r2 : Nat → Nat → Int32} {mi : Nat → Int32} {mr : Nat → Nat → Int32} (hX : CX b N M r1 l1 mr) (hA : AT b N M k i1 mi) (h8 : i0 8 = 0) (hCL : CLp CL i2 r2) (hML : MLp ML mi mr) (hc : CL.length ≤ k) (hn : n < 60) : (∃ k' i0' i1' r2' mi' mr', k < k' ∧ f_X6_readSwap i0 r0 i1 r1 l1 i2 r2 l2 (nI n) = some (i0', i1', r2') ∧ bt (f_X13_readVar mi mr ml 0) (fun q36 => ck (inb (2 * nI (60 + n)) 240) (f_X13_readOne_240 F q36 ml (va_up mr 32 (upd (mr 32) (2 * nI (60 + n)).toNatClampNeg (q36 56))) (nI 3) (nI (60 + n)))) (fun t36 => some (.inr (t36, ml, mr))) = some (.inl (nI (60 + n), mi', ml, mr')) ∧ AT b N M k' i1' mi' ∧ CLp CL i2 r2' ∧ MLp ML mi' mr' ∧ DAT 3 60 1000 n CL.length ML.length r2' l2 mr' ml ∧ KF i0 r0 i2 r2 mi mr i0' r0 i2 r2' mi' mr' ∧ i0' 8 = 0 ∧ FB n CL.length ML.length 200 r2 l2 mr ml r2' l2 mr' ml) ∨ (∃ i0' i1' r2' mi' ml' mr', f_X6_readSwap i0 r0 i1 r1 l1 i2 r2 l2 (nI n) = some (i0', i1', r2') ∧ bt (f_X13_readVar mi mr ml 0) (fun q36 => ck (inb (2 * nI (60 + n)) 240) (f_X13_readOne_240 F q36 ml (va_up mr 32 (upd (mr 32) (2 * nI (60 + n)).toNatClampNeg (q36 56))) (nI 3) (nI (60 + n)))) (fun t36 => some (.inr (t36, ml, mr))) = some (.inr (mi', ml', mr')) ∧ FT i1' mi') := by
  have hM := hX.2.1
  have hkM := hA.1.1
  have e60 : (2 : Int32) * nI (60 + n) = nI (2 * (60 + n)) := by rw [show (2 : Int32) = nI 2 from rfl, pk_mul]
  have i60 := inb_nI (n := n) (N := 60) hn (by omega)
  have h240 := inb_nI (n := 2 * (60 + n)) (N := 240) (by omega) (by omega)
  have h241 := inb_nI (n := 2 * (60 + n) + 1) (N := 240) (by omega) (by omega)
  simp only [e60, ck_t h240, nI_clamp (show 2 * (60 + n) < 2 ^ 31 by omega)]
  rw [f_X6_readSwap]
  rcases wVar (r0 := r0) (i0 := i0) (i2 := i2) (r2 := r2) (l2 := l2) (ml := ml) (bar := 0) hX hA (by omega) h8 with ⟨k1, v, a, i', mi', w0, w1, w2, w3, w4, w5, w6⟩ | ⟨y, i', mi', w2, w3, w4⟩
  · have w3 : f_X13_readVar mi mr ml 0 = some (.inl mi') := w3
    obtain ⟨o1, o2, o3, o4, o5, o6, o7⟩ := okV_lt w1
    have F1 := fr_X13_readVar w3
    have F1' : ∀ s, ¬ (s = 4 ∨ s = 5 ∨ s = 6 ∨ s = 7 ∨ s = 8 ∨ s = 9 ∨ s = 56 ∨ s = 57) → mi' s = mi s := F1
    have hO : f_X13_readOther mi' (va_up (va_up mr 32 (upd (mr 32) (2 * (60 + n)) (nI v))) 33 (upd (mr 33) (2 * (60 + n)) (nI a))) ml (nI (60 + n)) = f_X13_readOther_47 ml mi' (va_up (va_up mr 32 (upd (mr 32) (2 * (60 + n)) (nI v))) 33 (upd (mr 33) (2 * (60 + n)) (nI a))) (nI (60 + n)) (nI (barW v a)) := by
      rw [f_X13_readOther, e60, ck_t h240, ck_t h240, nI_clamp (by omega), up_s, up_n (show (32 : Nat) ≠ 33 by omega), up_s, pk_us, pk_us]
      unfold barW barV
      by_cases q : v < 8
      · rw [if_neg (show ¬ (8 : Int32) ≤ nI v from nI_ge (b := 8) q (by omega)), sh1 (by omega), if_neg (by omega), if_pos q]
      · rw [if_pos (show (8 : Int32) ≤ nI v from nI_le (a := 8) (by omega) (by omega))]
        by_cases q9 : v = 9
        · have ha := (o6 q9).2
          rw [if_pos (show nI v = 9 by rw [q9]; rfl), f_X13_readOther_46, sh1 (by omega), show (256 : Int32) = nI 256 from rfl, fa_or, if_pos q9]
        · rw [if_neg (show ¬ nI v = 9 from fun z => q9 (nI_inj (b := 9) (by omega) (by omega) z)), f_X13_readOther_46, if_neg q9, if_neg q]
          rfl
    have hR : bt (f_X13_readVar mi mr ml 0) (fun q36 => f_X13_readOne_240 F q36 ml (va_up mr 32 (upd (mr 32) (2 * (60 + n)) (q36 56))) (nI 3) (nI (60 + n))) (fun t36 => some (.inr (t36, ml, mr))) = bt (f_X13_readOther_47 ml mi' (va_up (va_up mr 32 (upd (mr 32) (2 * (60 + n)) (nI v))) 33 (upd (mr 33) (2 * (60 + n)) (nI a))) (nI (60 + n)) (nI (barW v a))) (fun q33 => some (.inl (nI (60 + n), q33.1, ml, q33.2))) (fun t33 => some (.inr (t33.1, ml, t33.2))) := by
      rw [w3, bt_l, f_X13_readOne_240, e60, ck_t h240, nI_clamp (by omega), if_pos (show nI 3 = 3 from rfl), w5, w6, up_n (show (33 : Nat) ≠ 32 by omega), hO]
    obtain ⟨j0, hC, hj8, hj⟩ : ∃ j0 : Nat → Int32, (if nI (vc v a) < 10 then (f_X6_readSwap_21 r0 r1 l1 i2 l2 i0 i' r2 (nI n) (nI (vc v a)) ((1 : Int32) <<< (nI (vc v a) &&& 31))) else (f_X6_readSwap_21 r0 r1 l1 i2 l2 i0 i' r2 (nI n) (nI (vc v a)) 256)) = f_X6_readSwap_45 r0 r1 l1 i2 l2 j0 i' r2 (nI n) (nI (vc v a)) ∧ j0 8 = nI (barW v a) ∧ ∀ s, s ≠ 8 → j0 s = i0 s := by
      rw [cbar w1 (fun z => f_X6_readSwap_21 r0 r1 l1 i2 l2 i0 i' r2 (nI n) (nI (vc v a)) z), f_X6_readSwap_21]
      unfold barW
      by_cases q9 : v = 9
      · obtain ⟨g1, g2⟩ := o6 q9
        have e20 : nI (vc v a) - 20 = nI a := by rw [g1, show (20 : Int32) = nI 20 from rfl, pk_sub (by omega), show 20 + a - 20 = a by omega]
        have eb : barV v = 256 := by unfold barV; rw [if_neg (by omega)]
        refine ⟨upd (upd i0 8 (nI (barV v))) 8 (nI (barV v) ||| (1 : Int32) <<< ((nI (vc v a) - 20) &&& 31)), ?_, ?_, fun s hs => by rw [pk_un hs, pk_un hs]⟩
        · rw [if_neg (show ¬ nI (vc v a) < (20 : Int32) from nI_nlt (b := 20) (by omega) (by omega))]
        · rw [pk_us, e20, sh1 (by omega), eb, fa_or, if_pos q9]
      · have h20 : vc v a < 20 := by
          by_cases q : v < 8
          · rw [o4 q]; omega
          · rw [o7 (by omega)]; omega
        refine ⟨upd i0 8 (nI (barV v)), ?_, ?_, fun s hs => pk_un hs⟩
        · rw [if_pos (show nI (vc v a) < (20 : Int32) from nI_lt (b := 20) h20 (by omega))]
        · rw [pk_us, if_neg q9]
    rw [hR, w2, bd_some]
    dsimp only
    rw [hC, f_X6_readSwap_45, f_X13_readOther_47]
    have hX2 : CX b N M r1 l1 (va_up (va_up mr 32 (upd (mr 32) (2 * (60 + n)) (nI v))) 33 (upd (mr 33) (2 * (60 + n)) (nI a))) := hX.mr (by rw [up_n (by omega), up_n (by omega)])
    have e61 : (2 : Int32) * nI (60 + n) + 1 = nI (2 * (60 + n) + 1) := by rw [e60, nI_1]
    rcases wVar (r0 := r0) (i0 := j0) (i2 := i2) (r2 := r2) (l2 := l2) (ml := ml) hX2 w4 (barW_lt w1) hj8 with ⟨k2, v2, a2, i'', mi2, x0, x1, x2, x3, x4, x5, x6⟩ | ⟨y, i'', mi2, x2, x3, x4⟩
    · left
      have F2 := fr_X13_readVar x3
      have F2' : ∀ s, ¬ (s = 4 ∨ s = 5 ∨ s = 6 ∨ s = 7 ∨ s = 8 ∨ s = 9 ∨ s = 56 ∨ s = 57) → mi2 s = mi' s := F2
      rw [x2, bd_some, x3, bt_l]
      dsimp only
      rw [f_X5_setVars, ck_t i60, ck_t i60, bd_some, e61, ck_t h241, ck_t h241, bt_l, nI_clamp (show n < 2 ^ 31 by omega), nI_clamp (show 2 * (60 + n) + 1 < 2 ^ 31 by omega), x5, x6, up_s, up_n (show (32 : Nat) ≠ 33 by omega), up_s]
      dsimp only
      refine ⟨k2, upd j0 8 0, i'', va_up (va_up r2 4 (upd (r2 4) n (nI (vc v a)))) 5 (upd (r2 5) n (nI (vc v2 a2))), mi2, _, by omega, rfl, rfl, x4, ⟨hCL.1, fun j t hj => by rw [up_n (by omega), up_n (by omega)]; exact hCL.2 j t hj⟩, ⟨by rw [F2' 49 (by omega), F1' 49 (by omega)]; exact hML.1, fun j t hj => by rw [up_n (by omega), up_n (by omega), up_n (by omega), up_n (by omega), up_n (by omega), up_n (by omega), up_n (by omega), up_n (by omega), up_n (by omega), up_n (by omega), up_n (by omega), up_n (by omega)]; exact hML.2 j t hj⟩, ⟨fun q => by omega, fun _ => ⟨⟨v, a, w1, ?_, ?_, ?_⟩, ⟨v2, a2, x1, ?_, ?_, ?_⟩⟩, fun q => by omega, fun q => by omega⟩, ⟨fun s s6 s7 s8 => by rw [pk_un s8, hj s s8], rfl, fun _ _ => rfl, fun s s4 s5 s7 s8 s12 => by rw [up_n s5, up_n s4], fun s hs => by rw [F2' s (by omega), F1' s (by omega)], fun s hs => by rw [up_n (by omega), up_n (by omega), up_n (by omega), up_n (by omega)]⟩, pk_us, ⟨fun s hs => ⟨?_, ?_, ?_, ?_, rfl, ?_, ?_, rfl⟩, fun j hj => ⟨?_, ?_, ?_, ?_, ?_, ?_, ?_⟩, fun j hj _ => ⟨?_, ?_⟩, fun j hj => ⟨?_, ?_⟩, fun j hj => ?_, fun j hj => ⟨?_, ?_, ?_⟩⟩⟩
      · show va_up (va_up r2 4 _) 5 _ 4 n = _
        rw [up_n (by omega), up_s, pk_us]
      · rw [up_n (by omega), up_s, pk_un (by omega)]
        exact pk_us
      · rw [up_s, pk_un (by omega)]
        exact pk_us
      · show va_up (va_up r2 4 _) 5 _ 5 n = _
        rw [up_s, pk_us]
      · rw [up_n (by omega), up_s, pk_us]
      · rw [up_s, pk_us]
      · rw [up_n (by omega), up_n (by omega)]
      · rw [up_n (by omega), up_n (by omega)]
      · rw [up_n (by omega), up_s, pk_un (by omega)]
      · rw [up_s, pk_un (by omega)]
      · rw [up_n (by omega), up_n (by omega), up_n (by omega), up_n (by omega)]
      · rw [up_n (by omega), up_n (by omega), up_n (by omega), up_n (by omega)]
      · rw [up_n (by omega), up_n (by omega)]
      · rw [up_n (by omega), up_n (by omega)]
      · rw [up_n (by omega), up_s, pk_un (by omega), pk_un (by omega)]
      · rw [up_s, pk_un (by omega), pk_un (by omega)]
      · rw [up_n (by omega), up_n (by omega), up_n (by omega), up_n (by omega)]
      · rw [up_n (by omega), up_n (by omega), up_n (by omega), up_n (by omega)]
      · rw [up_n (by omega), up_n (by omega), up_n (by omega), up_n (by omega)]
      · rw [up_n (by omega), up_n (by omega)]
      · rw [up_n (by omega), up_n (by omega)]
      · rw [up_n (by omega), up_n (by omega), up_n (by omega), up_n (by omega)]
      · rw [up_n (by omega), up_n (by omega), up_n (by omega), up_n (by omega)]
      · rw [up_n (by omega), up_n (by omega)]
      · rw [up_n (by omega), up_n (by omega), up_n (by omega), up_n (by omega)]
      · rw [up_n (by omega), up_n (by omega), up_n (by omega), up_n (by omega)]
      · rw [up_n (by omega), up_n (by omega), up_n (by omega), up_n (by omega)]
    · right
      rw [x2, bd_some, x3, bt_r, bt_r]
      dsimp only
      rw [f_X5_setVars, ck_t i60, ck_t i60, bd_some]
      exact ⟨_, i'', _, mi2, ml, _, rfl, rfl, x4⟩
  · right
    have w3 : f_X13_readVar mi mr ml 0 = some (.inr mi') := w3
    rw [w2, bd_some, w3, bt_r]
    dsimp only
    by_cases q : y < 10
    · obtain ⟨y0, z2, b1⟩ := fm_sw21 (r1 := r1) (l1 := l1) (l2 := l2) (i0 := i0) (r0 := r0) (i2 := i2) (r2 := r2) w4.1 hn y ((1 : Int32) <<< (y &&& 31))
      rw [if_pos q, b1]
      exact ⟨_, i', _, mi', ml, mr, rfl, rfl, w4⟩
    · obtain ⟨y0, z2, b1⟩ := fm_sw21 (r1 := r1) (l1 := l1) (l2 := l2) (i0 := i0) (r0 := r0) (i2 := i2) (r2 := r2) w4.1 hn y 256
      rw [if_neg q, b1]
      exact ⟨_, i', _, mi', ml, mr, rfl, rfl, w4⟩

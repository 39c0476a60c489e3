/-! ===== CELLS: part, ball ===== -/
theorem PBr.cb {W : Nat} {p : Nat → Nat → Nat} {r : Nat → Nat → Int32} (h : PBr W p r) : CBr 30 r (fun k y x => decide (x < W) && decide (p y x = k)) := h
theorem pp_step {i : Nat → Int32} {r : Nat → Nat → Int32} {W x y k n : Nat} {p : Nat → Nat → Nat} {K v : Int32} (hW : W ≤ 10) (hx : x < W) (hy : y < 10) (hk : k < 4) (hP : PBr W p r) : f_X0_putPart_6 (n + 1) i r (nI x) (nI y) K v (nI k) = f_X0_putPart_6 n i r (nI x) (nI y) K (if p y x = k then nI k else v) (nI (k + 1)) := by
  rw [f_X0_putPart_6, if_neg (show ¬ (4 : Int32) ≤ nI k from nI_ge (b := 4) hk (by omega)), ck_t (inb_nI hk (by omega)), ck_t (inb_nI hy (by omega)), nI_clamp (n := k) (by omega), nI_clamp (n := y) (by omega), hP k hk y hy]
  by_cases e : p y x = k
  · rw [if_neg (fun q => by
      rw [bit_pk10 (show x < 10 by omega)] at q
      simp [hx, e] at q), if_pos e, f_X0_putPart_32, nI_1]
  · rw [if_pos ((bit_pk10 (a := fun x => decide (x < W) && decide (p y x = k)) (show x < 10 by omega)).mpr (by simp [e])), if_neg e, f_X0_putPart_32, nI_1]
theorem andB {g : Nat → Bool} {w : Nat} (hw : w < 10) : nI (pkB g 10) &&& (((1 : Int32) <<< (nI w &&& 31)) ^^^ (-1)) = nI (pkB (fun k => if w = k then false else g k) 10) := by
  rw [sh1 (by omega)]
  refine pkB_ext (fun i hi => ?_)
  rw [b_and, b_xor, b_m1 i hi, bqP _ _ hi, b_pow _ hi]
  by_cases e : w = i
  · subst e
    simp
  · simp [e]
theorem orB10 {g : Nat → Bool} {w : Nat} (hw : w < 10) : nI (pkB g 10) ||| ((1 : Int32) <<< (nI w &&& 31)) = nI (pkB (fun k => if w = k then true else g k) 10) := by
  rw [sh1 (by omega)]
  refine pkB_ext (fun i hi => ?_)
  rw [b_or, bqP _ _ hi, b_pow _ hi]
  by_cases e : w = i
  · subst e
    simp [hw]
  · simp [e]
theorem xorB10 {g : Nat → Bool} {w : Nat} (hw : w < 10) : nI (pkB g 10) ^^^ ((1 : Int32) <<< (nI w &&& 31)) = nI (pkB (fun k => if w = k then !(g k) else g k) 10) := by
  rw [sh1 (by omega)]
  refine pkB_ext (fun i hi => ?_)
  rw [b_xor, bqP _ _ hi, b_pow _ hi]
  by_cases e : w = i
  · subst e
    simp [hw]
  · simp [e]
def up2 {α : Type} (f : Nat → Nat → α) (y x : Nat) (v : α) : Nat → Nat → α := fun y' x' => if y' = y ∧ x' = x then v else f y' x'
theorem putPart_ok {i : Nat → Int32} {r : Nat → Nat → Int32} {W x y K : Nat} {p : Nat → Nat → Nat} (hW : W ≤ 10) (hx : x < W) (hy : y < 10) (hK : K < 4) (hp : ∀ y x, p y x < 4) (hP : PBr W p r) : ∃ r', f_X0_putPart i r (nI x) (nI y) (nI K) = some (nI (p y x), upd i 6 0, r') ∧ PBr W (up2 p y x K) r' ∧ ∀ s, s < 30 → r' s = r s := by
  have hp4 := hp y x
  have ip : inb (nI (p y x)) 4 = true := inb_nI hp4 (by omega)
  have iK : inb (nI K) 4 = true := inb_nI hK (by omega)
  have iy : inb (nI y) 10 = true := inb_nI hy (by omega)
  have e0 : f_X0_putPart i r (nI x) (nI y) (nI K) = f_X0_putPart_6 (1999995 + 1) i r (nI x) (nI y) (nI K) (nI (p y x)) (nI 4) := by
    rw [f_X0_putPart, show (2000000 : Nat) = 1999995 + 1 + 1 + 1 + 1 + 1 from rfl]
    refine Eq.trans (pp_step (k := 0) hW hx hy (by omega) hP) ?_
    rw [pp_step (k := 0 + 1) hW hx hy (by omega) hP, pp_step (k := 0 + 1 + 1) hW hx hy (by omega) hP, pp_step (k := 0 + 1 + 1 + 1) hW hx hy (by omega) hP]
    refine congrArg (fun v => f_X0_putPart_6 (1999995 + 1) i r (nI x) (nI y) (nI K) v (nI 4)) ?_
    rcases w4 hp4 with e | e | e | e <;> rw [e] <;> rfl
  have h1 := hP.cb.put (w := p y x) (y := y) (v := r (30 + p y x) y &&& (((1 : Int32) <<< (nI x &&& 31)) ^^^ (-1))) _ (by rw [hP _ hp4 y hy, andB (by omega)])
  have h2 := h1.put (w := K) (y := y) (v := (va_up r (30 + p y x) (upd (r (30 + p y x)) y (r (30 + p y x) y &&& (((1 : Int32) <<< (nI x &&& 31)) ^^^ (-1))))) (30 + K) y ||| ((1 : Int32) <<< (nI x &&& 31))) _ (by rw [h1 K hK y hy, orB10 (by omega)])
  refine ⟨_, ?_, h2.congr (fun k hk y' hy' x' hx' => ?_), fun s hs => by rw [up_n (by omega), up_n (by omega)]⟩
  · rw [e0, f_X0_putPart_6, if_pos (show (4 : Int32) ≤ nI 4 from nI_le (a := 4) (by omega) (by omega)), ck_t ip, ck_t iy, ck_t iy, nI_clamp (n := p y x) (by omega), nI_clamp (n := y) (by omega), f_X0_putPart_55, ck_t iK, ck_t iy, ck_t iy, nI_clamp (n := K) (by omega), nI_clamp (n := y) (by omega)]
  · unfold up2
    by_cases e1 : y' = y
    · subst e1
      by_cases e2 : x' = x
      · subst e2
        by_cases e3 : k = K
        · subst e3
          simp [hx]
        · by_cases e4 : k = p y' x'
          · subst e4
            simp [e3, hx, Ne.symm e3]
          · simp [e3, e4, Ne.symm e3, Ne.symm e4]
      · by_cases e3 : k = K
        · subst e3
          by_cases e4 : k = p y' x
          · simp [e2, Ne.symm e2, ← e4]
          · simp [e2, Ne.symm e2, e4]
        · by_cases e4 : k = p y' x
          · subst e4
            simp [e2, e3, Ne.symm e2]
          · simp [e2, e3, e4]
    · simp [e1]
theorem part_ok {i mi : Nat → Int32} {r mr : Nat → Nat → Int32} {ml : Nat → Nat → Int64} (h : GC i r mi mr) (x1 x2 x3 : Int32) : ∃ q m, f_X11_part i r x1 x2 x3 = some q ∧ f_X13_part mi mr ml x1 x2 x3 = some m ∧ q.1 = m.1 ∧ GC q.2.1 q.2.2 m.2.1 m.2.2 := by
  obtain ⟨W, H, U, c, p, hp, hu⟩ := id h
  rw [f_X11_part, f_X13_part]
  rcases cell_cases (ml := ml) hp x1 x2 with ⟨x, y, hx, hy, e1, e2, a, b⟩ | ⟨a, b⟩
  · rw [a, b, bd_some, bd_some, if_pos rfl, if_neg n10]
    rcases way_cases x3 with ⟨K, hK, e3, n0, n4, hc⟩ | ⟨n0, hc⟩
    · rw [if_neg n0, if_pos n4, hc, bd_some, if_neg n10]
      subst e1
      subst e2
      subst e3
      obtain ⟨⟨hW1, hW, hH1, hH⟩, ⟨g3, g4, g5, m4, m5⟩, hp4, hin, hC, hP, hM, hPM⟩ := hp
      obtain ⟨r1, a1, a2, a3⟩ := putPart_ok (i := i) (y := y) hW hx (by omega) hK hp4 hP
      have ii := idx100 (y := y) (x := x) (by omega) (by omega)
      refine ⟨(nI (p y x), upd i 6 0, r1), _, by rw [a1, bd_some], by rw [at_ok, bd_some, ck_t ii, bd_some, ck_t ii, nI_clamp (n := 10 * y + x) (by omega)], (hPM y (by omega) x (by omega)).symm, W, H, 0, c, up2 p y x K, ⟨⟨hW1, hW, hH1, hH⟩, ⟨?_, ?_, ?_, ?_, ?_⟩, ?_, hin, ?_, a2, ?_, ?_⟩, ?_, ?_, by omega, trivial⟩
      · show upd i 6 0 3 = _
        rw [pk_un (by omega), g3]
      · show upd i 6 0 4 = _
        rw [pk_un (by omega), g4]
      · show upd i 6 0 5 = upd mi 67 0 66
        rw [pk_un (by omega), pk_un (by omega), g5]
      · show upd mi 67 0 64 = _
        rw [pk_un (by omega), m4]
      · show upd mi 67 0 65 = _
        rw [pk_un (by omega), m5]
      · intro y' x'
        unfold up2
        split
        · exact hK
        · exact hp4 y' x'
      · intro w hw y' hy'
        show r1 (10 + w) y' = _
        rw [a3 (10 + w) (by omega)]
        exact hC w hw y' hy'
      · intro y' hy' x' hx'
        show va_up mr 68 (upd (mr 68) (10 * y + x) (nI K)) 69 _ = _
        rw [up_n (by omega)]
        exact hM y' hy' x' hx'
      · intro y' hy' x' hx'
        show va_up mr 68 (upd (mr 68) (10 * y + x) (nI K)) 68 _ = _
        rw [up_s]
        unfold up2
        by_cases e : y' = y ∧ x' = x
        · rw [if_pos e, e.1, e.2, pk_us]
        · rw [if_neg e, pk_un (by omega)]
          exact hPM y' hy' x' hx'
      · show upd i 6 0 6 = _
        rw [pk_us]
        rfl
      · show upd mi 67 0 67 = _
        rw [pk_us]
        rfl
    · rw [hc, bd_some, if_pos rfl]
      refine ⟨(-2, i, r), (-2, mi, mr), ?_, rfl, rfl, h⟩
      by_cases q : x3 < 0
      · rw [if_pos q]
      · rw [if_neg q, if_neg (n0.resolve_left q)]
  · rw [a, b, bd_some, bd_some, if_neg n10, if_pos rfl]
    exact ⟨_, _, rfl, rfl, rfl, h⟩
def up3 (c : CT) (w y x : Nat) (v : Bool) : CT := fun w' y' x' => if w' = w ∧ y' = y ∧ x' = x then v else c w' y' x'
theorem andB4 {g : Nat → Bool} {w : Nat} (hw : w < 4) : nI (pkB g 4) &&& (((1 : Int32) <<< (nI w &&& 31)) ^^^ (-1)) = nI (pkB (fun k => if w = k then false else g k) 4) := by
  rw [sh1 (by omega)]
  refine pkB_ext (fun i hi => ?_)
  rw [b_and, b_xor, b_m1 i hi, bqP _ _ hi, b_pow _ hi]
  by_cases e : w = i
  · subst e
    simp
  · simp [e]
theorem putBall_ok {i : Nat → Int32} {r : Nat → Nat → Int32} {W x y w : Nat} {c : CT} {b : Bool} (hx : x < 10) (hy : y < 10) (hw : w < 4) (hC : CBr 10 r c) : ∃ r', f_X0_putBall i r (nI x) (nI y) (nI w) (if b then 1 else 0) = some (if c w y x = b then 0 else 1, upd i 6 0, r') ∧ CBr 10 r' (up3 c w y x b) ∧ ∀ s, 20 ≤ s → r' s = r s := by
  have iw : inb (nI w) 4 = true := inb_nI hw (by omega)
  have iy : inb (nI y) 10 = true := inb_nI hy (by omega)
  have e0 : f_X0_putBall i r (nI x) (nI y) (nI w) (if b then 1 else 0) = f_X0_putBall_20 i r (nI x) (nI y) (nI w) (if b then 1 else 0) (if c w y x then 1 else 0) := by
    rw [f_X0_putBall, ck_t iw, ck_t iy, nI_clamp (n := w) (by omega), nI_clamp (n := y) (by omega), hC w hw y hy]
    cases e : c w y x
    · rw [if_pos ((bit_pk10 hx).mpr e)]
      rfl
    · rw [if_neg (fun q => by rw [bit_pk10 hx, e] at q; cases q)]
      rfl
  have h1 := hC.put (w := w) (y := y) (v := r (10 + w) y ^^^ ((1 : Int32) <<< (nI x &&& 31))) _ (by rw [hC w hw y hy, xorB10 hx])
  by_cases e : c w y x = b
  · refine ⟨r, ?_, hC.congr (fun w' _ y' _ x' _ => ?_), fun _ _ => rfl⟩
    · rw [e0, e, f_X0_putBall_20, if_pos rfl, f_X0_putBall_43, if_pos rfl, if_pos rfl]
    · unfold up3
      by_cases q : w' = w ∧ y' = y ∧ x' = x
      · rw [if_pos q, q.1, q.2.1, q.2.2, e]
      · rw [if_neg q]
  · have hne : ¬ ((if c w y x = true then 1 else 0 : Int32) = (if b = true then 1 else 0)) := by
      revert e
      cases c w y x <;> cases b <;> simp
    refine ⟨_, ?_, h1.congr (fun w' _ y' _ x' _ => ?_), fun s hs => by rw [up_n (by omega)]⟩
    · rw [e0, f_X0_putBall_20, if_neg hne, ck_t iw, ck_t iy, ck_t iy, nI_clamp (n := w) (by omega), nI_clamp (n := y) (by omega), f_X0_putBall_43, if_neg hne, if_neg e]
    · unfold up3
      by_cases q : w' = w ∧ y' = y
      · obtain ⟨q1, q2⟩ := q
        subst q1
        subst q2
        by_cases q3 : x' = x
        · subst q3
          have e5 : b = !(c w' y' x') := by
            revert e
            cases c w' y' x' <;> cases b <;> simp
          simp [e5]
        · simp [q3, Ne.symm q3]
      · have q3 : ¬ (w' = w ∧ y' = y ∧ x' = x) := fun z => q ⟨z.1, z.2.1⟩
        rw [if_neg q3]
        simp [q]
theorem ball_ok {i mi : Nat → Int32} {r mr : Nat → Nat → Int32} {ml : Nat → Nat → Int64} (h : GC i r mi mr) (x1 x2 x3 x4 : Int32) (h4 : x4 = 0 ∨ x4 = 1) : ∃ q m, f_X11_ball i r x1 x2 x3 x4 = some q ∧ f_X13_ball mi mr ml x1 x2 x3 x4 = some m ∧ q.1 = m.1 ∧ GC q.2.1 q.2.2 m.2.1 m.2.2 := by
  obtain ⟨W, H, U, c, p, hp, hu⟩ := id h
  rw [f_X11_ball, f_X13_ball]
  rcases cell_cases (ml := ml) hp x1 x2 with ⟨x, y, hx, hy, e1, e2, a, b⟩ | ⟨a, b⟩
  · rw [a, b, bd_some, bd_some, if_pos rfl, if_neg n10]
    rcases way_cases x3 with ⟨w, hw, e3, n0, n4, hc⟩ | ⟨n0, hc⟩
    · rw [if_neg n0, if_pos n4, hc, bd_some, if_neg n10]
      subst e1
      subst e2
      subst e3
      obtain ⟨t, ht⟩ : ∃ t : Bool, x4 = if t then 1 else 0 := by
        rcases h4 with e | e
        · exact ⟨false, e⟩
        · exact ⟨true, e⟩
      subst ht
      obtain ⟨⟨hW1, hW, hH1, hH⟩, ⟨g3, g4, g5, m4, m5⟩, hp4, hin, hC, hP, hM, hPM⟩ := hp
      obtain ⟨r1, a1, a2, a3⟩ := putBall_ok (i := i) (b := t) (W := W) (x := x) (y := y) (by omega) (by omega) hw hC
      have ii := idx100 (y := y) (x := x) (by omega) (by omega)
      have hM1 := hM.put (y := y) (x := x) (by omega) (fun k => up3 c w y x t k y x) rfl
      have B : (bd (f_X13_at (nI x) (nI y)) (fun q9 => ck (inb q9 100) (bd (f_X13_at (nI x) (nI y)) (fun q10 => if (if t = true then (1 : Int32) else 0) = 0 then (f_X13_ball_67 ml mi mr (nI x) (nI y) (mr 69 q9.toNatClampNeg) ((mr 69 q9.toNatClampNeg) &&& (((1 : Int32) <<< ((nI w) &&& 31)) ^^^ (-1))) q10) else (f_X13_ball_67 ml mi mr (nI x) (nI y) (mr 69 q9.toNatClampNeg) ((mr 69 q9.toNatClampNeg) ||| ((1 : Int32) <<< ((nI w) &&& 31))) q10))))) = some (if c w y x = t then 0 else 1, upd mi 67 0, va_up mr 69 (upd (mr 69) (10 * y + x) (nI (pkB (fun k => up3 c w y x t k y x) 4)))) := by
        have hv := hM y (by omega) x (by omega)
        have key : f_X13_ball_67 ml mi mr (nI x) (nI y) (nI (pkB (fun w => c w y x) 4)) (nI (pkB (fun k => up3 c w y x t k y x) 4)) (nI (10 * y + x)) = some (if c w y x = t then 0 else 1, upd mi 67 0, va_up mr 69 (upd (mr 69) (10 * y + x) (nI (pkB (fun k => up3 c w y x t k y x) 4)))) := by
          rw [f_X13_ball_67, ck_t ii, nI_clamp (n := 10 * y + x) (by omega), f_X13_ball_73, at_ok, bd_some, ck_t ii, nI_clamp (n := 10 * y + x) (by omega), up_s, pk_us]
          by_cases e : c w y x = t
          · rw [if_pos (congrArg nI (pkB_congr (fun k _ => by
              unfold up3
              by_cases q : k = w
              · subst q; simp [e]
              · simp [q]))), if_pos e]
          · rw [if_neg (fun q => by
              have := pkB_inj (by omega) q hw
              unfold up3 at this
              simp at this
              exact e this), if_neg e]
        rw [at_ok, bd_some, ck_t ii, bd_some, nI_clamp (n := 10 * y + x) (by omega), hv]
        cases t
        · rw [if_pos (by rfl), andB4 hw, ← key]
          refine congrArg (fun v => f_X13_ball_67 ml mi mr (nI x) (nI y) (nI (pkB (fun w => c w y x) 4)) (nI v) (nI (10 * y + x))) (pkB_congr (fun k _ => ?_))
          unfold up3
          by_cases q : k = w
          · subst q; simp
          · simp [q, Ne.symm q]
        · rw [if_neg (by decide), orB hw, ← key]
          refine congrArg (fun v => f_X13_ball_67 ml mi mr (nI x) (nI y) (nI (pkB (fun w => c w y x) 4)) (nI v) (nI (10 * y + x))) (pkB_congr (fun k _ => ?_))
          unfold up3
          by_cases q : k = w
          · subst q; simp
          · simp [q, Ne.symm q]
      refine ⟨(if c w y x = t then 0 else 1, upd i 6 0, r1), _, by rw [a1, bd_some], B, rfl, W, H, 0, up3 c w y x t, p, ⟨⟨hW1, hW, hH1, hH⟩, ⟨?_, ?_, ?_, ?_, ?_⟩, hp4, ?_, a2, hP.slot a3, ?_, ?_⟩, ?_, ?_, by omega, trivial⟩
      · show upd i 6 0 3 = _
        rw [pk_un (by omega), g3]
      · show upd i 6 0 4 = _
        rw [pk_un (by omega), g4]
      · show upd i 6 0 5 = upd mi 67 0 66
        rw [pk_un (by omega), pk_un (by omega), g5]
      · show upd mi 67 0 64 = _
        rw [pk_un (by omega), m4]
      · show upd mi 67 0 65 = _
        rw [pk_un (by omega), m5]
      · intro w' y' x' hn
        unfold up3
        rw [if_neg (by omega)]
        exact hin w' y' x' hn
      · refine hM1.congr (fun k _ y' _ x' _ => ?_)
        unfold up3
        by_cases q : y' = y ∧ x' = x
        · rw [if_pos q, q.1, q.2]
        · rw [if_neg q, if_neg (fun z => q z.2)]
      · refine hPM.slot ?_
        show va_up mr 69 (upd (mr 69) (10 * y + x) (nI (pkB (fun k => up3 c w y x t k y x) 4))) 68 = _
        rw [up_n (by omega)]
      · show upd i 6 0 6 = _
        rw [pk_us]
        rfl
      · show upd mi 67 0 67 = _
        rw [pk_us]
        rfl
    · rw [hc, bd_some, if_pos rfl]
      refine ⟨(-2, i, r), (-2, mi, mr), ?_, rfl, rfl, h⟩
      by_cases q : x3 < 0
      · rw [if_pos q]
      · rw [if_neg q, if_neg (n0.resolve_left q)]
  · rw [a, b, bd_some, bd_some, if_neg n10, if_pos rfl]
    exact ⟨_, _, rfl, rfl, rfl, h⟩

/-! ===== program: the call ===== -/
def DA (x s P : Nat) (r2 mr : Nat → Nat → Int32) : Prop := (x < 3 → VR 0 s 0 r2 mr ∧ SM 0 0 s 900 900 r2 mr) ∧ (x = 3 → VR 0 s 0 r2 mr ∧ VR 0 s 1 r2 mr) ∧ (x = 4 ∨ x = 5 → TT 0 0 s 0 900 900 r2 mr ∧ TT 0 0 s 1 900 900 r2 mr ∧ ∀ w, w < 2 → mr 37 (2 * s + w) = r2 9 (2 * s + w) ∧ mr 38 (2 * s + w) = r2 10 (2 * s + w)) ∧ (6 ≤ x → ∃ p, p < P ∧ r2 4 s = nI p ∧ mr 31 s = nI p)
def GPn (n P : Nat) (lv : Nat → Nat) (i2 : Nat → Int32) (r2 : Nat → Nat → Int32) (mi : Nat → Int32) (mr : Nat → Nat → Int32) : Prop := n ≤ 60 ∧ P ≤ 6 ∧ i2 14 = nI P ∧ mi 46 = nI P ∧ CW n lv r2 ∧ (∀ s, s < n → ∃ x, x < 8 ∧ r2 0 s = nI x ∧ mr 28 s = nI x ∧ mr 29 s = r2 2 s ∧ mr 30 s = r2 3 s ∧ DA x s P r2 mr) ∧ ∀ p, p < P → mr 42 p = r2 9 (120 + p) ∧ mr 43 p = r2 10 (120 + p)
/-- the program in force, in both -/
def GP (i2 : Nat → Int32) (r2 : Nat → Nat → Int32) (mi : Nat → Int32) (mr : Nat → Nat → Int32) : Prop := ∃ n P lv, GPn n P lv i2 r2 mi mr
theorem SG.lo {c0 m0 : Nat} {L : List MKt} {r2 mr mr' : Nat → Nat → Int32} (h : SG 0 c0 m0 L r2 mr) (hm : m0 + L.length ≤ 1000) (g : LO mr mr') : SG 0 c0 m0 L r2 mr' := by
  intro j t hj
  have hl := (List.getElem?_eq_some_iff.mp hj).1
  obtain ⟨a1, a2, a3, a4⟩ := h j t hj
  have w : ∀ k, 39 ≤ k → k ≤ 41 → LWr k (0 + (m0 + j)) := fun k h1 h2 => by unfold LWr; omega
  exact ⟨a1, (g 39 _ (w 39 (by omega) (by omega))).trans a2, (g 40 _ (w 40 (by omega) (by omega))).trans a3, (g 41 _ (w 41 (by omega) (by omega))).trans a4⟩
theorem VR.lo {s w : Nat} {r2 mr mr' : Nat → Nat → Int32} (h : VR 0 s w r2 mr) (hs : s < 60) (hw : w < 2) (g : LO mr mr') : VR 0 s w r2 mr' := by
  obtain ⟨v, a, e1, e2, e3, e4⟩ := h
  exact ⟨v, a, e1, e2, (g 32 _ (by unfold LWr; omega)).trans e3, (g 33 _ (by unfold LWr; omega)).trans e4⟩
theorem SM.lo {s : Nat} {r2 mr mr' : Nat → Nat → Int32} (h : SM 0 0 s 900 900 r2 mr) (hs : s < 60) (g : LO mr mr') : SM 0 0 s 900 900 r2 mr' := by
  obtain ⟨c0, m0, L, e1, e2, e3, e4, e5, e6, e7, e8⟩ := h
  exact ⟨c0, m0, L, e1, e2, e3, e4, e5.lo (by omega) g, (g 34 _ (by unfold LWr; omega)).trans e6, (g 35 _ (by unfold LWr; omega)).trans e7, e8⟩
theorem TT.lo {s w : Nat} {r2 mr mr' : Nat → Nat → Int32} (h : TT 0 0 s w 900 900 r2 mr) (hs : s < 60) (hw : w < 2) (g : LO mr mr') : TT 0 0 s w 900 900 r2 mr' := by
  obtain ⟨c0, m0, L1, L2, z, e1, e2, e3, e4, e5, e6, e7, e8, e9, e10, e11, e12, e13, e14, e15⟩ := h
  exact ⟨c0, m0, L1, L2, z, e1, e2, e3, e4, e5.lo (by omega) g, e6.lo (by omega) g, e7, e8, (g 34 _ (by unfold LWr; omega)).trans e9, (g 35 _ (by unfold LWr; omega)).trans e10, (g 34 _ (by unfold LWr; omega)).trans e11, (g 35 _ (by unfold LWr; omega)).trans e12, (g 36 _ (by unfold LWr; omega)).trans e13, e14, e15⟩
theorem GP.lo {i2 : Nat → Int32} {r2 : Nat → Nat → Int32} {mi mi' : Nat → Int32} {mr mr' : Nat → Nat → Int32} (h : GP i2 r2 mi mr) (h46 : mi' 46 = mi 46) (g : LO mr mr') : GP i2 r2 mi' mr' := by
  obtain ⟨n, P, lv, hn, hP, h1, h2, h3, h4, h5⟩ := h
  refine ⟨n, P, lv, hn, hP, h1, h46.trans h2, h3, fun s hs => ?_, fun p hp => ?_⟩
  · obtain ⟨x, x1, x2, x3, x4, x5, d1, d2, d3, d4⟩ := h4 s hs
    refine ⟨x, x1, x2, (g 28 _ (by unfold LWr; omega)).trans x3, (g 29 _ (by unfold LWr; omega)).trans x4, (g 30 _ (by unfold LWr; omega)).trans x5, fun q => ⟨(d1 q).1.lo (by omega) (by omega) g, (d1 q).2.lo (by omega) g⟩, fun q => ⟨(d2 q).1.lo (by omega) (by omega) g, (d2 q).2.lo (by omega) (by omega) g⟩, fun q => ⟨(d3 q).1.lo (by omega) (by omega) g, (d3 q).2.1.lo (by omega) (by omega) g, fun w hw => ?_⟩, fun q => ?_⟩
    · obtain ⟨a1, a2⟩ := (d3 q).2.2 w hw
      exact ⟨(g 37 _ (by unfold LWr; omega)).trans a1, (g 38 _ (by unfold LWr; omega)).trans a2⟩
    · obtain ⟨p, p1, p2, p3⟩ := d4 q
      exact ⟨p, p1, p2, (g 31 _ (by unfold LWr; omega)).trans p3⟩
  · obtain ⟨a1, a2⟩ := h5 p hp
    exact ⟨(g 42 _ (by unfold LWr; omega)).trans a1, (g 43 _ (by unfold LWr; omega)).trans a2⟩
/-- what was read is what is in force after it is taken -/
theorem GP.take {b : Nat → Nat} {N M k n P : Nat} {T : Nat → List Nat} {CL : List Int32} {ML : List MKt} {lv : Nat → Nat} {i0 i1 i2 : Nat → Int32} {r2 r2' : Nat → Nat → Int32} {l2 : Nat → Nat → Int64} {mi : Nat → Int32} {mr mr1 mr' : Nat → Nat → Int32} {ml : Nat → Nat → Int64} (hk : k ≤ 900) (hS : PSt b N M k n P T CL ML lv i0 i1 i2 r2 l2 mi mr ml) (hD : DN n P r2' mr1) (hz : ∀ z, z ≠ 4 → r2' z = r2 z) (h4 : ∀ t x, x < 6 → r2 0 t = nI x → r2' 4 t = r2 4 t) (hy : ∀ z, z ≠ 31 → mr1 z = mr z) (hT : ∀ t, t < n → NT t mr1 mr') (hp : ∀ p, p < P → mr' 42 p = fr60 (mr1 42 (6 + p)) ∧ mr' 43 p = fr60 (mr1 43 (6 + p))) (hm : ∀ j, j < ML.length → mr' 39 j = mr1 39 (1000 + j) ∧ mr' 40 j = mr1 40 (1000 + j) ∧ mr' 41 j = mr1 41 (1000 + j)) : GPn n P lv i2 r2' (upd mi 46 (nI P)) mr' := by
  obtain ⟨hA, ⟨g4, g5, g8⟩, ⟨h13, h48, h50⟩, ⟨h14, h47, hP⟩, ⟨hCL, hML, hc, hmc, hn⟩, hW, hPN, hND, hPR, hFr⟩ := hS
  have SGt : ∀ {c0 m0 : Nat} {L : List MKt}, SG 1000 c0 m0 L r2 mr → m0 + L.length ≤ ML.length → SG 0 c0 m0 L r2' mr' := by
    intro c0 m0 L h hl j t hj
    have hl' := (List.getElem?_eq_some_iff.mp hj).1
    obtain ⟨a1, a2, a3, a4⟩ := h j t hj
    obtain ⟨b1, b2, b3⟩ := hm (m0 + j) (by omega)
    rw [hy 39 (by omega)] at b1
    rw [hy 40 (by omega)] at b2
    rw [hy 41 (by omega)] at b3
    rw [hz 12 (by omega), Nat.zero_add]
    exact ⟨a1, b1.trans a2, b2.trans a3, b3.trans a4⟩
  have sb : ∀ x : Nat, nI (1000 + x) - 1000 = nI (0 + x) := fun x => by rw [show (1000 : Int32) = nI 1000 from rfl, pk_sub (by omega), show 1000 + x - 1000 = 0 + x by omega]
  refine ⟨hn, hP, h14, pk_us, hW.congr (hz 1 (by omega)) (hz 2 (by omega)) (hz 3 (by omega)) (hz 9 (by omega)) (hz 10 (by omega)), fun s hs => ?_, fun p hpP => ?_⟩
  · obtain ⟨⟨x, hx, x1, x2, x3, d1, d2, d3, d4⟩, x9⟩ := hND s hs
    obtain ⟨t1, t2, t3, t4, t5, t6⟩ := hT s hs
    rw [hy 28 (by omega)] at t1
    rw [hy 29 (by omega)] at t2
    rw [hy 30 (by omega)] at t3
    rw [hy 28 (by omega), hy 32 (by omega), hy 33 (by omega), hy 36 (by omega), hy 37 (by omega), hy 38 (by omega)] at t5
    rw [hy 34 (by omega), hy 35 (by omega)] at t6
    have VRt : ∀ w, w < 2 → r2' (4 + w) s = r2 (4 + w) s → VR 60 s w r2 mr → VR 0 s w r2' mr' := by
      intro w hw hr ⟨v, a, e1, e2, e3, e4⟩
      obtain ⟨b1, b2, b3, b4⟩ := t5 w hw
      rw [ix2] at e3 e4
      exact ⟨v, a, e1, hr.trans e2, by rw [Nat.zero_add]; exact b1.trans e3, by rw [Nat.zero_add]; exact b2.trans e4⟩
    have TTt : ∀ w, w < 2 → TT 60 1000 s w CL.length ML.length r2 mr → TT 0 0 s w 900 900 r2' mr' := by
      intro w hw ⟨c0, m0, L1, L2, z, e1, e2, e3, e4, e5, e6, e7, e8, e9, e10, e11, e12, e13, e14, e15⟩
      obtain ⟨b1, b2, b3, b4⟩ := t5 w hw
      obtain ⟨u1, u2⟩ := t6 (2 * w) (by omega)
      obtain ⟨v1, v2⟩ := t6 (2 * w + 1) (by omega)
      rw [ix4] at e9 e10
      rw [Nat.add_assoc, ix4] at e11 e12
      rw [ix2] at e13
      refine ⟨c0, m0, L1, L2, z, by omega, by omega, by rw [hz 7 (by omega)]; exact e3, by rw [hz 8 (by omega)]; exact e4, SGt e5 (by omega), SGt e6 (by omega), by rw [hz 12 (by omega)]; exact e7, e8, ?_, ?_, ?_, ?_, by rw [Nat.zero_add]; exact b3.trans e13, e14, e15⟩
      · rw [show 4 * (0 + s) + 2 * w = 4 * s + 2 * w by omega, u1, e9, sb]
      · rw [show 4 * (0 + s) + 2 * w = 4 * s + 2 * w by omega, u2, e10, sb]
      · rw [show 4 * (0 + s) + 2 * w + 1 = 4 * s + (2 * w + 1) by omega, v1, e11, sb]
      · rw [show 4 * (0 + s) + 2 * w + 1 = 4 * s + (2 * w + 1) by omega, v2, e12, sb]
    refine ⟨x, hx, by rw [hz 0 (by omega)]; exact x1, t1.trans x2, by rw [hz 2 (by omega), t2, x9.fr], by rw [hz 3 (by omega), t3, x3.fr], fun q => ?_, fun q => ?_, fun q => ?_, fun q => ?_⟩
    · obtain ⟨v, c0, m0, L, e1, e2, e3, e4, e5, e6, e7, e8⟩ := d1 q
      obtain ⟨u1, u2⟩ := t6 0 (by omega)
      have i4 : 4 * (60 + s) = 240 + (4 * s + 0) := by omega
      rw [i4] at e6 e7
      refine ⟨VRt 0 (by omega) (h4 s x (by omega) x1) v, c0, m0, L, by omega, by omega, by rw [hz 7 (by omega)]; exact e3, by rw [hz 8 (by omega)]; exact e4, SGt e5 (by omega), ?_, ?_, e8⟩
      · rw [show 4 * (0 + s) = 4 * s + 0 by omega, u1, e6, sb]
      · rw [show 4 * (0 + s) = 4 * s + 0 by omega, u2, e7, sb]
    · exact ⟨VRt 0 (by omega) (h4 s x (by omega) x1) (d2 q).1, VRt 1 (by omega) (by rw [hz _ (by omega)]) (d2 q).2⟩
    · obtain ⟨q1, q2, q3⟩ := d3 q
      refine ⟨TTt 0 (by omega) q1, TTt 1 (by omega) q2, fun w hw => ?_⟩
      obtain ⟨b1, b2, b3, b4⟩ := t5 w hw
      obtain ⟨b5, b6⟩ := b4 (by rw [x2]; rcases q with q | q <;> rw [q]; exact Or.inl rfl; exact Or.inr rfl)
      obtain ⟨p1, p2⟩ := q3 w hw
      rw [ix2] at p1 p2
      rw [hz 9 (by omega), hz 10 (by omega), b5, b6, p1.fr, p2.fr]
      exact ⟨rfl, rfl⟩
    · obtain ⟨p, p1, p2, p3⟩ := hD s hs x hx q (by rw [hz 0 (by omega)]; exact x1)
      exact ⟨p, p1, p2, t4.trans p3⟩
  · obtain ⟨a1, a2⟩ := hp p hpP
    obtain ⟨b1, b2⟩ := hPR p hpP
    rw [hy 42 (by omega)] at a1
    rw [hy 43 (by omega)] at a2
    rw [a1, a2, hz 9 (by omega), hz 10 (by omega), b1.fr, b2.fr]
    exact ⟨rfl, rfl⟩
theorem fillN_go {N : Nat} {v : Int32} (hN : N < 2 ^ 31) : ∀ (d k n : Nat) (g : Nat → Int32), k + d = N → d < n → (∀ j, j < k → g j = v) → ∃ g', f_J7_fill_53178_5 N n g v (nI k) (nI N) = some g' ∧ ∀ j, j < N → g' j = v := by
  intro d
  induction d with
  | zero =>
    intro k n g hk hn h
    obtain ⟨q, rfl⟩ : ∃ q, n = q + 1 := ⟨n - 1, by omega⟩
    obtain rfl : k = N := by omega
    refine ⟨g, ?_, h⟩
    rw [f_J7_fill_53178_5, if_pos (nI_le (by omega) (by omega))]
  | succ d ih =>
    intro k n g hk hn h
    obtain ⟨q, rfl⟩ : ∃ q, n = q + 1 := ⟨n - 1, by omega⟩
    obtain ⟨g', a1, a2⟩ := ih (k + 1) q (upd g k v) (by omega) (by omega) (fun j hj => by
      by_cases e : j = k
      · subst e; rw [pk_us]
      · rw [pk_un e]; exact h j (by omega))
    refine ⟨g', ?_, a2⟩
    rw [f_J7_fill_53178_5, if_neg (nI_ge (by omega) (by omega)), ck_t (inb_nI (by omega) (by omega)), nI_clamp (by omega), nI_1]
    exact a1
theorem fill126 (g : Nat → Int32) : ∃ g', f_J7_fill_53178 126 g (-1) = some g' ∧ ∀ j, j < 126 → g' j = -1 := fillN_go (N := 126) (by omega) 126 0 2000000 g (by omega) (by omega) (fun j hj => by omega)
theorem clearP_ok (i : Nat → Int32) (r : Nat → Nat → Int32) (l : Nat → Nat → Int64) : ∃ r', f_X5_clear i r l = some (upd (upd (upd i 13 0) 14 0) 15 0, r') ∧ (∀ j, j < 126 → r' 9 j = -1) ∧ ∀ j, j < 126 → r' 10 j = -1 := by
  obtain ⟨g, a1, a2⟩ := fill126 (r 9)
  obtain ⟨g', b1, b2⟩ := fill126 (r 10)
  refine ⟨va_up (va_up r 9 g) 10 g', ?_, fun j hj => by rw [up_n (by omega), up_s]; exact a2 j hj, fun j hj => by rw [up_s]; exact b2 j hj⟩
  rw [f_X5_clear, a1, bd_some, f_X5_clear_23, up_n (by omega), b1, bd_some]
theorem program_ok {i0 : Nat → Int32} {r0 : Nat → Nat → Int32} {i1 : Nat → Int32} {r1 : Nat → Nat → Int32} {l1 : Nat → Nat → Int64} {i2 : Nat → Int32} {r2 : Nat → Nat → Int32} {l2 : Nat → Nat → Int64} {ic : Nat → Int32} {rc : Nat → Nat → Int32} {lc : Nat → Nat → Int64} {mi : Nat → Int32} {mr : Nat → Nat → Int32} {ml : Nat → Nat → Int64} {f : List Value} (hT : GT i1 r1 mi mr) (hG : GP ic rc mi mr) :
  ∃ a j0 q0 j1 p1 q1 j2 p2 q2 t mj mp mq, f_X11_program i0 r0 i1 r1 l1 i2 r2 l2 ic rc lc = some (a, j0, q0, j1, p1, q1, j2, p2, q2, t) ∧ f_X13_program mi mr ml f = some (a, mj, mp, mq) ∧ GT j1 q1 mj mq ∧ (t = 0 → GP j2 q2 mj mq) ∧ (¬ t = 0 → GP ic rc mj mq) := by
  obtain ⟨b, N, M, j1, p1, q1, mj, a1, a2, hX, hA, h2⟩ := both_begin (l := l1) (ml := ml) hT
  obtain ⟨q2, c1, c2, c3⟩ := clearP_ok i2 r2 l2
  have hM := hX.2.1
  have hP0 : PSt b N M 0 0 0 (fun _ => []) [] [] (fun _ => 0) (upd (upd (upd i0 4 (-1)) 5 0) 8 0) j1 (upd (upd (upd i2 13 0) 14 0) 15 0) q2 l2 (upd (upd (upd (upd mj 47 0) 48 0) 49 0) 50 0) mr ml := by
    refine ⟨hA.mi (fun s s1 s2 => by rw [pk_un (by omega), pk_un (by omega), pk_un (by omega), pk_un (by omega)]), ⟨by rw [pk_un (by omega), pk_un (by omega), pk_us], by rw [pk_un (by omega), pk_us], pk_us⟩, ⟨by rw [pk_un (by omega), pk_un (by omega), pk_us]; rfl, by rw [pk_un (by omega), pk_un (by omega), pk_us]; rfl, pk_us⟩, ⟨by rw [pk_un (by omega), pk_us]; rfl, by rw [pk_un (by omega), pk_un (by omega), pk_un (by omega), pk_us]; rfl, by omega⟩, ⟨⟨pk_us, fun j t hj => by simp at hj⟩, ⟨by rw [pk_un (by omega), pk_us]; rfl, fun j t hj => by simp at hj⟩, by simp, by simp, by omega⟩, ⟨fun s hs => by omega, fun y hy => ⟨Or.inl (c2 y hy), Or.inl (c3 y hy)⟩, fun y _ hy => ⟨c2 y (by omega), c3 y (by omega)⟩⟩, fun p hp => by omega, fun s hs => by omega, fun p hp => by omega, fun p _ hp => ⟨c2 _ (by omega), c3 _ (by omega)⟩⟩
  have hC : f_X6_readInto i0 r0 i1 r1 l1 i2 r2 l2 = f_X6_readInto_36 2000000 (upd (upd (upd i0 4 (-1)) 5 0) 8 0) r0 j1 p1 q1 (upd (upd (upd i2 13 0) 14 0) 15 0) l2 q2 (nI 0) := by
    rw [f_X6_readInto, c1, bd_some, a1, bd_some]
    rfl
  have hR : f_X13_readProgram mj mr ml = f_X13_readProgram_20 2000000 (upd (upd (upd (upd mj 47 0) 48 0) 49 0) 50 0) ml mr := by rw [f_X13_readProgram]
  have bad : ∀ (e0 : Nat → Int32) (g0 : Nat → Nat → Int32) (e1 e2 : Nat → Int32) (g2 : Nat → Nat → Int32) (h2' : Nat → Nat → Int64) (me : Nat → Int32) (mh : Nat → Nat → Int64) (mg : Nat → Nat → Int32), f_X6_readInto i0 r0 i1 r1 l1 i2 r2 l2 = some (0, e0, g0, e1, p1, q1, e2, h2', g2) → f_X13_readProgram mj mr ml = some (.inr (me, mh, mg)) → FT e1 me → ∃ a j0 q0 j1 p1 q1 j2 p2 q2 t mj mp mq, f_X11_program i0 r0 i1 r1 l1 i2 r2 l2 ic rc lc = some (a, j0, q0, j1, p1, q1, j2, p2, q2, t) ∧ f_X13_program mi mr ml f = some (a, mj, mp, mq) ∧ GT j1 q1 mj mq ∧ (t = 0 → GP j2 q2 mj mq) ∧ (¬ t = 0 → GP ic rc mj mq) := by
    intro e0 g0 e1 e2 g2 h2' me mh mg x1 x2 x3
    have fr := fr_X13_readProgram x2
    have lo : LO mr mg := lo_prog _ x2
    have fr1 : ∀ k : Nat, ¬ (k = 4 ∨ k = 5 ∨ k = 6 ∨ k = 7 ∨ k = 8 ∨ k = 9 ∨ k = 47 ∨ k = 48 ∨ k = 49 ∨ k = 50 ∨ k = 51 ∨ k = 52 ∨ k = 53 ∨ k = 54 ∨ k = 55 ∨ k = 56 ∨ k = 57) → me k = mj k := fr.1
    refine ⟨-1, e0, g0, upd e1 5 0, p1, q1, e2, h2', g2, 1, me, mh, mg, ?_, ?_, GT.empty (by rw [fr1 2 (by omega)]; exact h2) x3.2.1 x3.2.2, fun z => absurd z (by decide), fun _ => hG.lo (by rw [fr1 46 (by omega), fr_X13_begin a2 46 (by omega)]) lo⟩
    · rw [f_X11_program, x1, bd_some, f_X9_empty, bd_some]
      rfl
    · rw [f_X13_program, a2, bd_some, x2, bt_r]
  rcases prog_go M 0 0 0 0 2000000 2000000 _ _ _ _ _ r0 _ _ _ _ _ _ _ (by omega) (by omega) hX hP0 (by omega) (by omega) with ⟨n1, P1, T1, CL1, ML1, lv1, e0, g0, e1, e2, g2, h2', me, mg, mh, x1, x2, x3, x4⟩ | ⟨e0, g0, e1, e2, g2, h2', me, mg, mh, x1, x2, x3⟩
  · rcases prog_end (r0 := g0) x3 x4 with ⟨r2', mr1, y1, y2, y3, y4, y5, y6⟩ | ⟨f1, u2, mf, mu, y1, y2, y3⟩
    · obtain ⟨B1, B2, B3, B4, B5, B6⟩ := id x4
      have x2' : f_X13_readProgram mj mr ml = some (.inl (me, mh, mr1)) := hR.trans (x2.trans y2)
      have fr := fr_X13_readProgram x2'
      have fr1 : ∀ k : Nat, ¬ (k = 4 ∨ k = 5 ∨ k = 6 ∨ k = 7 ∨ k = 8 ∨ k = 9 ∨ k = 47 ∨ k = 48 ∨ k = 49 ∨ k = 50 ∨ k = 51 ∨ k = 52 ∨ k = 53 ∨ k = 54 ∨ k = 55 ∨ k = 56 ∨ k = 57) → me k = mj k := fr.1
      obtain ⟨r', z1, z2, z3, z4, z5⟩ := takeP_ok (ml := mh) (n := n1) (P := P1) (m := ML1.length) B5.2.2.2.2 B4.2.2 (by have := B5.2.2.1; have := B5.2.2.2.1; omega) B4.2.1 B3.2.1 B5.2.1.1 mr1 (fun t ht => by
        obtain ⟨⟨x, w1, w2, w3, w4⟩, _⟩ := B6.2.2.1 t ht
        exact ⟨x, w1, by rw [y6 28 (by omega)]; exact w3⟩)
      refine ⟨nI P1, e0, g0, upd e1 5 0, p1, q1, e2, h2', r2', 0, upd me 46 (nI P1), mh, r', ?_, ?_, GT.empty (by rw [pk_un (by omega), fr1 2 (by omega)]; exact h2) ?_ ?_, fun _ => ⟨n1, P1, lv1, GP.take (by omega) x4 y3 y4 y5 y6 z2 z3 z4⟩, fun q => absurd rfl q⟩
      · rw [f_X11_program, hC, x1, y1, bd_some, f_X9_empty, bd_some]
        dsimp only
        rw [if_neg i01, f_X5_procs, bd_some, B4.1]
      · rw [f_X13_program, a2, bd_some, x2', bt_l, z1, bd_some]
        dsimp only
        rw [pk_us]
      · rw [pk_un (by omega), B1.2.2.1]
        exact B1.1.2.2.2.2.2.1
      · rw [pk_un (by omega), B1.2.2.2]
        exact B1.1.2.2.2.2.2.2
    · exact bad _ _ _ _ _ _ _ _ _ (hC.trans (x1.trans y1)) (hR.trans (x2.trans y2)) y3
  · exact bad _ _ _ _ _ _ _ _ _ (hC.trans x1) (hR.trans x2) x3

/-! ===== run: SUMS and TESTS of a STEP ===== -/
theorem SG.ct {q c m : Nat} {L : List MKt} {r2 m0 : Nat → Nat → Int32} (h : SG q c m L r2 m0) (hO : ∀ t ∈ L, okM t) : CTt c (c + L.length) r2 := by
  intro j j1 j2
  have hl : j - c < L.length := by omega
  have e := h (j - c) L[j - c] (List.getElem?_eq_getElem hl)
  rw [show c + (j - c) = j by omega] at e
  rw [e.1]
  exact cm_ct (hO _ (List.getElem_mem hl))
theorem CTt.app {c d e : Nat} {r2 : Nat → Nat → Int32} (h1 : CTt c d r2) (h2 : CTt d e r2) : CTt c e r2 := fun j j1 j2 => by
  by_cases q : j < d
  · exact h1 j j1 q
  · exact h2 j (by omega) j2
theorem sum_end {ml : Nat → Nat → Int64} {m0 : Nat → Nat → Int32} {x1 em f h : Nat} (hx : x1 < 480) (hem : em ≤ 900) (h35 : m0 35 x1 = nI em) {mi : Nat → Int32} {mr : Nat → Nat → Int32} (hM : ∀ z, z < 44 → mr z = m0 z) : f_X13_sumOf_9 ml (f + 1) mi mr (nI x1) (nI h) (nI em) = some (mr 60 0, mi, mr) := by
  rw [f_X13_sumOf_9, ck_t (inb_nI hx (by omega)), nI_clamp (show x1 < 2 ^ 31 by omega), hM 35 (by omega), h35, if_pos (nI_le (by omega) (by omega)), ck_t (show inb (0 : Int32) 64 = true by decide)]
  rfl
theorem reck_end {i2 : Nat → Int32} {r2 : Nat → Nat → Int32} {l2 : Nat → Nat → Int64} {e f h : Nat} (he : e ≤ 900) {i : Nat → Int32} {r : Nat → Nat → Int32} : f_X4_reckon_5 i2 r2 l2 (f + 1) i r (nI e) (nI h) (nI e) = some (r 2 0, i, r) := by
  rw [f_X4_reckon_5, if_pos (nI_le (by omega) (by omega)), ck_t (show inb (0 : Int32) 24 = true by decide)]
  rfl
theorem sum_ok {i2 : Nat → Int32} {r2 : Nat → Nat → Int32} {l2 ml : Nat → Nat → Int64} {m0 : Nat → Nat → Int32} {s : Nat} (hs : s < 60) (hS : SM 0 0 s 900 900 r2 m0) {i : Nat → Int32} {r : Nat → Nat → Int32} {mi : Nat → Int32} {mr : Nat → Nat → Int32} (hM : ∀ z, z < 44 → mr z = m0 z) (hV : RV r mr) (hi : i 12 = 0) :
  (∃ v r' mr', f_X4_reckon i r i2 r2 l2 (r2 7 (2 * s)) (r2 8 (2 * s)) = some (v, i, r') ∧ f_X13_sumOf mi mr ml (nI (4 * s)) = some (v, mi, mr') ∧ (∀ z, z ≠ 2 → r' z = r z) ∧ ∀ z, z ≠ 60 → mr' z = mr z) ∨
  (∃ v r' mr', f_X4_reckon i r i2 r2 l2 (r2 7 (2 * s)) (r2 8 (2 * s)) = some (v, upd i 12 2, r') ∧ f_X13_sumOf mi mr ml (nI (4 * s)) = some (0, upd mi 61 2, mr') ∧ (∀ z, z ≠ 2 → r' z = r z) ∧ ∀ z, z ≠ 60 → mr' z = mr z) := by
  obtain ⟨c0, n0, L, e1, e2, e3, e4, e5, e6, e7, hO, hp, hA⟩ := hS
  rw [Nat.zero_add, Nat.zero_add] at e6 e7
  obtain ⟨f, hf⟩ : ∃ f, 2000000 = L.length + (f + 1) := ⟨2000000 - L.length - 1, by omega⟩
  have hC : f_X4_reckon i r i2 r2 l2 (r2 7 (2 * s)) (r2 8 (2 * s)) = f_X4_reckon_5 i2 r2 l2 (L.length + (f + 1)) i r (nI (c0 + L.length)) (nI (0 + 0)) (nI c0) := by rw [f_X4_reckon, e3, e4, hf]; rfl
  have hR : f_X13_sumOf mi mr ml (nI (4 * s)) = f_X13_sumOf_9 ml (L.length + (f + 1)) mi mr (nI (4 * s)) (nI 0) (nI n0) := by
    rw [f_X13_sumOf, ck_t (inb_nI (by omega) (by omega)), nI_clamp (by omega), hM 34 (by omega), e6, hf]; rfl
  rw [hC, hR]
  rcases seg_go (i2 := i2) (l2 := l2) (ml := ml) (e := c0 + L.length) (x1 := 4 * s) (em := n0 + L.length) (b := 0) (fC := f + 1) (fM := f + 1) (by omega) (by omega) (by omega) e7 (by omega) L c0 n0 0 1 i r mi mr e5 hO hp (by omega) (by omega) rfl (by omega) (e5.ct hO) hM hV (fun j hj => by omega) hi with ⟨r', mr', a1, a2, a3, a4, a5, a6⟩ | ⟨v, r', mr', a1, a2, a5, a6⟩
  · left
    refine ⟨mr' 60 0, r', mr', ?_, ?_, a5, a6⟩
    · rw [a1, reck_end (by omega), ← a3 0 (by omega)]
    · rw [a2, sum_end (m0 := m0) (by omega) (by omega) e7 (fun z hz => by rw [a6 z (by omega)]; exact hM z hz)]
  · exact Or.inr ⟨v, r', mr', a1, a2, a5, a6⟩
/-- a comparison's answer -/
def czR (z : Nat) (x y : Int32) : Int32 := if z = 61 then (if x = y then 1 else 0) else if z = 60 then (if y ≤ x then 0 else 1) else if z = 62 then (if x ≤ y then 0 else 1) else (if x = y then 0 else 1)
theorem cz_work {z : Nat} (h : z = 61 ∨ z = 60 ∨ z = 62 ∨ z = 33) (x y : Int32) : f_X4_work (nI z) x y = some (czR z x y) ∧ (czR z x y = 0 ∨ czR z x y = 1) := by
  rw [f_X4_work, czR]
  rcases h with rfl | rfl | rfl | rfl
  · rw [if_neg (show ¬ nI 61 = (37 : Int32) by decide), if_neg (show ¬ nI 61 = (38 : Int32) by decide), if_neg (show ¬ nI 61 = (42 : Int32) by decide), if_neg (show ¬ nI 61 = (43 : Int32) by decide), if_neg (show ¬ nI 61 = (45 : Int32) by decide), if_neg (show ¬ nI 61 = (47 : Int32) by decide), if_neg (show ¬ nI 61 = (60 : Int32) by decide), if_pos (show nI 61 = (61 : Int32) from rfl), if_pos rfl]
    by_cases q : x = y
    · rw [if_pos q, if_pos q]; exact ⟨rfl, Or.inr rfl⟩
    · rw [if_neg q, if_neg q]; exact ⟨rfl, Or.inl rfl⟩
  · rw [if_neg (show ¬ nI 60 = (37 : Int32) by decide), if_neg (show ¬ nI 60 = (38 : Int32) by decide), if_neg (show ¬ nI 60 = (42 : Int32) by decide), if_neg (show ¬ nI 60 = (43 : Int32) by decide), if_neg (show ¬ nI 60 = (45 : Int32) by decide), if_neg (show ¬ nI 60 = (47 : Int32) by decide), if_pos (show nI 60 = (60 : Int32) from rfl), if_neg (show ¬ (60 : Nat) = 61 by omega), if_pos rfl]
    by_cases q : y ≤ x
    · rw [if_pos q, if_pos q]; exact ⟨rfl, Or.inl rfl⟩
    · rw [if_neg q, if_neg q]; exact ⟨rfl, Or.inr rfl⟩
  · rw [if_neg (show ¬ nI 62 = (37 : Int32) by decide), if_neg (show ¬ nI 62 = (38 : Int32) by decide), if_neg (show ¬ nI 62 = (42 : Int32) by decide), if_neg (show ¬ nI 62 = (43 : Int32) by decide), if_neg (show ¬ nI 62 = (45 : Int32) by decide), if_neg (show ¬ nI 62 = (47 : Int32) by decide), if_neg (show ¬ nI 62 = (60 : Int32) by decide), if_neg (show ¬ nI 62 = (61 : Int32) by decide), if_pos (show nI 62 = (62 : Int32) from rfl), if_neg (show ¬ (62 : Nat) = 61 by omega), if_neg (show ¬ (62 : Nat) = 60 by omega), if_pos rfl]
    by_cases q : x ≤ y
    · rw [if_pos q, if_pos q]; exact ⟨rfl, Or.inl rfl⟩
    · rw [if_neg q, if_neg q]; exact ⟨rfl, Or.inr rfl⟩
  · rw [if_neg (show ¬ nI 33 = (37 : Int32) by decide), if_neg (show ¬ nI 33 = (38 : Int32) by decide), if_neg (show ¬ nI 33 = (42 : Int32) by decide), if_neg (show ¬ nI 33 = (43 : Int32) by decide), if_neg (show ¬ nI 33 = (45 : Int32) by decide), if_neg (show ¬ nI 33 = (47 : Int32) by decide), if_neg (show ¬ nI 33 = (60 : Int32) by decide), if_neg (show ¬ nI 33 = (61 : Int32) by decide), if_neg (show ¬ nI 33 = (62 : Int32) by decide), if_neg (show ¬ (33 : Nat) = 61 by omega), if_neg (show ¬ (33 : Nat) = 60 by omega), if_neg (show ¬ (33 : Nat) = 62 by omega)]
    by_cases q : x = y
    · rw [if_pos q, if_pos q]; exact ⟨rfl, Or.inl rfl⟩
    · rw [if_neg q, if_neg q]; exact ⟨rfl, Or.inr rfl⟩
theorem cz_ref {α : Type} {z : Nat} (h : z = 61 ∨ z = 60 ∨ z = 62 ∨ z = 33) (x y : Int32) (a : α) : (if nI z = 61 then (if x = y then (some ((1 : Int32), a)) else (some (0, a))) else (if nI z = 60 then (if y ≤ x then (some (0, a)) else (some (1, a))) else (if nI z = 62 then (if x ≤ y then (some (0, a)) else (some (1, a))) else (if x = y then (some (0, a)) else (some (1, a)))))) = some (czR z x y, a) := by
  rw [czR]
  rcases h with rfl | rfl | rfl | rfl
  · rw [if_pos (show nI 61 = (61 : Int32) from rfl), if_pos rfl]
    by_cases q : x = y
    · rw [if_pos q, if_pos q]
    · rw [if_neg q, if_neg q]
  · rw [if_neg (show ¬ nI 60 = (61 : Int32) by decide), if_pos (show nI 60 = (60 : Int32) from rfl), if_neg (show ¬ (60 : Nat) = 61 by omega), if_pos rfl]
    by_cases q : y ≤ x
    · rw [if_pos q, if_pos q]
    · rw [if_neg q, if_neg q]
  · rw [if_neg (show ¬ nI 62 = (61 : Int32) by decide), if_neg (show ¬ nI 62 = (60 : Int32) by decide), if_pos (show nI 62 = (62 : Int32) from rfl), if_neg (show ¬ (62 : Nat) = 61 by omega), if_neg (show ¬ (62 : Nat) = 60 by omega), if_pos rfl]
    by_cases q : x ≤ y
    · rw [if_pos q, if_pos q]
    · rw [if_neg q, if_neg q]
  · rw [if_neg (show ¬ nI 33 = (61 : Int32) by decide), if_neg (show ¬ nI 33 = (60 : Int32) by decide), if_neg (show ¬ nI 33 = (62 : Int32) by decide), if_neg (show ¬ (33 : Nat) = 61 by omega), if_neg (show ¬ (33 : Nat) = 60 by omega), if_neg (show ¬ (33 : Nat) = 62 by omega)]
    by_cases q : x = y
    · rw [if_pos q, if_pos q]
    · rw [if_neg q, if_neg q]
theorem cz_refE {α : Type} {z : Nat} {u : Int32} (hu : u = nI z) (h : z = 61 ∨ z = 60 ∨ z = 62 ∨ z = 33) (x y : Int32) (a : α) : (if u = 61 then (if x = y then (some ((1 : Int32), a)) else (some (0, a))) else (if u = 60 then (if y ≤ x then (some (0, a)) else (some (1, a))) else (if u = 62 then (if x ≤ y then (some (0, a)) else (some (1, a))) else (if x = y then (some (0, a)) else (some (1, a)))))) = some (czR z x y, a) := by
  subst hu
  exact cz_ref h x y a
theorem test_ok {i2 : Nat → Int32} {r2 : Nat → Nat → Int32} {l2 ml : Nat → Nat → Int64} {m0 : Nat → Nat → Int32} {s w : Nat} (hs : s < 60) (hw : w < 2) (hS : TT 0 0 s w 900 900 r2 m0) {i : Nat → Int32} {r : Nat → Nat → Int32} {mi : Nat → Int32} {mr : Nat → Nat → Int32} (hM : ∀ z, z < 44 → mr z = m0 z) (hV : RV r mr) (hi : i 12 = 0) (hmi : mi 61 = 0) :
  (∃ v r' mr', (v = 0 ∨ v = 1) ∧ f_X4_holds_13 i2 r2 l2 i r (nI s) (nI w) = some (v, i, r') ∧ f_X13_isSo mi mr ml (nI s) (nI w) = some (v, mi, mr') ∧ (∀ z, z ≠ 2 → r' z = r z) ∧ ∀ z, z ≠ 60 → mr' z = mr z) ∨
  (∃ v u r' mr', f_X4_holds_13 i2 r2 l2 i r (nI s) (nI w) = some (v, upd i 12 2, r') ∧ f_X13_isSo mi mr ml (nI s) (nI w) = some (u, upd mi 61 2, mr') ∧ (∀ z, z ≠ 2 → r' z = r z) ∧ ∀ z, z ≠ 60 → mr' z = mr z) := by
  obtain ⟨c0, n0, L1, L2, z, e1, e2, e3, e4, e5, e6, e7, e8, e9, e10, e11, e12, e13, ⟨O1, p1, A1⟩, O2, p2, A2⟩ := hS
  rw [Nat.zero_add, Nat.zero_add] at e9 e10 e11 e12
  rw [Nat.zero_add] at e13
  obtain ⟨f, hf⟩ : ∃ f, 2000000 = L1.length + (L2.length + (f + 1 + 1)) := ⟨2000000 - L1.length - L2.length - 2, by omega⟩
  obtain ⟨g1, hg1⟩ : ∃ g, 2000000 = L1.length + (g + 1) := ⟨2000000 - L1.length - 1, by omega⟩
  obtain ⟨g2, hg2⟩ : ∃ g, 2000000 = L2.length + (g + 1) := ⟨2000000 - L2.length - 1, by omega⟩
  have oc := op_code (z := z) (Or.inr e8)
  have hC : f_X4_holds_13 i2 r2 l2 i r (nI s) (nI w) = bd (f_X4_reckon_5 i2 r2 l2 (L1.length + (L2.length + (f + 1 + 1))) i r (nI (c0 + L1.length + L2.length + 1)) (nI (0 + 0)) (nI c0)) (fun q6 => if q6.1 = 0 then (some (0, q6.2.1, q6.2.2)) else (some (1, q6.2.1, q6.2.2))) := by
    rw [f_X4_holds_13, f_X5_beginOf, f_X5_endOf, mul2, ck_t (inb_nI (by omega) (by omega)), ck_t (inb_nI (by omega) (by omega)), bd_some, bd_some, nI_clamp (by omega), f_X4_reckon, e3, e4, ← hf]
    rfl
  have ct1 := e5.ct O1
  have ct2 := e6.ct O2
  have ct3 : CTt (c0 + L1.length + L2.length) (c0 + L1.length + L2.length + 1) r2 := fun j j1 j2 => by
    rw [show j = c0 + L1.length + L2.length by omega, e7]
    exact Or.inl oc.2.2
  have ct := ct1.app (ct2.app ct3)
  have mx : (4 : Int32) * nI s + 2 * nI w = nI (4 * s + 2 * w) := by rw [show (2 : Int32) = nI 2 from rfl, pk_mul, mul4]
  have hR1 : ∀ (mi : Nat → Int32) (mr : Nat → Nat → Int32), (∀ z, z < 44 → mr z = m0 z) → f_X13_sumOf mi mr ml (nI (4 * s + 2 * w)) = f_X13_sumOf_9 ml (L1.length + (g1 + 1)) mi mr (nI (4 * s + 2 * w)) (nI 0) (nI n0) := fun mi mr hM => by
    rw [f_X13_sumOf, ck_t (inb_nI (by omega) (by omega)), nI_clamp (by omega), hM 34 (by omega), e9, ← hg1]; rfl
  have hR2 : ∀ (mi : Nat → Int32) (mr : Nat → Nat → Int32), (∀ z, z < 44 → mr z = m0 z) → f_X13_sumOf mi mr ml (nI (4 * s + 2 * w + 1)) = f_X13_sumOf_9 ml (L2.length + (g2 + 1)) mi mr (nI (4 * s + 2 * w + 1)) (nI 0) (nI (n0 + L1.length)) := fun mi mr hM => by
    rw [f_X13_sumOf, ck_t (inb_nI (by omega) (by omega)), nI_clamp (by omega), hM 34 (by omega), e11, ← hg2]; rfl
  have h0 : (0 : Int32) ≤ 0 := by decide
  have u2 : ¬ (upd mi 61 2) 61 ≤ (0 : Int32) := by rw [pk_us]; decide
  rcases seg_go (i2 := i2) (l2 := l2) (ml := ml) (e := c0 + L1.length + L2.length + 1) (x1 := 4 * s + 2 * w) (em := n0 + L1.length) (b := 0) (fC := L2.length + (f + 1 + 1)) (fM := g1 + 1) (by omega) (by omega) (by omega) e10 (by omega) L1 c0 n0 0 1 i r mi mr e5 O1 p1 (by omega) (by omega) rfl (by omega) ct hM hV (fun j hj => by omega) hi with ⟨r', mr', a1, a2, a3, a4, a5, a6⟩ | ⟨v, r', mr', a1, a2, a5, a6⟩
  · have hM' : ∀ z, z < 44 → mr' z = m0 z := fun z hz => by rw [a6 z (by omega)]; exact hM z hz
    have hV' : RV r' mr' := fun m hm => by rw [a5 0 (by omega), a6 58 (by omega)]; exact hV m hm
    have hq3 : f_X13_sumOf mi mr ml (nI (4 * s + 2 * w)) = some (mr' 60 0, mi, mr') := by rw [hR1 mi mr hM, a2, sum_end (m0 := m0) (by omega) (by omega) e10 hM']
    rcases seg_go (i2 := i2) (l2 := l2) (ml := ml) (e := c0 + L1.length + L2.length + 1) (x1 := 4 * s + 2 * w + 1) (em := n0 + L1.length + L2.length) (b := 1) (fC := f + 1 + 1) (fM := g2 + 1) (by omega) (by omega) (by omega) e12 (by omega) L2 (c0 + L1.length) (n0 + L1.length) 0 1 i r' mi mr' e6 O2 p2 (by omega) (by omega) rfl (by omega) (ct2.app ct3) hM' hV' (fun j hj => by omega) hi with ⟨r'', mr'', b1, b2, b3, b4, b5, b6⟩ | ⟨v, r'', mr'', b1, b2, b5, b6⟩
    · have hM'' : ∀ z, z < 44 → mr'' z = m0 z := fun z hz => by rw [b6 z (by omega)]; exact hM' z hz
      obtain ⟨cw, cw2⟩ := cz_work e8 (mr' 60 0) (mr'' 60 0)
      have k0 : r'' 2 0 = mr' 60 0 := by rw [b4 0 (by omega)]; exact a3 0 (by omega)
      have k1 : r'' 2 1 = mr'' 60 0 := b3 0 (by omega)
      left
      refine ⟨czR z (mr' 60 0) (mr'' 60 0), va_up r'' 2 (upd (r'' 2) 0 (czR z (mr' 60 0) (mr'' 60 0))), mr'', cw2, ?_, ?_, fun y hy => by rw [up_n hy, b5 y hy, a5 y hy], fun y hy => by rw [b6 y hy, a6 y hy]⟩
      · rw [hC, a1, show (0 : Nat) + 1 = 1 + 0 from rfl, b1]
        have hl : f_X4_reckon_5 i2 r2 l2 (f + 1 + 1) i r'' (nI (c0 + L1.length + L2.length + 1)) (nI (1 + 1)) (nI (c0 + L1.length + L2.length)) = some (czR z (mr' 60 0) (mr'' 60 0), i, va_up r'' 2 (upd (r'' 2) 0 (czR z (mr' 60 0) (mr'' 60 0)))) := by
          rw [f_X4_reckon_5, if_neg (nI_ge (by omega) (by omega)), f_X5_codeAt, ck_t (inb_nI (by omega) (by omega)), bd_some, nI_clamp (show c0 + L1.length + L2.length < 2 ^ 31 by omega), e7, if_neg oc.1, if_neg (show ¬ nI (1 + 1) < (2 : Int32) by decide), show nI (1 + 1) + (-1) = nI 1 from rfl, show nI 1 - 1 = nI 0 from rfl, ck_t (inb_nI (by omega) (by omega)), ck_t (inb_nI (by omega) (by omega)), oc.2.1, nI_clamp (show 0 < 2 ^ 31 by omega), nI_clamp (show 1 < 2 ^ 31 by omega), k0, k1, cw, bd_some, ck_t (inb_nI (by omega) (by omega)), f_X4_reckon_114, nI_1, reck_end (by omega), up_s, pk_us]
        rw [hl, bd_some]
        dsimp only
        rcases cw2 with q | q
        · rw [if_pos q, q]
        · rw [if_neg (by rw [q]; decide), q]
      · rw [f_X13_isSo, mx, hq3, bd_some]
        dsimp only
        rw [if_pos (show mi 61 ≤ (0 : Int32) by rw [hmi]; exact h0), nI_1, hR2 mi mr' hM', b2, sum_end (m0 := m0) (by omega) (by omega) e12 hM'', bd_some, mul2, ck_t (inb_nI (by omega) (by omega)), nI_clamp (by omega)]
        dsimp only
        exact cz_refE (by rw [hM'' 36 (by omega)]; exact e13) e8 _ _ _
    · right
      refine ⟨if v = 0 then 0 else 1, czR z (mr' 60 0) 0, r'', mr'', ?_, ?_, fun y hy => by rw [b5 y hy, a5 y hy], fun y hy => by rw [b6 y hy, a6 y hy]⟩
      · rw [hC, a1, show (0 : Nat) + 1 = 1 + 0 from rfl, b1, bd_some]
        dsimp only
        by_cases q : v = 0
        · rw [if_pos q, if_pos q]
        · rw [if_neg q, if_neg q]
      · rw [f_X13_isSo, mx, hq3, bd_some]
        dsimp only
        rw [if_pos (show mi 61 ≤ (0 : Int32) by rw [hmi]; exact h0), nI_1, hR2 mi mr' hM', b2, bd_some, mul2, ck_t (inb_nI (by omega) (by omega)), nI_clamp (by omega)]
        dsimp only
        exact cz_refE (by rw [b6 36 (by omega), hM' 36 (by omega)]; exact e13) e8 _ _ _
  · right
    refine ⟨if v = 0 then 0 else 1, 0, r', mr', ?_, ?_, a5, a6⟩
    · rw [hC, a1, bd_some]
      dsimp only
      by_cases q : v = 0
      · rw [if_pos q, if_pos q]
      · rw [if_neg q, if_neg q]
    · rw [f_X13_isSo, mx, hR1 mi mr hM, a2, bd_some]
      dsimp only
      rw [if_neg u2]

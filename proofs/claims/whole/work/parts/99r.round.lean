/-! ===== CELLS: round ===== -/
theorem cpA_go {i : Nat → Int32} : ∀ (d k n : Nat) (r : Nat → Nat → Int32), k + d = 4 → d < n → (∀ w, w < k → ∀ y, y < 10 → r (20 + w) y = r (10 + w) y) → ∃ r', f_X0_copyBalls_A_2 i n r (nI k) = some r' ∧ (∀ w, w < 4 → ∀ y, y < 10 → r' (20 + w) y = r (10 + w) y) ∧ ∀ s, (s < 20 ∨ 24 ≤ s) → r' s = r s := by
  intro d
  induction d with
  | zero =>
    intro k n r hk hn h
    obtain ⟨q, rfl⟩ : ∃ q, n = q + 1 := ⟨n - 1, by omega⟩
    have e : k = 4 := by omega
    subst e
    refine ⟨r, ?_, h, fun _ _ => rfl⟩
    rw [f_X0_copyBalls_A_2, if_pos (show (4 : Int32) ≤ nI 4 from nI_le (a := 4) (by omega) (by omega))]
  | succ d ih =>
    intro k n r hk hn h
    obtain ⟨q, rfl⟩ : ∃ q, n = q + 1 := ⟨n - 1, by omega⟩
    have z0 : (0 : Int32).toNatClampNeg = 0 := nI_clamp (n := 0) (by omega)
    have z1 : (10 : Int32).toNatClampNeg = 10 := nI_clamp (n := 10) (by omega)
    obtain ⟨r2, b1, b2, b3⟩ := ih (k + 1) q (va_up r (20 + k) (va_cpy (r (10 + k)) (r (20 + k)) 0 0 10)) (by omega) (by omega) (fun w hw y hy => by
      rw [up_n (show 10 + w ≠ 20 + k by omega)]
      by_cases e : w = k
      · subst e
        rw [up_s]
        unfold va_cpy
        rw [if_pos (by omega)]
        simp
      · rw [up_n (by omega)]; exact h w (by omega) y hy)
    refine ⟨r2, ?_, fun w hw y hy => (b2 w hw y hy).trans (by rw [up_n (by omega)]), fun s hs => (b3 s hs).trans (by rw [up_n (by omega)])⟩
    rw [f_X0_copyBalls_A_2, if_neg (show ¬ (4 : Int32) ≤ nI k from nI_ge (b := 4) (by omega) (by omega)), ck_t (inb_nI (by omega) (by omega)), ck_t (inb_nI (by omega) (by omega)), nI_clamp (n := k) (by omega), z0, z1, nI_1]
    exact b1
theorem cpB_go {i : Nat → Int32} : ∀ (d k n : Nat) (r : Nat → Nat → Int32), k + d = 4 → d < n → (∀ w, w < k → ∀ y, y < 10 → r (10 + w) y = r (20 + w) y) → ∃ r', f_X0_copyBalls_B_2 i n r (nI k) = some r' ∧ (∀ w, w < 4 → ∀ y, y < 10 → r' (10 + w) y = r (20 + w) y) ∧ ∀ s, (s < 10 ∨ 14 ≤ s) → r' s = r s := by
  intro d
  induction d with
  | zero =>
    intro k n r hk hn h
    obtain ⟨q, rfl⟩ : ∃ q, n = q + 1 := ⟨n - 1, by omega⟩
    have e : k = 4 := by omega
    subst e
    refine ⟨r, ?_, h, fun _ _ => rfl⟩
    rw [f_X0_copyBalls_B_2, if_pos (show (4 : Int32) ≤ nI 4 from nI_le (a := 4) (by omega) (by omega))]
  | succ d ih =>
    intro k n r hk hn h
    obtain ⟨q, rfl⟩ : ∃ q, n = q + 1 := ⟨n - 1, by omega⟩
    have z0 : (0 : Int32).toNatClampNeg = 0 := nI_clamp (n := 0) (by omega)
    have z1 : (10 : Int32).toNatClampNeg = 10 := nI_clamp (n := 10) (by omega)
    obtain ⟨r2, b1, b2, b3⟩ := ih (k + 1) q (va_up r (10 + k) (va_cpy (r (20 + k)) (r (10 + k)) 0 0 10)) (by omega) (by omega) (fun w hw y hy => by
      rw [up_n (show 20 + w ≠ 10 + k by omega)]
      by_cases e : w = k
      · subst e
        rw [up_s]
        unfold va_cpy
        rw [if_pos (by omega)]
        simp
      · rw [up_n (by omega)]; exact h w (by omega) y hy)
    refine ⟨r2, ?_, fun w hw y hy => (b2 w hw y hy).trans (by rw [up_n (by omega)]), fun s hs => (b3 s hs).trans (by rw [up_n (by omega)])⟩
    rw [f_X0_copyBalls_B_2, if_neg (show ¬ (4 : Int32) ≤ nI k from nI_ge (b := 4) (by omega) (by omega)), ck_t (inb_nI (by omega) (by omega)), ck_t (inb_nI (by omega) (by omega)), nI_clamp (n := k) (by omega), z0, z1, nI_1]
    exact b1
/-- the same balls -/
def sameC (c c0 : CT) : Prop := ∀ w, w < 4 → ∀ y, y < 10 → ∀ x, x < 10 → c w y x = c0 w y x
theorem as9_go {i : Nat → Int32} {r : Nat → Nat → Int32} {K : Int32 → Option Int32} {H w : Nat} (hH : H ≤ 10) (h4 : i 4 = nI H) (hw : w < 4) : ∀ (d y n : Nat), y + d = H → d < n → ((∀ z, y ≤ z → z < H → r (10 + w) z = r (20 + w) z) → f_X0_isAsSaved_9 i r K n (nI w) (nI y) = K (nI (w + 1))) ∧ (¬ (∀ z, y ≤ z → z < H → r (10 + w) z = r (20 + w) z) → f_X0_isAsSaved_9 i r K n (nI w) (nI y) = some 0) := by
  intro d
  induction d with
  | zero =>
    intro y n hk hn
    obtain ⟨q, rfl⟩ : ∃ q, n = q + 1 := ⟨n - 1, by omega⟩
    have e : y = H := by omega
    subst e
    refine ⟨fun _ => ?_, fun h => absurd (fun z h1 h2 => by omega) h⟩
    rw [f_X0_isAsSaved_9, h4, if_pos (nI_le (by omega) (by omega)), nI_1]
  | succ d ih =>
    intro y n hk hn
    obtain ⟨q, rfl⟩ : ∃ q, n = q + 1 := ⟨n - 1, by omega⟩
    rw [f_X0_isAsSaved_9, h4, if_neg (nI_ge (by omega) (by omega)), ck_t (inb_nI (by omega) (by omega)), ck_t (inb_nI (by omega) (by omega)), ck_t (inb_nI (by omega) (by omega)), ck_t (inb_nI (by omega) (by omega)), nI_clamp (n := w) (by omega), nI_clamp (n := y) (by omega), nI_1]
    have h9 := ih (y + 1) q (by omega) (by omega)
    by_cases e : r (10 + w) y = r (20 + w) y
    · rw [if_pos e]
      refine ⟨fun h => h9.1 (fun z h1 h2 => h z (by omega) h2), fun h => h9.2 (fun e2 => h (fun z h1 h2 => ?_))⟩
      by_cases e3 : z = y
      · subst e3; exact e
      · exact e2 z (by omega) h2
    · rw [if_neg e]
      exact ⟨fun h => absurd (h y (by omega) (by omega)) e, fun _ => rfl⟩
theorem as2_go {i : Nat → Int32} {r : Nat → Nat → Int32} {H : Nat} (hH : H ≤ 10) (h4 : i 4 = nI H) : ∀ (d w n : Nat), w + d = 4 → d < n → ((∀ v, w ≤ v → v < 4 → ∀ z, z < H → r (10 + v) z = r (20 + v) z) → f_X0_isAsSaved_2 i r n (nI w) = some 1) ∧ (¬ (∀ v, w ≤ v → v < 4 → ∀ z, z < H → r (10 + v) z = r (20 + v) z) → f_X0_isAsSaved_2 i r n (nI w) = some 0) := by
  intro d
  induction d with
  | zero =>
    intro w n hk hn
    obtain ⟨q, rfl⟩ : ∃ q, n = q + 1 := ⟨n - 1, by omega⟩
    have e : w = 4 := by omega
    subst e
    refine ⟨fun _ => ?_, fun h => absurd (fun v h1 h2 => by omega) h⟩
    rw [f_X0_isAsSaved_2, if_pos (show (4 : Int32) ≤ nI 4 from nI_le (a := 4) (by omega) (by omega))]
  | succ d ih =>
    intro w n hk hn
    obtain ⟨q, rfl⟩ : ∃ q, n = q + 1 := ⟨n - 1, by omega⟩
    have h9 := as9_go (r := r) (K := f_X0_isAsSaved_2 i r q) hH h4 (w := w) (by omega) H 0 2000000 (by omega) (by omega)
    have h2 := ih (w + 1) q (by omega) (by omega)
    rw [f_X0_isAsSaved_2, if_neg (show ¬ (4 : Int32) ≤ nI w from nI_ge (b := 4) (by omega) (by omega))]
    by_cases e : ∀ z, 0 ≤ z → z < H → r (10 + w) z = r (20 + w) z
    · have h3 : f_X0_isAsSaved_9 i r (f_X0_isAsSaved_2 i r q) 2000000 (nI w) 0 = f_X0_isAsSaved_2 i r q (nI (w + 1)) := h9.1 e
      rw [h3]
      refine ⟨fun h => h2.1 (fun v h1 h2 => h v (by omega) h2), fun h => h2.2 (fun e2 => h (fun v h1 h3 z h4 => ?_))⟩
      by_cases e3 : v = w
      · subst e3; exact e z (by omega) h4
      · exact e2 v (by omega) h3 z h4
    · have h3 : f_X0_isAsSaved_9 i r (f_X0_isAsSaved_2 i r q) 2000000 (nI w) 0 = some 0 := h9.2 e
      rw [h3]
      exact ⟨fun h => absurd (fun z h1 h2 => h w (by omega) (by omega) z h2) e, fun _ => rfl⟩
theorem asSaved_ok {i : Nat → Int32} {r : Nat → Nat → Int32} {W H : Nat} {c c0 : CT} (hH : H ≤ 10) (h4 : i 4 = nI H) (hC : CBr 10 r c) (hS : CBr 20 r c0) (hin : INC W H c) (hin0 : INC W H c0) : (sameC c c0 → f_X0_isAsSaved i r = some 1) ∧ (¬ sameC c c0 → f_X0_isAsSaved i r = some 0) := by
  have h2 := as2_go (r := r) hH h4 4 0 2000000 (by omega) (by omega)
  rw [f_X0_isAsSaved]
  refine ⟨fun e => h2.1 (fun v _ hv z hz => ?_), fun e => h2.2 (fun q => e (fun w hw y hy x hx => ?_))⟩
  · rw [hC v hv z (by omega), hS v hv z (by omega), pkB_congr (fun x hx => e v hv z (by omega) x hx)]
  · by_cases hyH : y < H
    · have h3 := q w (by omega) hw y hyH
      rw [hC w hw y hy, hS w hw y hy] at h3
      exact pkB_inj (by omega) h3 hx
    · rw [hin w y x (by omega), hin0 w y x (by omega)]
theorem rd62_go {mi : Nat → Int32} {mr : Nat → Nat → Int32} {ml : Nat → Nat → Int64} {K : (Nat → Nat → Int32) → Int32 → Int32 → Int32 → Option (Int32 × (Nat → Nat → Int32))} {x1 x2 x3 : Int32} : ∀ (d k n : Nat), k + d = 100 → d + 1 < n → ((∀ z, k ≤ z → z < 100 → mr 69 z = mr 71 z) → f_X13_round_62 mi ml K n mr x1 x2 x3 1 (nI k) = f_X13_round_104 mi ml K mr x1 x2 x3 1) ∧ (¬ (∀ z, k ≤ z → z < 100 → mr 69 z = mr 71 z) → f_X13_round_62 mi ml K n mr x1 x2 x3 1 (nI k) = f_X13_round_104 mi ml K mr x1 x2 x3 0) := by
  intro d
  induction d with
  | zero =>
    intro k n hk hn
    obtain ⟨q, rfl⟩ : ∃ q, n = q + 1 := ⟨n - 1, by omega⟩
    have e : k = 100 := by omega
    subst e
    refine ⟨fun _ => ?_, fun h => absurd (fun z h1 h2 => by omega) h⟩
    rw [f_X13_round_62, if_pos (show (100 : Int32) ≤ nI 100 from nI_le (a := 100) (by omega) (by omega))]
  | succ d ih =>
    intro k n hk hn
    obtain ⟨q, rfl⟩ : ∃ q, n = q + 1 := ⟨n - 1, by omega⟩
    have h9 := ih (k + 1) q (by omega) (by omega)
    rw [f_X13_round_62, if_neg (show ¬ (100 : Int32) ≤ nI k from nI_ge (b := 100) (by omega) (by omega)), if_neg n10, ck_t (inb_nI (by omega) (by omega)), ck_t (inb_nI (by omega) (by omega)), nI_clamp (n := k) (by omega)]
    by_cases e : mr 69 k = mr 71 k
    · rw [if_pos e, f_X13_round_96, nI_1]
      refine ⟨fun h => h9.1 (fun z h1 h2 => h z (by omega) h2), fun h => h9.2 (fun e2 => h (fun z h1 h2 => ?_))⟩
      by_cases e3 : z = k
      · subst e3; exact e
      · exact e2 z (by omega) h2
    · rw [if_neg e, f_X13_round_96]
      refine ⟨fun h => absurd (h k (by omega) (by omega)) e, fun _ => ?_⟩
      by_cases e5 : q = 0
      · omega
      · obtain ⟨q', rfl⟩ : ∃ q', q = q' + 1 := ⟨q - 1, by omega⟩
        rw [f_X13_round_62]
        by_cases e4 : (100 : Int32) ≤ nI k + 1
        · rw [if_pos e4]
        · rw [if_neg e4, if_pos rfl]
theorem rd62_0 {mi : Nat → Int32} {mr : Nat → Nat → Int32} {ml : Nat → Nat → Int64} {K : (Nat → Nat → Int32) → Int32 → Int32 → Int32 → Option (Int32 × (Nat → Nat → Int32))} {x1 x2 x3 : Int32} {n : Nat} : f_X13_round_62 mi ml K (n + 1) mr x1 x2 x3 0 0 = f_X13_round_104 mi ml K mr x1 x2 x3 0 := by
  rw [f_X13_round_62, if_neg (show ¬ (100 : Int32) ≤ 0 by decide), if_pos rfl]
theorem same100 {mr : Nat → Nat → Int32} {c c0 : CT} (hM : MBr 69 mr c) (hO : MBr 71 mr c0) : (∀ z, 0 ≤ z → z < 100 → mr 69 z = mr 71 z) ↔ sameC c c0 := by
  constructor
  · intro h w hw y hy x hx
    have h3 := h (10 * y + x) (by omega) (by omega)
    rw [hM y hy x hx, hO y hy x hx] at h3
    exact pkB_inj (f := fun w => c w y x) (g := fun w => c0 w y x) (by omega) h3 hw
  · intro h z _ hz
    have h1 := hM (z / 10) (by omega) (z % 10) (by omega)
    have h2 := hO (z / 10) (by omega) (z % 10) (by omega)
    rw [show 10 * (z / 10) + z % 10 = z by omega] at h1 h2
    rw [h1, h2, pkB_congr (fun w hw => h w hw (z / 10) (by omega) (z % 10) (by omega))]
theorem rd124_go {mi : Nat → Int32} {ml : Nat → Nat → Int64} {t : Int32} : ∀ (d k n : Nat) (r : Nat → Nat → Int32), k + d = 100 → d < n → (∀ j, j < k → r 69 j = r 71 j) → ∃ r', f_X13_round_124 mi ml n r t (nI k) = some (t, r') ∧ (∀ j, j < 100 → r' 69 j = r 71 j) ∧ ∀ s, s ≠ 69 → r' s = r s := by
  intro d
  induction d with
  | zero =>
    intro k n r hk hn h
    obtain ⟨q, rfl⟩ : ∃ q, n = q + 1 := ⟨n - 1, by omega⟩
    have e : k = 100 := by omega
    subst e
    refine ⟨r, ?_, h, fun _ _ => rfl⟩
    rw [f_X13_round_124, if_pos (show (100 : Int32) ≤ nI 100 from nI_le (a := 100) (by omega) (by omega))]
  | succ d ih =>
    intro k n r hk hn h
    obtain ⟨q, rfl⟩ : ∃ q, n = q + 1 := ⟨n - 1, by omega⟩
    obtain ⟨r2, b1, b2, b3⟩ := ih (k + 1) q (va_up r 69 (upd (r 69) k (r 71 k))) (by omega) (by omega) (fun j hj => by
      rw [up_s, up_n (show 71 ≠ 69 by omega)]
      by_cases e : j = k
      · subst e; rw [pk_us]
      · rw [pk_un e]; exact h j (by omega))
    refine ⟨r2, ?_, fun j hj => (b2 j hj).trans (by rw [up_n (show 71 ≠ 69 by omega)]), fun s hs => (b3 s hs).trans (up_n hs)⟩
    rw [f_X13_round_124, if_neg (show ¬ (100 : Int32) ≤ nI k from nI_ge (b := 100) (by omega) (by omega)), ck_t (inb_nI (by omega) (by omega)), ck_t (inb_nI (by omega) (by omega)), nI_clamp (by omega), nI_1]
    exact b1
theorem rd2_go {mi : Nat → Int32} {ml : Nat → Nat → Int64} : ∀ (d k n : Nat) (r : Nat → Nat → Int32), k + d = 100 → d < n → (∀ j, j < k → r 71 j = r 69 j) → ∃ r', f_X13_round_2 mi ml n r (nI k) = f_X13_round_32 mi ml 2000000 r' (-1) 1 1 ∧ (∀ j, j < 100 → r' 71 j = r 69 j) ∧ ∀ s, s ≠ 71 → r' s = r s := by
  intro d
  induction d with
  | zero =>
    intro k n r hk hn h
    obtain ⟨q, rfl⟩ : ∃ q, n = q + 1 := ⟨n - 1, by omega⟩
    have e : k = 100 := by omega
    subst e
    refine ⟨r, ?_, h, fun _ _ => rfl⟩
    rw [f_X13_round_2, if_pos (show (100 : Int32) ≤ nI 100 from nI_le (a := 100) (by omega) (by omega))]
  | succ d ih =>
    intro k n r hk hn h
    obtain ⟨q, rfl⟩ : ∃ q, n = q + 1 := ⟨n - 1, by omega⟩
    obtain ⟨r2, b1, b2, b3⟩ := ih (k + 1) q (va_up r 71 (upd (r 71) k (r 69 k))) (by omega) (by omega) (fun j hj => by
      rw [up_s, up_n (show 69 ≠ 71 by omega)]
      by_cases e : j = k
      · subst e; rw [pk_us]
      · rw [pk_un e]; exact h j (by omega))
    refine ⟨r2, ?_, fun j hj => (b2 j hj).trans (by rw [up_n (show 69 ≠ 71 by omega)]), fun s hs => (b3 s hs).trans (up_n hs)⟩
    rw [f_X13_round_2, if_neg (show ¬ (100 : Int32) ≤ nI k from nI_ge (b := 100) (by omega) (by omega)), ck_t (inb_nI (by omega) (by omega)), ck_t (inb_nI (by omega) (by omega)), nI_clamp (by omega), nI_1]
    exact b1
/-- the end of both: the balls are as they were -/
theorem rd_end {W H : Nat} {c c0 : CT} {p : Nat → Nat → Nat} {i mi : Nat → Int32} {r mr : Nat → Nat → Int32} {ml : Nat → Nat → Int64} (h : GCp W H c p i r mi mr) (hin0 : INC W H c0) (hS : CBr 20 r c0) (hO : MBr 71 mr c0) (t : Int32) : ∃ r' mr', f_X0_beatsTillAsNow_70 i r t = some (t, r') ∧ f_X13_round_122 mi ml mr t = some (t, mr') ∧ GCp W H c0 p i r' mi mr' := by
  obtain ⟨r1, a1, a2, a3⟩ := cpB_go (i := i) 4 0 2000000 r (by omega) (by omega) (fun w hw => by omega)
  obtain ⟨m1, b1, b2, b3⟩ := rd124_go (mi := mi) (ml := ml) (t := t) 100 0 2000000 mr (by omega) (by omega) (fun w hw => by omega)
  obtain ⟨q1, q2, hp4, hin, hC, hP, hM, hPM⟩ := h
  refine ⟨r1, m1, ?_, ?_, q1, q2, hp4, hin0, fun w hw y hy => (a2 w hw y hy).trans (hS w hw y hy), fun k hk y hy => by rw [a3 (30 + k) (by omega)]; exact hP k hk y hy, fun y hy x hx => (b2 _ (by omega)).trans (hO y hy x hx), hPM.slot (b3 68 (by omega))⟩
  · have A : f_X0_copyBalls_B i r = some r1 := by
      rw [f_X0_copyBalls_B]
      exact a1
    rw [f_X0_beatsTillAsNow_70, A, bd_some]
  · rw [f_X13_round_122]
    exact b1
theorem round_go {W H : Nat} {c0 : CT} {p : Nat → Nat → Nat} {i mi : Nat → Int32} {ml : Nat → Nat → Int64} (hin0 : INC W H c0) : ∀ (d k n n2 : Nat) (c : CT) (r mr : Nat → Nat → Int32), k + d = 2001 → 1 ≤ k → d + 1 < n → d + 1 < n2 → GCp W H c p i r mi mr → CBr 20 r c0 → MBr 71 mr c0 → ∃ t r' mr', f_X0_beatsTillAsNow_18 i n r (-1) 0 (nI k) = some (t, r') ∧ f_X13_round_32 mi ml n2 mr (-1) 1 (nI k) = some (t, mr') ∧ GCp W H c0 p i r' mi mr' := by
  intro d
  induction d with
  | zero =>
    intro k n n2 c r mr hk h1 hn hn2 h hS hO
    obtain ⟨q, rfl⟩ : ∃ q, n = q + 1 := ⟨n - 1, by omega⟩
    obtain ⟨q2, rfl⟩ : ∃ q, n2 = q + 1 := ⟨n2 - 1, by omega⟩
    have e : k = 2001 := by omega
    subst e
    obtain ⟨r', mr', a1, a2, a3⟩ := rd_end (ml := ml) h hin0 hS hO (-1)
    have e2 : (2000 : Int32) < nI 2001 := nI_lt (a := 2000) (by omega) (by omega)
    refine ⟨-1, r', mr', ?_, ?_, a3⟩
    · rw [f_X0_beatsTillAsNow_18, if_pos e2]
      exact a1
    · rw [f_X13_round_32, if_pos e2]
      exact a2
  | succ d ih =>
    intro k n n2 c r mr hk h1 hn hn2 h hS hO
    obtain ⟨q, rfl⟩ : ∃ q, n = q + 1 + 1 := ⟨n - 2, by omega⟩
    obtain ⟨q2, rfl⟩ : ∃ q, n2 = q + 1 + 1 := ⟨n2 - 2, by omega⟩
    have e2 : ¬ (2000 : Int32) < nI k := nI_nlt (a := 2000) (b := k) (by omega) (by omega)
    obtain ⟨r1, r2, m1, a1, a2, a3, a4, a5, a6, a7, a8⟩ := beat1 (ml := ml) h
    obtain ⟨⟨hW1, hW, hH1, hH⟩, ⟨g3, g4, g5, m4, m5⟩, hp4, hin, hC, hP, hM, hPM⟩ := h
    have ht := tkH_le hW hH p c
    have hn : GCp W H (mv W H (mtA W p c)) p i r2 mi m1 := ⟨⟨hW1, hW, hH1, hH⟩, ⟨g3, g4, g5, m4, m5⟩, hp4, a4, a5, hP.slot a7, a6, hPM.slot (a8 68 (by omega) (by omega))⟩
    have hS2 : CBr 20 r2 c0 := fun w hw y hy => by rw [a7 (20 + w) (by omega)]; exact hS w hw y hy
    have hO2 : MBr 71 m1 c0 := hO.slot (a8 71 (by omega) (by omega))
    by_cases e0 : sm (tk W p c) H = 0
    · have A0 : f_X0_beatsTillAsNow_18 i (q + 1 + 1) r (-1) 0 (nI k) = f_X0_beatsTillAsNow_46 i (f_X0_beatsTillAsNow_18 i (q + 1)) r1 (-1) (nI k) 0 := by
        rw [f_X0_beatsTillAsNow_18, if_neg e2, if_pos rfl, if_pos rfl, a1, bd_some]
        simp only []
        rw [if_pos (by rw [e0]; exact nI_le (a := 0) (b := 0) (by omega) (by omega))]
      have B0 : f_X13_round_32 mi ml (q2 + 1 + 1) mr (-1) 1 (nI k) = f_X13_round_62 mi ml (f_X13_round_32 mi ml (q2 + 1)) 2000000 m1 (-1) 1 (nI k) 1 (nI 0) := by
        rw [f_X13_round_32, if_neg e2, if_neg n10, a3, bd_some]
        simp only []
        rw [if_pos (by rw [e0]; rfl), f_X13_round_55]
        rfl
      have R62 := rd62_go (mi := mi) (mr := m1) (ml := ml) (K := f_X13_round_32 mi ml (q2 + 1)) (x1 := -1) (x2 := 1) (x3 := nI k) 100 0 2000000 (by omega) (by omega)
      rw [A0, B0, f_X0_beatsTillAsNow_46, a2, bd_some, if_pos rfl]
      by_cases es : sameC (mv W H (mtA W p c)) c0
      · have hs : f_X0_isAsSaved i r2 = some 1 := (asSaved_ok hH g4 a5 hS2 a4 hin0).1 es
        obtain ⟨r', mr', b1, b2, b3⟩ := rd_end (ml := ml) hn hin0 hS2 hO2 (nI k)
        have nk : ¬ nI k = -1 := nm1 (by omega)
        refine ⟨nI k, r', mr', ?_, ?_, b3⟩
        · rw [hs, bd_some, if_neg n10, f_X0_beatsTillAsNow_64, f_X0_beatsTillAsNow_18]
          by_cases e5 : (2000 : Int32) < nI k + 1
          · rw [if_pos e5, b1]
          · rw [if_neg e5, if_neg nk, b1]
        · rw [R62.1 ((same100 a6 hO2).mpr es), f_X13_round_104, if_neg n10, f_X13_round_116, f_X13_round_32]
          by_cases e5 : (2000 : Int32) < nI k + 1
          · rw [if_pos e5, b2]
          · rw [if_neg e5, if_pos rfl, b2]
      · have hs : f_X0_isAsSaved i r2 = some 0 := (asSaved_ok hH g4 a5 hS2 a4 hin0).2 es
        obtain ⟨t, r', mr', b1, b2, b3⟩ := ih (k + 1) (q + 1) (q2 + 1) _ r2 m1 (by omega) (by omega) (by omega) (by omega) hn hS2 hO2
        refine ⟨t, r', mr', ?_, ?_, b3⟩
        · rw [hs, bd_some, if_pos rfl, f_X0_beatsTillAsNow_64, nI_1]
          exact b1
        · rw [R62.2 (fun z => es ((same100 a6 hO2).mp z)), f_X13_round_104, if_pos rfl, f_X13_round_116, nI_1]
          exact b2
    · have A0 : f_X0_beatsTillAsNow_18 i (q + 1 + 1) r (-1) 0 (nI k) = f_X0_beatsTillAsNow_46 i (f_X0_beatsTillAsNow_18 i (q + 1)) r1 (-1) (nI k) 1 := by
        rw [f_X0_beatsTillAsNow_18, if_neg e2, if_pos rfl, if_pos rfl, a1, bd_some]
        simp only []
        rw [if_neg (nI_nle (by omega) (by omega))]
      have B0 : f_X13_round_32 mi ml (q2 + 1 + 1) mr (-1) 1 (nI k) = f_X13_round_62 mi ml (f_X13_round_32 mi ml (q2 + 1)) (1999999 + 1) m1 (-1) 0 (nI k) 0 0 := by
        rw [f_X13_round_32, if_neg e2, if_neg n10, a3, bd_some]
        simp only []
        rw [if_neg (nI_ne0 (by omega) (by omega)), f_X13_round_55]
      rw [A0, B0, rd62_0, f_X0_beatsTillAsNow_46, a2, bd_some, if_neg n10]
      obtain ⟨r', mr', b1, b2, b3⟩ := rd_end (ml := ml) hn hin0 hS2 hO2 (-1)
      refine ⟨-1, r', mr', ?_, ?_, b3⟩
      · rw [f_X0_beatsTillAsNow_64, f_X0_beatsTillAsNow_18]
        by_cases e5 : (2000 : Int32) < nI k + 1
        · rw [if_pos e5, b1]
        · rw [if_neg e5, if_pos rfl, if_neg n10, b1]
      · rw [f_X13_round_104, if_pos rfl, f_X13_round_116, f_X13_round_32]
        by_cases e5 : (2000 : Int32) < nI k + 1
        · rw [if_pos e5, b2]
        · rw [if_neg e5, if_pos rfl, b2]
theorem round_ok {i mi : Nat → Int32} {r mr : Nat → Nat → Int32} {ml : Nat → Nat → Int64} (h : GC i r mi mr) : ∃ q m, f_X11_round i r = some q ∧ f_X13_round mi mr ml = some m ∧ q.1 = m.1 ∧ GC i q.2 mi m.2 := by
  obtain ⟨W, H, U, c, p, hp, g6, m7, hU, hh⟩ := h
  obtain ⟨r1, a1, a2, a3⟩ := cpA_go (i := i) 4 0 2000000 r (by omega) (by omega) (fun w hw => by omega)
  obtain ⟨m1, b1, b2, b3⟩ := rd2_go (mi := mi) (ml := ml) 100 0 2000000 mr (by omega) (by omega) (fun w hw => by omega)
  obtain ⟨q1, q2, hp4, hin, hC, hP, hM, hPM⟩ := hp
  have hn : GCp W H c p i r1 mi m1 := ⟨q1, q2, hp4, hin, fun w hw y hy => by rw [a3 (10 + w) (by omega)]; exact hC w hw y hy, fun k hk y hy => by rw [a3 (30 + k) (by omega)]; exact hP k hk y hy, hM.slot (b3 69 (by omega)), hPM.slot (b3 68 (by omega))⟩
  obtain ⟨t, r', mr', c1, c2, c3⟩ := round_go (ml := ml) hin 2000 1 2000000 2000000 c r1 m1 (by omega) (by omega) (by omega) (by omega) hn (fun w hw y hy => (a2 w hw y hy).trans (hC w hw y hy)) (fun y hy x hx => (b2 _ (by omega)).trans (hM y hy x hx))
  refine ⟨(t, r'), (t, mr'), ?_, ?_, rfl, W, H, U, c, p, c3, g6, m7, hU, hh⟩
  · have A : f_X0_copyBalls_A i r = some r1 := by
      rw [f_X0_copyBalls_A]
      exact a1
    have A2 : f_X0_beatsTillAsNow i r = some (t, r') := by
      rw [f_X0_beatsTillAsNow, A, bd_some]
      exact c1
    rw [f_X11_round, A2, bd_some]
  · rw [f_X13_round]
    exact b1.trans c2

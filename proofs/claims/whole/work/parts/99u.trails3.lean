/-! ===== TRAILS: the way, trail and move ===== -/
theorem near_go {i0 : Nat → Int32} {u0 : Nat → Nat} {r : Nat → Nat → Int32} {n v w P : Nat} {F : Nat → Option Nat} (hu0 : u0 0 = 4096) (hn : n ≤ 12) (hv : v < 2 ^ n) (hR : ∀ v, v < 2 ^ n → r 0 v = fI (F v)) (hs : ∀ v d, F v = some d → d < 4096) (hw : w < 4096) (hP : P < n) (hP1 : may v P = true ∧ F (v ^^^ 2 ^ P) = some w) (hP2 : ∀ p, p < P → ¬ (may v p = true ∧ F (v ^^^ 2 ^ p) = some w)) : ∀ (d p q : Nat), p + d = P → d < q → f_X10_placeNearer_3 i0 r u0 q (nI v) (nI n) (nI w) (nI p) = some (nI P) := by
  have h2n := p12 hn
  have cmp : ∀ x, (fI (F x) = nI w) ↔ F x = some w := fun x => by
    cases h : F x with
    | none => exact ⟨fun q => absurd q.symm (nm1 (by omega)), fun q => by cases q⟩
    | some d =>
      have := hs x d h
      exact ⟨fun q => by rw [nI_inj (by omega) (by omega) q], fun q => by injection q with q; rw [q]; rfl⟩
  intro d
  induction d with
  | zero =>
    intro p q hpd hq
    obtain ⟨q, rfl⟩ : ∃ q', q = q' + 1 := ⟨q - 1, by omega⟩
    have e : p = P := by omega
    subst e
    have hx := xlt hv hP
    rw [f_X10_placeNearer_3, if_neg (nI_ge hP (by omega)), mayC (by omega) (by omega), bd_some, if_pos hP1.1, if_neg n10, xI (by omega), hu0, ck_t (inb_nI (by omega) (by omega)), nI_clamp (n := v ^^^ 2 ^ p) (by omega), hR _ hx, if_pos ((cmp _).mpr hP1.2)]
  | succ d ih =>
    intro p q hpd hq
    obtain ⟨q, rfl⟩ : ∃ q', q = q' + 1 := ⟨q - 1, by omega⟩
    have hx := xlt hv (show p < n by omega)
    rw [f_X10_placeNearer_3, if_neg (nI_ge (show p < n by omega) (by omega)), mayC (by omega) (by omega), bd_some]
    by_cases hm : may v p = true
    · rw [if_pos hm, if_neg n10, xI (by omega), hu0, ck_t (inb_nI (by omega) (by omega)), nI_clamp (n := v ^^^ 2 ^ p) (by omega), hR _ hx, if_neg (fun z => hP2 p (by omega) ⟨hm, (cmp _).mp z⟩), f_X10_placeNearer_36, nI_1]
      exact ih (p + 1) q (by omega) (by omega)
    · rw [if_neg hm, if_pos rfl, f_X10_placeNearer_36, nI_1]
      exact ih (p + 1) q (by omega) (by omega)
theorem m211_go {mi : Nat → Int32} {ml : Nat → Nat → Int64} {mr : Nat → Nat → Int32} {K : (Nat → Int32) → (Nat → Nat → Int32) → Int32 → Int32 → Int32 → Option (Int32 × (Nat → Int32) × (Nat → Nat → Int32))} {n k v w P j : Nat} {F : Nat → Option Nat} (hn : n ≤ 12) (hk : k ≤ 12) (hj : j < 4096) (hv : v < 2 ^ n) (hR : ∀ v, v < 2 ^ n → mr 72 v = fI (F v)) (hs : ∀ v d, F v = some d → d < 4096 ∧ cnt v 12 ≤ k) (hw : w < 4096) (hFv : F v = some (w + 1)) (hP : P < n) (hP1 : may v P = true ∧ F (v ^^^ 2 ^ P) = some w) (hP2 : ∀ p, p < P → ¬ (may v p = true ∧ F (v ^^^ 2 ^ p) = some w)) : ∀ (d p q : Nat), p + d = P → d < q → f_X13_trail_211 ml K q mi mr (nI k) (nI v) (nI j) (nI (p + 1)) = K mi (va_up mr 74 (upd (mr 74) j (nI (P + 1)))) (nI k) (nI (v ^^^ 2 ^ P)) (nI (j + 1)) := by
  have h2n := p12 hn
  have cmp : ∀ x, (fI (F x) = nI w) ↔ F x = some w := fun x => by
    cases h : F x with
    | none => exact ⟨fun q => absurd q.symm (nm1 (by omega)), fun q => by cases q⟩
    | some d =>
      have := (hs x d h).1
      exact ⟨fun q => by rw [nI_inj (by omega) (by omega) q], fun q => by injection q with q; rw [q]; rfl⟩
  have eW : fI (F v) - 1 = nI w := by
    rw [hFv]
    exact nI_pred w
  have iv : inb (nI v) 4096 = true := inb_nI (by omega) (by omega)
  have nx : ∀ p, p < n → f_X13_isNext mi mr ml (nI v) (nI (p + 1)) (nI k) = some (if may v p = true ∧ cnt (v ^^^ 2 ^ p) 12 ≤ k then (if fI (F (v ^^^ 2 ^ p)) = nI w then 1 else 0) else 0) := fun p hp => by
    have hx := xlt hv hp
    rw [f_X13_isNext, moveTo_ok (by omega) (by omega) hk, bd_some]
    by_cases hm : may v p = true ∧ cnt (v ^^^ 2 ^ p) 12 ≤ k
    · rw [if_pos hm, if_neg (nm1 (by omega)), ck_t (inb_nI (by omega) (by omega)), ck_t iv, nI_clamp (n := v ^^^ 2 ^ p) (by omega), nI_clamp (n := v) (by omega), hR _ hx, hR _ hv, eW, if_pos hm]
      by_cases e : fI (F (v ^^^ 2 ^ p)) = nI w
      · rw [if_pos e, if_pos e]
      · rw [if_neg e, if_neg e]
    · rw [if_neg hm, if_pos rfl, if_neg hm]
  intro d
  induction d with
  | zero =>
    intro p q hpd hq
    obtain ⟨q, rfl⟩ : ∃ q', q = q' + 1 := ⟨q - 1, by omega⟩
    have e : p = P := by omega
    subst e
    have hx := xlt hv hP
    have hb := (hs _ _ hP1.2).2
    have hcc : may v p = true ∧ cnt (v ^^^ 2 ^ p) 12 ≤ k := ⟨hP1.1, hb⟩
    rw [f_X13_trail_211, nx p hP, bd_some, if_pos hcc, if_pos ((cmp _).mpr hP1.2), if_neg n10, ck_t (inb_nI (by omega) (by omega)), moveTo_ok (by omega) (by omega) hk, bd_some, if_pos hcc, nI_clamp (n := j) (by omega), nI_1]
  | succ d ih =>
    intro p q hpd hq
    obtain ⟨q, rfl⟩ : ∃ q', q = q' + 1 := ⟨q - 1, by omega⟩
    have e0 : (if may v p = true ∧ cnt (v ^^^ 2 ^ p) 12 ≤ k then (if fI (F (v ^^^ 2 ^ p)) = nI w then 1 else 0) else 0 : Int32) = 0 := by
      by_cases hm : may v p = true ∧ cnt (v ^^^ 2 ^ p) 12 ≤ k
      · rw [if_pos hm, if_neg (fun z => hP2 p (by omega) ⟨hm.1, (cmp _).mp z⟩)]
      · rw [if_neg hm]
    rw [f_X13_trail_211, nx p (by omega), bd_some, e0, if_pos rfl, nI_1]
    exact ih (p + 1) q (by omega) (by omega)
/-- the first place that comes nearer -/
theorem first_p {n : Nat} {Q : Nat → Prop} [DecidablePred Q] (h : ∃ p, p < n ∧ Q p) : ∃ P, P < n ∧ Q P ∧ ∀ p, p < P → ¬ Q p := by
  have h0 : ∃ p, p < n ∧ Q p := h
  have key : ∀ m, (∃ p, p < m ∧ p < n ∧ Q p) → ∃ P, P < n ∧ Q P ∧ ∀ p, p < P → ¬ Q p := by
    intro m
    induction m with
    | zero =>
      rintro ⟨p, hp, _⟩
      omega
    | succ m ih =>
      intro hm
      by_cases e : ∃ p, p < m ∧ p < n ∧ Q p
      · exact ih e
      · obtain ⟨p, a, b, c⟩ := hm
        refine ⟨p, b, c, fun z hz hq => e ⟨z, by omega, by omega, hq⟩⟩
  obtain ⟨p, a, b⟩ := h0
  exact key (p + 1) ⟨p, by omega, a, b⟩
theorem way_go {u0 : Nat → Nat} {ml : Nat → Nat → Int64} {n k D : Nat} {F G : Nat → Option Nat} (hu0 : u0 0 = 4096) (hu2 : u0 2 = 4096) (hn : n ≤ 12) (hk : k ≤ 12) (hD : D < 4096) (hF : ∀ v d, F v = some d → d < 4096 ∧ v < 2 ^ n ∧ cnt v 12 ≤ k) (hG : ∀ v d, G v = some d → d < 4096 ∧ v < 2 ^ n ∧ cnt v 12 ≤ k) (h5 : ∀ v d, F v = some (d + 1) → ∃ p, p < n ∧ may v p = true ∧ F (v ^^^ 2 ^ p) = some d) (hFG : ∀ v d, F v = some d → G v = some d) (hGF : ∀ v d, F v = none → G v = some d → D ≤ d) : ∀ (dd j v qC qR : Nat) (i0 mi : Nat → Int32) (r mr : Nat → Nat → Int32), j + dd = D → dd < qC → dd < qR → F v = some dd → i0 3 = nI D → mi 75 = nI D → (∀ v, v < 2 ^ n → r 0 v = fI (F v)) → (∀ v, v < 2 ^ n → mr 72 v = fI (G v)) → (∀ z, z < j → r 2 z = mr 74 z) → ∃ r' mr', f_X10_fewestMoves_68 u0 qC i0 r (nI n) (nI v) (nI j) = some (nI D, i0, r') ∧ f_X13_trail_199 ml qR mi mr (nI k) (nI v) (nI j) = some (nI D, mi, mr') ∧ ∀ z, z < D → r' 2 z = mr' 74 z := by
  have h2n := p12 hn
  intro dd
  induction dd with
  | zero =>
    intro j v qC qR i0 mi r mr hj hqC hqR hv h3 h75 hR hM hz
    obtain ⟨qC, rfl⟩ : ∃ q', qC = q' + 1 := ⟨qC - 1, by omega⟩
    obtain ⟨qR, rfl⟩ : ∃ q', qR = q' + 1 := ⟨qR - 1, by omega⟩
    have e : j = D := by omega
    subst e
    refine ⟨r, mr, ?_, ?_, hz⟩
    · rw [f_X10_fewestMoves_68, h3, if_pos (nI_le (by omega) (by omega))]
    · rw [f_X13_trail_199, h75, if_pos (nI_le (by omega) (by omega))]
  | succ dd ih =>
    intro j v qC qR i0 mi r mr hj hqC hqR hv h3 h75 hR hM hz
    obtain ⟨qC, rfl⟩ : ∃ q', qC = q' + 1 := ⟨qC - 1, by omega⟩
    obtain ⟨qR, rfl⟩ : ∃ q', qR = q' + 1 := ⟨qR - 1, by omega⟩
    have hv2 := hF v _ hv
    obtain ⟨P, p1, p2, p3⟩ := first_p (Q := fun p => may v p = true ∧ F (v ^^^ 2 ^ p) = some dd) (h5 v dd hv)
    have q2 : may v P = true ∧ G (v ^^^ 2 ^ P) = some dd := ⟨p2.1, hFG _ _ p2.2⟩
    have q3 : ∀ p, p < P → ¬ (may v p = true ∧ G (v ^^^ 2 ^ p) = some dd) := fun p hp hq => by
      cases e : F (v ^^^ 2 ^ p) with
      | none =>
        have := hGF _ _ e hq.2
        omega
      | some x =>
        have e2 := hFG _ _ e
        rw [hq.2] at e2
        injection e2 with e2
        exact p3 p hp ⟨hq.1, by rw [e, e2]⟩
    have A := near_go (i0 := i0) (u0 := u0) (r := r) hu0 hn hv2.2.1 hR (fun v d q => (hF v d q).1) (show dd < 4096 by omega) p1 p2 p3 P 0 2000000 (by omega) (by omega)
    have B := m211_go (mi := mi) (ml := ml) (mr := mr) (K := f_X13_trail_199 ml qR) (j := j) hn hk (by omega) hv2.2.1 hM (fun v d q => ⟨(hG v d q).1, (hG v d q).2.2⟩) (show dd < 4096 by omega) (hFG _ _ hv) p1 q2 q3 P 0 2000000 (by omega) (by omega)
    obtain ⟨r', mr', c1, c2, c3⟩ := ih (j + 1) (v ^^^ 2 ^ P) qC qR i0 mi (va_up r 2 (upd (r 2) j (nI (P + 1)))) (va_up mr 74 (upd (mr 74) j (nI (P + 1)))) (by omega) (by omega) (by omega) p2.2 h3 h75 (fun v hv => by rw [up_n (by omega)]; exact hR v hv) (fun v hv => by rw [up_n (by omega)]; exact hM v hv) (fun z hz2 => by
      rw [up_s, up_s]
      by_cases e : z = j
      · rw [e, pk_us, pk_us]
      · rw [pk_un e, pk_un e]
        exact hz z (by omega))
    refine ⟨r', mr', ?_, ?_, c3⟩
    · have A' : f_X10_placeNearer i0 r u0 (nI v) (nI n) (nI dd) = some (nI P) := by
        rw [f_X10_placeNearer]
        exact A
      rw [f_X10_fewestMoves_68, h3, if_neg (nI_ge (by omega) (by omega)), hu0, ck_t (inb_nI (by omega) (by omega)), nI_clamp (n := v) (by omega), hR v hv2.2.1, hv, show fI (some (dd + 1)) - 1 = nI dd from nI_pred dd, A', bd_some, hu2, ck_t (inb_nI (by omega) (by omega)), nI_clamp (n := j) (by omega), xI (by omega), nI_1, nI_1]
      exact c1
    · rw [f_X13_trail_199, h75, if_neg (nI_ge (by omega) (by omega))]
      exact B.trans c2
theorem ff_go {N : Nat} {v : Int32} (hN : N ≤ 4096) : ∀ (d k q : Nat) (g : Nat → Int32), k + d = N → d < q → (∀ j, j < k → g j = v) → ∃ g', f_J7_fill_fda19_10 4096 q g (nI N) v (nI k) = some g' ∧ ∀ j, j < N → g' j = v := by
  intro d
  induction d with
  | zero =>
    intro k q g hk hq h
    obtain ⟨q, rfl⟩ : ∃ q', q = q' + 1 := ⟨q - 1, by omega⟩
    have e : k = N := by omega
    subst e
    refine ⟨g, ?_, h⟩
    rw [f_J7_fill_fda19_10, if_pos (nI_le (by omega) (by omega))]
  | succ d ih =>
    intro k q g hk hq h
    obtain ⟨q, rfl⟩ : ∃ q', q = q' + 1 := ⟨q - 1, by omega⟩
    obtain ⟨g', a1, a2⟩ := ih (k + 1) q (upd g k v) (by omega) (by omega) (fun j hj => by
      by_cases e : j = k
      · subst e; rw [pk_us]
      · rw [pk_un e]; exact h j (by omega))
    refine ⟨g', ?_, a2⟩
    rw [f_J7_fill_fda19_10, if_neg (nI_ge (by omega) (by omega)), ck_t (inb_nI (by omega) (by omega)), nI_clamp (by omega), nI_1]
    exact a1
theorem t29_go {mi : Nat → Int32} {ml : Nat → Nat → Int64} {n : Nat} {k : Int32} (hn1 : 1 ≤ n) (hn : n ≤ 12) : ∀ (d z q : Nat) (mr : Nat → Nat → Int32), z + d = 2 ^ n → d < q → (∀ j, j < z → mr 72 j = -1) → ∃ mr', f_X13_trail_29 ml q mi mr (nI n) k (nI z) = f_X13_trail_75 ml 2000000 mi (va_up (va_up mr' 72 (upd (mr' 72) (2 ^ (n - 1)) 0)) 73 (upd (mr' 73) 0 (nI (2 ^ (n - 1))))) (nI n) k 1 0 ∧ (∀ j, j < 2 ^ n → mr' 72 j = -1) ∧ mr' 74 = mr 74 := by
  have h2n := p12 hn
  have h2m : 2 ^ (n - 1) < 2 ^ n := Nat.pow_lt_pow_right (by omega) (by omega)
  have z0 : (0 : Int32).toNatClampNeg = 0 := nI_clamp (n := 0) (by omega)
  have i0' : inb (0 : Int32) 4096 = true := inb_nI (n := 0) (by omega) (by omega)
  intro d
  induction d with
  | zero =>
    intro z q mr hz hq h
    obtain ⟨q, rfl⟩ : ∃ q', q = q' + 1 := ⟨q - 1, by omega⟩
    have e : z = 2 ^ n := by omega
    subst e
    refine ⟨mr, ?_, h, rfl⟩
    rw [f_X13_trail_29, sh1 (show n < 31 by omega), if_pos (nI_le (by omega) (by omega)), nI_s1 hn1, sh1 (by omega), ck_t (inb_nI (by omega) (by omega)), ck_t i0', nI_clamp (n := 2 ^ (n - 1)) (by omega), z0, f_X13_trail_69]
  | succ d ih =>
    intro z q mr hz hq h
    obtain ⟨q, rfl⟩ : ∃ q', q = q' + 1 := ⟨q - 1, by omega⟩
    obtain ⟨m', a1, a2, a3⟩ := ih (z + 1) q (va_up mr 72 (upd (mr 72) z (-1))) (by omega) (by omega) (fun j hj => by
      rw [up_s]
      by_cases e : j = z
      · subst e; rw [pk_us]
      · rw [pk_un e]; exact h j (by omega))
    refine ⟨m', ?_, a2, a3.trans (up_n (by omega))⟩
    rw [f_X13_trail_29, sh1 (show n < 31 by omega), if_neg (nI_ge (by omega) (by omega)), ck_t (inb_nI (by omega) (by omega)), nI_clamp (n := z) (by omega), nI_1]
    exact a1
def T0 (n : Nat) : TS := (fun v => if v = 2 ^ (n - 1) then some 0 else none, fun _ => 2 ^ (n - 1), 1)
theorem cnt_pow (p : Nat) : ∀ n, cnt (2 ^ p) n ≤ 1 ∧ (n ≤ p → cnt (2 ^ p) n = 0)
  | 0 => ⟨by show 0 ≤ 1; omega, fun _ => rfl⟩
  | n + 1 => by
    have h := cnt_pow p n
    show cnt (2 ^ p) n + (if (2 ^ p).testBit n then 1 else 0) ≤ 1 ∧ (n + 1 ≤ p → cnt (2 ^ p) n + (if (2 ^ p).testBit n then 1 else 0) = 0)
    rw [Nat.testBit_two_pow]
    by_cases e : p = n
    · subst e
      have := h.2 (Nat.le_refl _)
      simp [this]
    · simp only [e, decide_false, Bool.false_eq_true, if_false, Nat.add_zero]
      exact ⟨h.1, fun q => h.2 (by omega)⟩
theorem T0_BI {n k : Nat} (hn1 : 1 ≤ n) (hk : 1 ≤ k) : BI n k (T0 n) (fun _ => 0) 0 := by
  have h2m : 2 ^ (n - 1) < 2 ^ n := Nat.pow_lt_pow_right (by omega) (by omega)
  refine ⟨fun j hj => ⟨h2m, by simp [T0], Nat.zero_le j⟩, fun _ _ _ _ => Nat.le_refl _, fun _ _ _ => Nat.zero_le _, fun j j' h1 h2 => ?_, fun v d hv => ?_, fun v d hv => ?_⟩
  · have : j' < 1 := h2
    omega
  · simp only [T0] at hv
    by_cases e : v = 2 ^ (n - 1)
    · rw [if_pos e] at hv; cases hv
    · rw [if_neg e] at hv; cases hv
  · simp only [T0] at hv ⊢
    by_cases e : v = 2 ^ (n - 1)
    · refine ⟨?_, 0, by omega, e.symm⟩
      rw [e]
      have := (cnt_pow (n - 1) 12).1
      omega
    · rw [if_neg e] at hv; cases hv
theorem few_ok {i mi : Nat → Int32} {r mr : Nat → Nat → Int32} {u : Nat → Nat} {ml : Nat → Nat → Int64} (hu0 : u 0 = 4096) (hu1 : u 1 = 4096) (hu2 : u 2 = 4096) {n k : Nat} (hn1 : 1 ≤ n) (hn : n ≤ 12) (hk1 : 1 ≤ k) (hk : k ≤ 12) : ∃ q m, f_X10_fewestMoves_35 u i r (nI n) (nI k) = some q ∧ f_X13_trail_29 ml 2000000 mi mr (nI n) (nI k) 0 = some m ∧ q.1 = m.1 ∧ ((q.2.1 = i ∧ q.2.2 2 = r 2 ∧ m.2.1 = mi ∧ m.2.2 74 = mr 74) ∨ ∃ T, T ≤ 4096 ∧ q.2.1 3 = nI T ∧ m.2.1 75 = nI T ∧ ∀ j, j < T → q.2.2 2 j = m.2.2 74 j) := by
  have h2n := p12 hn
  have hp0 : 0 < 2 ^ n := Nat.pow_pos (by omega)
  have h2m : 2 ^ (n - 1) < 2 ^ n := Nat.pow_lt_pow_right (by omega) (by omega)
  have z0 : (0 : Int32).toNatClampNeg = 0 := nI_clamp (n := 0) (by omega)
  have i0' : inb (0 : Int32) 4096 = true := inb_nI (n := 0) (by omega) (by omega)
  obtain ⟨g, f1, f2⟩ := ff_go (v := -1) (show 2 ^ n ≤ 4096 from h2n) (2 ^ n) 0 2000000 (r 0) (by omega) (by omega) (fun j hj => by omega)
  obtain ⟨m0, t1, t2, t3⟩ := t29_go (mi := mi) (ml := ml) (k := nI k) hn1 hn (2 ^ n) 0 2000000 mr (by omega) (by omega) (fun j hj => by omega)
  have hC : RC n (T0 n) (va_up (va_up (va_up r 0 g) 0 (upd g (2 ^ (n - 1)) 0)) 1 (upd ((va_up (va_up r 0 g) 0 (upd g (2 ^ (n - 1)) 0)) 1) 0 (nI (2 ^ (n - 1))))) := by
    refine ⟨fun v hv => ?_, fun j hj => ?_⟩
    · rw [up_n (by omega), up_s]
      simp only [T0]
      by_cases e : v = 2 ^ (n - 1)
      · rw [e, pk_us, if_pos rfl]; rfl
      · rw [pk_un e, if_neg e, f2 v hv]; rfl
    · have : j < 1 := hj
      have e : j = 0 := by omega
      rw [e, up_s, pk_us]
      rfl
  have hM : RM n (T0 n) (va_up (va_up m0 72 (upd (m0 72) (2 ^ (n - 1)) 0)) 73 (upd (m0 73) 0 (nI (2 ^ (n - 1))))) := by
    refine ⟨fun v hv => ?_, fun j hj => ?_⟩
    · rw [up_n (by omega), up_s]
      simp only [T0]
      by_cases e : v = 2 ^ (n - 1)
      · rw [e, pk_us, if_pos rfl]; rfl
      · rw [pk_un e, if_neg e, t2 v hv]; rfl
    · have : j < 1 := hj
      have e : j = 0 := by omega
      rw [e, up_s, pk_us]
      rfl
  obtain ⟨S, ds, iS, qR, r1, m1, a1, a2, a3, a4, a5, a6, a7, a8, a9, a10, a11⟩ := both_go (i0 := i) (mi := mi) (ml := ml) hu0 hu1 hn hk 4096 0 2000000 2000000 (T0 n) (fun _ => 0) _ _ (by omega) (by omega) (by omega) (by show 0 ≤ 1; omega) (by show 0 < 1; omega) (T0_BI hn1 hk1) hC hM
  obtain ⟨S2, ds2, i2, m2, b1, b2, b3, b4, b5, b6⟩ := rest_go (mi := mi) (ml := ml) hn hk (4096 - iS) iS qR S ds m1 (by omega) a3 a4 a5 a6 a9
  have A0 : f_X10_measure i r u (nI n) (nI k) = some r1 := by
    have hf : f_J7_fill_fda19 4096 (r 0) 0 (nI (2 ^ n)) (-1) = some g := by
      rw [f_J7_fill_fda19, f_J7_rangeCheck_23922, if_pos (nI_pos' (by omega)), if_pos (show (0 : Int32) ≤ 0 by decide), if_pos (show nI (2 ^ n) ≤ Int32.ofNat 4096 from nI_le h2n (by omega)), bd_some]
      exact f1
    rw [f_X10_measure, sh1 (show n < 31 by omega), nI_s1 hn1, sh1 (show n - 1 < 31 by omega), hu0, hf, bd_some, ck_t (inb_nI (by omega) (by omega)), nI_clamp (n := 2 ^ (n - 1)) (by omega), f_X10_measure_25, hu1, ck_t i0', z0]
    exact a1
  have B0 : f_X13_trail_29 ml 2000000 mi mr (nI n) (nI k) 0 = (ck (inb 0 4096) (if (m2 72 (0 : Int32).toNatClampNeg) = (-1) then (some ((-1), mi, m2)) else (ck (inb 0 4096) (f_X13_trail_199 ml 2000000 (upd mi 75 (m2 72 (0 : Int32).toNatClampNeg)) m2 (nI k) 0 0)))) := t1.trans (a2.trans b1)
  have e74 : m2 74 = mr 74 := by
    rw [b6, a11, up_n (by omega), up_n (by omega)]
    exact t3
  have e2 : r1 2 = r 2 := by
    rw [a10, up_n (by omega), up_n (by omega), up_n (by omega)]
  rw [f_X10_fewestMoves_35, A0, bd_some, hu0, ck_t i0', z0, a8.1 0 hp0, B0, ck_t i0', z0, b3.1 0 hp0]
  cases hz : S.1 0 with
  | none =>
    have hi := a7 hz
    have hz2 : S2.1 0 = none := by
      cases q : S2.1 0 with
      | none => rfl
      | some d =>
        have := (b5 0 d hz q).1
        omega
    rw [hz2, if_pos (show fI none = -1 from rfl), if_pos (show fI none = -1 from rfl)]
    exact ⟨_, _, rfl, rfl, rfl, Or.inl ⟨rfl, e2, rfl, e74⟩⟩
  | some D =>
    have hsm := (a6.small hn hz).1
    have hz2 := b4 0 D hz
    have nD : ¬ fI (some D) = -1 := nm1 (show D < 2 ^ 31 by omega)
    rw [hz2, if_neg nD, if_neg nD, ck_t i0', ck_t i0']
    obtain ⟨j0, hj0, ej0⟩ := (a6.2.2.2.2.2 0 D hz).2
    have eD : ds j0 = D := by
      have := (a6.1 j0 hj0).2.1
      rw [ej0, hz] at this
      injection this with this
      exact this.symm
    obtain ⟨r', mr', c1, c2, c3⟩ := way_go (u0 := u) (ml := ml) (F := S.1) (G := S2.1) hu0 hu2 hn hk hsm (fun v d q => ⟨(a6.small hn q).1, (a6.small hn q).2, (a6.2.2.2.2.2 v d q).1⟩) (fun v d q => ⟨(b2.small hn q).1, (b2.small hn q).2, (b2.2.2.2.2.2 v d q).1⟩) a6.2.2.2.2.1 b4 (fun v d q1 q2 => by
      obtain ⟨g1, g2⟩ := b5 v d q1 q2
      have g3 := a6.2.2.1 g1 j0 hj0
      omega) D 0 0 2000000 2000000 (upd i 3 (nI D)) (upd mi 75 (nI D)) r1 m2 (by omega) (by omega) (by omega) hz pk_us pk_us a8.1 b3.1 (fun z hz => by omega)
    exact ⟨(nI D, upd i 3 (nI D), r'), (nI D, upd mi 75 (nI D), mr'), c1, c2, rfl, Or.inr ⟨D, by omega, pk_us (f := i) (k := 3) (x := nI D), pk_us (f := mi) (k := 75) (x := nI D), c3⟩⟩
def GR (i : Nat → Int32) (r : Nat → Nat → Int32) (u : Nat → Nat) (mi : Nat → Int32) (mr : Nat → Nat → Int32) : Prop := ∃ T, T ≤ 4096 ∧ i 3 = nI T ∧ mi 75 = nI T ∧ ((u 0 = 4096 ∧ u 1 = 4096 ∧ u 2 = 4096 ∧ ∀ j, j < T → r 2 j = mr 74 j) ∨ (u 0 = 0 ∧ T = 0))
theorem GR.congr {i i' : Nat → Int32} {r r' : Nat → Nat → Int32} {u u' : Nat → Nat} {mi mi' : Nat → Int32} {mr mr' : Nat → Nat → Int32} (h : GR i r u mi mr) (hi : i' = i) (hr : r' = r) (hu : u' = u) (h5 : mi' 75 = mi 75) (h4 : mr' 74 = mr 74) : GR i' r' u' mi' mr' := by
  subst hi
  subst hr
  subst hu
  unfold GR at h ⊢
  rw [h5, h4]
  exact h
theorem l12 : (12 : Int64).toInt = 12 := by decide
theorem i12 : (12 : Int32).toInt = 12 := by decide
theorem trail_ok {i mi : Nat → Int32} {r mr : Nat → Nat → Int32} {u : Nat → Nat} {ml : Nat → Nat → Int64} (h : GR i r u mi mr) (x1 x2 : Int32) : (∃ q m, f_X11_trail i r u x1 x2 = some q ∧ f_X13_trail mi mr ml x1 x2 = some m ∧ q.1 = m.1 ∧ GR q.2.1 q.2.2 u m.2.1 m.2.2) ∨ (∃ q m, (¬ x1 < 1) ∧ (¬ 12 < x1) ∧ (¬ x2 < 1) ∧ (x2 ≤ 12) ∧ (Int32.ofNat (u 0) = 0) ∧ f_X10_fewestMoves_35 (fun _ => 4096) i (fun _ _ => 0) x1 x2 = some q ∧ f_X13_trail mi mr ml x1 x2 = some m ∧ q.1 = m.1 ∧ GR q.2.1 q.2.2 (fun _ => 4096) m.2.1 m.2.2) := by
  rw [f_X11_trail, f_X13_trail]
  simp only [f_in, bd_some, i2l_toInt, l1, l12, lt32, le32, i1, i12]
  by_cases c1 : 1 ≤ x1.toInt ∧ x1.toInt ≤ 12
  · rw [if_neg (show ¬ x1.toInt < 1 by omega), if_neg (show ¬ 12 < x1.toInt by omega), if_pos c1, if_neg n10]
    by_cases c2 : 1 ≤ x2.toInt ∧ x2.toInt ≤ 12
    · rw [if_neg (show ¬ x2.toInt < 1 by omega), if_pos (show x2.toInt ≤ 12 by omega), if_pos c2, if_neg n10]
      obtain ⟨n, _, e1, e2⟩ := nI_ofI (x := x1) (by omega)
      obtain ⟨k, _, e3, e4⟩ := nI_ofI (x := x2) (by omega)
      obtain ⟨T, hT, h3, h75, hc⟩ := h
      subst e1
      subst e3
      rcases hc with ⟨u0, u1, u2, hm⟩ | ⟨u0, hT0⟩
      · obtain ⟨q, m, a, b, c, d⟩ := few_ok (i := i) (mi := mi) (r := r) (mr := mr) (ml := ml) u0 u1 u2 (n := n) (k := k) (by omega) (by omega) (by omega) (by omega)
        refine Or.inl ⟨q, m, ?_, b, c, ?_⟩
        · have n0 : ¬ Int32.ofNat (u 0) = 0 := by rw [u0]; decide
          rw [f_X10_fewestMoves, if_neg n0, a, bd_some]
        · rcases d with ⟨d1, d2, d3, d4⟩ | ⟨T', d1, d2, d3, d4⟩
          · exact ⟨T, hT, by rw [d1]; exact h3, by rw [d3]; exact h75, Or.inl ⟨u0, u1, u2, fun j hj => by rw [d2, d4]; exact hm j hj⟩⟩
          · exact ⟨T', d1, d2, d3, Or.inl ⟨u0, u1, u2, d4⟩⟩
      · obtain ⟨q, m, a, b, c, d⟩ := few_ok (i := i) (mi := mi) (r := fun _ _ => 0) (mr := mr) (u := fun _ => 4096) (ml := ml) rfl rfl rfl (n := n) (k := k) (by omega) (by omega) (by omega) (by omega)
        refine Or.inr ⟨q, m, by omega, by omega, by omega, by omega, by rw [u0]; rfl, a, b, c, ?_⟩
        rcases d with ⟨d1, d2, d3, d4⟩ | ⟨T', d1, d2, d3, d4⟩
        · exact ⟨T, hT, by rw [d1]; exact h3, by rw [d3]; exact h75, Or.inl ⟨rfl, rfl, rfl, fun j hj => by omega⟩⟩
        · exact ⟨T', d1, d2, d3, Or.inl ⟨rfl, rfl, rfl, d4⟩⟩
    · refine Or.inl ⟨(-2, i, r), (-2, mi, mr), ?_, by rw [if_neg c2, if_pos rfl], rfl, h⟩
      by_cases q : x2.toInt < 1
      · rw [if_pos q]
      · rw [if_neg q, if_neg (by omega)]
  · refine Or.inl ⟨(-2, i, r), (-2, mi, mr), ?_, by rw [if_neg c1, if_pos rfl], rfl, h⟩
    by_cases q : x1.toInt < 1
    · rw [if_pos q]
    · rw [if_neg q, if_pos (show 12 < x1.toInt by omega)]
theorem move_ok {i mi : Nat → Int32} {r mr : Nat → Nat → Int32} {u : Nat → Nat} {ml : Nat → Nat → Int64} (h : GR i r u mi mr) (x1 : Int32) : ∃ q m, f_X11_move i r u x1 = some q ∧ f_X13_move mi mr ml x1 = some m ∧ q = m := by
  obtain ⟨T, hT, h3, h75, hc⟩ := h
  have e75 : ((nI T).toInt64 - 1).toInt = (T : Int) - 1 := by
    by_cases e : T = 0
    · subst e
      decide
    · rw [nI_l (by omega), show (1 : Int64) = lN 1 from rfl, lN_sub (by omega), pk_lT (by omega)]
      omega
  rw [f_X11_move, f_X10_moveAt, f_X13_move, h3, h75, f_in, bd_some, i2l_toInt, z64, e75]
  simp only [lt32, z32, nI_toInt (show T < 2 ^ 31 by omega)]
  by_cases hq : 0 ≤ x1.toInt ∧ x1.toInt < T
  · obtain ⟨j, _, e1, e2⟩ := nI_ofI hq.1
    rcases hc with ⟨u0, u1, u2, hm⟩ | ⟨u0, hT0⟩
    · subst e1
      rw [if_neg (by omega), if_pos hq.2, u2, ck_t (inb_nI (by omega) (by omega)), nI_clamp (n := j) (by omega), bd_some, if_pos (show 0 ≤ (nI j).toInt ∧ (nI j).toInt ≤ (T : Int) - 1 by omega), if_neg n10, ck_t (inb_nI (by omega) (by omega))]
      exact ⟨_, _, rfl, rfl, hm j (by omega)⟩
    · omega
  · rw [if_neg (show ¬ (0 ≤ x1.toInt ∧ x1.toInt ≤ (T : Int) - 1) by omega), if_pos rfl]
    refine ⟨-1, -1, ?_, rfl, rfl⟩
    by_cases q : x1.toInt < 0
    · rw [if_pos q, bd_some]
    · rw [if_neg q, if_neg (by omega), bd_some]

/-! ===== TOKENS: the class's scan ===== -/
def BC (b : Nat → Nat) (N : Nat) (f : Nat → Int32) : Prop := ∀ k, k < N → b k < 256 ∧ f k = nI (b k)
def BM (b : Nat → Nat) (N : Nat) (g : Nat → Int32) : Prop := ∀ k, k < N → b k < 256 ∧ g k = s8 (b k)
theorem BR.bytes {n : Nat} {f g : Nat → Int32} (h : BR n f g) : ∃ b : Nat → Nat, BC b n f ∧ BM b n g := by
  refine ⟨fun k => (f k).toNatClampNeg, fun k hk => ?_, fun k hk => ?_⟩
  · obtain ⟨c, h1, h2, h3⟩ := h k hk
    show (f k).toNatClampNeg < 256 ∧ f k = nI ((f k).toNatClampNeg)
    rw [h2, nI_clamp (by omega)]
    exact ⟨h1, rfl⟩
  · obtain ⟨c, h1, h2, h3⟩ := h k hk
    show (f k).toNatClampNeg < 256 ∧ g k = s8 ((f k).toNatClampNeg)
    rw [h2, nI_clamp (by omega)]
    exact ⟨h1, h3⟩
theorem BRof {n : Nat} {b : Nat → Nat} {f g : Nat → Int32} (h : BC b n f) (h2 : BM b n g) : BR n f g := fun k hk => ⟨b k, (h k hk).1, (h k hk).2, (h2 k hk).2⟩
theorem lgc_eq {x y : Int64} : (lg_cmp x y = 0) ↔ x = y := by
  unfold lg_cmp
  by_cases h1 : x > y
  · rw [if_pos h1]
    constructor
    · intro h; exact absurd h (by decide)
    · intro h
      subst h
      rw [gt_iff_lt, Int64.lt_iff_toInt_lt] at h1
      omega
  · rw [if_neg h1]
    by_cases h2 : x = y
    · rw [if_pos h2]
      exact ⟨fun _ => h2, fun _ => rfl⟩
    · rw [if_neg h2]
      constructor
      · intro h; exact absurd h (by decide)
      · intro h; exact absurd h h2
theorem at54 {m : Nat} (hm : m < 901) {c : Int64} {i : Nat → Int32} {l : Nat → Nat → Int64} (h6 : i 6 = nI m) : ∀ (d k n : Nat) (r : Nat → Nat → Int32), k + d = 19 → d < n → ∃ r', f_X9_addToken_54 n i l r 1 c (nI k) = some (upd i 6 (nI (m + 1)), l, r') ∧ (∀ s, s ≠ 2 → r' s = r s) ∧ (∀ j, j ≠ m → r' 2 j = r 2 j) ∧ r' 2 m = kyG c d k (r 2 m) := by
  intro d
  induction d with
  | zero =>
    intro k n r hk hn
    obtain ⟨n, rfl⟩ : ∃ m, n = m + 1 := ⟨n - 1, by omega⟩
    refine ⟨r, ?_, fun _ _ => rfl, fun _ _ => rfl, rfl⟩
    rw [f_X9_addToken_54, if_pos (show (19 : Int32) ≤ nI k from nI_le (a := 19) (by omega) (by omega)), h6, nI_1]
  | succ d ih =>
    intro k n r hk hn
    obtain ⟨n, rfl⟩ : ∃ m, n = m + 1 := ⟨n - 1, by omega⟩
    rw [f_X9_addToken_54, if_neg (show ¬ (19 : Int32) ≤ nI k from nI_ge (b := 19) (by omega) (by omega)), if_pos rfl, ck_t (inb_nI (by omega) (by omega)), nI_clamp (by omega)]
    by_cases hc : zWords.getD k 0 = c
    · rw [if_pos (lgc_eq.mpr hc), h6, ck_t (inb_nI hm (by omega)), nI_clamp (by omega), f_X9_addToken_90, nI_1]
      obtain ⟨r', a1, a2, a3, a4⟩ := ih (k + 1) n (va_up r 2 (upd (r 2) m (nI k))) (by omega) (by omega)
      refine ⟨r', a1, fun s hs => ?_, fun j hj => ?_, ?_⟩
      · rw [a2 s hs, up_n hs]
      · rw [a3 j hj, up_s, pk_un hj]
      · rw [a4, up_s, pk_us, kyG, if_pos hc]
    · rw [if_neg (fun q => hc (lgc_eq.mp q)), f_X9_addToken_90, nI_1]
      obtain ⟨r', a1, a2, a3, a4⟩ := ih (k + 1) n r (by omega) (by omega)
      refine ⟨r', a1, a2, a3, ?_⟩
      rw [a4, kyG, if_neg hc]
theorem addToken_ok {i : Nat → Int32} {l : Nat → Nat → Int64} {r : Nat → Nat → Int32} {m : Nat} {x1 x2 : Int32} {x3 : Int64} (hm : m < 901) (h6 : i 6 = nI m) : ∃ l' r', f_X9_addToken i r l x1 x2 x3 = some (upd i 6 (nI (m + 1)), l', r') ∧ r' 0 = r 0 ∧ r' 1 = upd (r 1) m x1 ∧ r' 3 = upd (r 3) m x2 ∧ l' 4 = vp_updL (l 4) m x3 ∧ (∀ j, j ≠ m → r' 2 j = r 2 j) ∧ r' 2 m = (if x1 = 1 then kyG x3 19 0 (-1) else -1) := by
  have hin := inb_nI hm (N := 901) (by omega)
  have hcl : (nI m).toNatClampNeg = m := nI_clamp (by omega)
  rw [f_X9_addToken, h6, if_pos (show nI m < (901 : Int32) from nI_lt (b := 901) hm (by omega)), ck_t hin, ck_t hin, f_X9_addToken_31, h6, ck_t hin, ck_t hin, hcl, f_X9_addToken_51]
  by_cases hx : x1 = 1
  · subst hx
    obtain ⟨r', a1, a2, a3, a4⟩ := at54 hm (c := x3) (l := va_up l 4 (vp_updL (l 4) m x3)) h6 19 0 2000000 (va_up (va_up (va_up r 1 (upd (r 1) m 1)) 2 (upd (r 2) m (-1))) 3 (upd ((va_up (va_up r 1 (upd (r 1) m 1)) 2 (upd (r 2) m (-1))) 3) m x2)) (by omega) (by omega)
    refine ⟨_, r', a1, ?_, ?_, ?_, up_s, fun j hj => ?_, ?_⟩
    · rw [a2 0 (by omega), up_n (by omega), up_n (by omega), up_n (by omega)]
    · rw [a2 1 (by omega), up_n (by omega), up_n (by omega), up_s]
    · rw [a2 3 (by omega), up_s, up_n (by omega), up_n (by omega)]
    · rw [a3 j hj, up_n (by omega), up_s, pk_un hj]
    · rw [a4, up_n (by omega), up_s, pk_us, if_pos rfl]
  · refine ⟨va_up l 4 (vp_updL (l 4) m x3), va_up (va_up (va_up r 1 (upd (r 1) m x1)) 2 (upd (r 2) m (-1))) 3 (upd ((va_up (va_up r 1 (upd (r 1) m x1)) 2 (upd (r 2) m (-1))) 3) m x2), ?_, ?_, ?_, ?_, up_s, fun j hj => ?_, ?_⟩
    · rw [show (2000000 : Nat) = 1999999 + 1 from rfl, f_X9_addToken_54, if_neg (show ¬ (19 : Int32) ≤ 0 by decide), if_neg hx, h6, nI_1]
    · rw [up_n (by omega), up_n (by omega), up_n (by omega)]
    · rw [up_n (by omega), up_n (by omega), up_s]
    · rw [up_s, up_n (by omega), up_n (by omega)]
    · rw [up_n (by omega), up_s, pk_un hj]
    · rw [up_n (by omega), up_s, pk_us, if_neg hx]
theorem sub_self_add {a b : Nat} (h : a + 1 ≤ b) : b - a = (b - (a + 1)) + 1 := by omega
theorem sw_go {b : Nat → Nat} {N : Nat} {i : Nat → Int32} {l : Nat → Nat → Int64} {r : Nat → Nat → Int32} {f : Int32} (hN : N ≤ 900) (h5 : i 5 = nI N) (hb : BC b N (r 0)) : ∀ (d p n : Nat) (x : Int64), p + d = N → d < n → f_X9_scanWord_5 n i l r f x (nI p) = f_X9_scanWord_47 i l r f (wq b (rn smL b N p - p) p x) (nI (rn smL b N p)) := by
  intro d
  induction d with
  | zero =>
    intro p n x hp hn
    obtain ⟨n, rfl⟩ : ∃ m, n = m + 1 := ⟨n - 1, by omega⟩
    rw [f_X9_scanWord_5, h5, if_pos (nI_le (by omega) (by omega)), rn_end0 (by omega), Nat.sub_self]
    rfl
  | succ d ih =>
    intro p n x hp hn
    obtain ⟨n, rfl⟩ : ∃ m, n = m + 1 := ⟨n - 1, by omega⟩
    obtain ⟨c1, c2⟩ := hb p (by omega)
    have hin := inb_nI (n := p) (N := 900) (by omega) (by omega)
    rw [f_X9_scanWord_5, h5, if_neg (nI_ge (by omega) (by omega)), ck_t hin, nI_clamp (by omega), c2, tk_sm9 _ c1, bd_some]
    by_cases hs : smL (b p) = true
    · have hg := rn_ge smL b N (p + 1)
      rw [if_pos hs, if_neg n10, ck_t hin, nI_1, ih (p + 1) n _ (by omega) (by omega), rn_go (by omega) hs, sub_self_add (by omega : p + 1 ≤ rn smL b N (p + 1))]
      rfl
    · have hs2 : smL (b p) = false := by cases h : smL (b p) with
        | true => exact absurd h hs
        | false => rfl
      rw [if_neg hs, if_pos rfl, rn_stop hs2, Nat.sub_self]
      rfl
theorem sn_go {b : Nat → Nat} {N : Nat} {i : Nat → Int32} {l : Nat → Nat → Int64} {r : Nat → Nat → Int32} {f : Int32} (hN : N ≤ 900) (h5 : i 5 = nI N) (hb : BC b N (r 0)) : ∀ (d p n : Nat) (x : Int64), p + d = N → d < n → f_X9_scanNumber_5 n i l r f x (nI p) = f_X9_scanNumber_52 i l r f (nq b (rn dg b N p - p) p x) (nI (rn dg b N p)) := by
  intro d
  induction d with
  | zero =>
    intro p n x hp hn
    obtain ⟨n, rfl⟩ : ∃ m, n = m + 1 := ⟨n - 1, by omega⟩
    rw [f_X9_scanNumber_5, h5, if_pos (nI_le (by omega) (by omega)), rn_end0 (by omega), Nat.sub_self]
    rfl
  | succ d ih =>
    intro p n x hp hn
    obtain ⟨n, rfl⟩ : ∃ m, n = m + 1 := ⟨n - 1, by omega⟩
    obtain ⟨c1, c2⟩ := hb p (by omega)
    have hin := inb_nI (n := p) (N := 900) (by omega) (by omega)
    rw [f_X9_scanNumber_5, h5, if_neg (nI_ge (by omega) (by omega)), ck_t hin, nI_clamp (by omega), c2, tk_dg9 _ c1, bd_some]
    by_cases hs : dg (b p) = true
    · have hg := rn_ge dg b N (p + 1)
      rw [if_pos hs, if_neg n10, ck_t hin, nI_1, ih (p + 1) n _ (by omega) (by omega), rn_go (by omega) hs, sub_self_add (by omega : p + 1 ≤ rn dg b N (p + 1))]
      rfl
    · have hs2 : dg (b p) = false := by cases h : dg (b p) with
        | true => exact absurd h hs
        | false => rfl
      rw [if_neg hs, if_pos rfl, rn_stop hs2, Nat.sub_self]
      rfl
def kyC (b : Nat → Nat) (N : Nat) (t : Nat × Nat) : Int32 := if tkK b N t = 1 then kyT (tx b t) else -1
def TKr (b : Nat → Nat) (N : Nat) (r : Nat → Nat → Int32) (l : Nat → Nat → Int64) (k : Nat) : Prop := r 1 k = kC b N (tok b N k) ∧ r 2 k = kyC b N (tok b N k) ∧ r 3 k = nI (tok b N k).1 ∧ (tkK b N (tok b N k) = 1 → l 4 k = lN (encL (tx b (tok b N k)) 0)) ∧ (tkK b N (tok b N k) = 2 → l 4 k = lN (valL (tx b (tok b N k)) 0))
def CSm (b : Nat → Nat) (N m p : Nat) (i : Nat → Int32) (r : Nat → Nat → Int32) (l : Nat → Nat → Int64) : Prop := i 5 = nI N ∧ i 6 = nI m ∧ m ≤ p ∧ p ≤ N ∧ rn spc b N p = (tok b N m).1 ∧ BC b N (r 0) ∧ ∀ k, k < m → TKr b N r l k ∧ (tok b N k).1 < N
def CS (b : Nat → Nat) (N M : Nat) (i : Nat → Int32) (r : Nat → Nat → Int32) (l : Nat → Nat → Int64) : Prop := i 6 = nI (M + 1) ∧ M ≤ 900 ∧ (tok b N M).1 = N ∧ (∀ k, k ≤ M → TKr b N r l k) ∧ ∀ k, k < M → (tok b N k).1 < N
theorem bF {q : Bool} (h : ¬ q = true) : q = false := by
  cases q with
  | true => exact absurd rfl h
  | false => rfl
theorem kC_eq1 {b : Nat → Nat} {N : Nat} {t : Nat × Nat} : kC b N t = 1 ↔ tkK b N t = 1 := by
  unfold kC
  by_cases h4 : tkK b N t = 4
  · rw [if_pos h4, h4]
    exact ⟨fun h => absurd h (by decide), fun h => absurd h (by decide)⟩
  · rw [if_neg h4]
    by_cases h3 : tkK b N t = 3
    · rw [if_pos h3, h3]
      refine ⟨fun h => ?_, fun h => absurd h (by decide)⟩
      exfalso
      unfold tkK at h3
      by_cases c1 : N ≤ t.1
      · rw [if_pos c1] at h3; omega
      · rw [if_neg c1] at h3
        by_cases c2 : smL (b t.1) = true
        · rw [if_pos c2] at h3; split at h3 <;> omega
        · rw [if_neg c2] at h3
          by_cases c3 : dg (b t.1) = true
          · rw [if_pos c3] at h3; split at h3 <;> omega
          · rw [if_neg c3] at h3
            by_cases c4 : sg (b t.1) = true
            · have hs := of_decide_eq_true c4
              have := nI_inj (a := b t.1) (b := 1) (by omega) (by omega) h
              omega
            · rw [if_neg c4] at h3; omega
    · rw [if_neg h3]
      have hk : tkK b N t < 5 := by
        unfold tkK
        repeat' split
        all_goals omega
      exact ⟨fun h => nI_inj (b := 1) (by omega) (by omega) h, fun h => by rw [h]; rfl⟩
theorem tk_at {b : Nat → Nat} {N m p : Nat} (h : rn spc b N p = (tok b N m).1) (hs : rn spc b N p = p) : tok b N m = (p, ep b N p) := by
  have h1 : (tok b N m).1 = p := h.symm.trans hs
  have h2 : (tok b N m).2 = ep b N (tok b N m).1 := rfl
  rw [h1] at h2
  exact Prod.ext h1 h2
/-- one TOKEN more -/
theorem scan_put {b : Nat → Nat} {N m p : Nat} {i : Nat → Int32} {r : Nat → Nat → Int32} {l : Nat → Nat → Int64} (hN : N ≤ 900) (h : CSm b N m p i r l) (hs : rn spc b N p = p) {x1 : Int32} {x3 : Int64} (hx1 : x1 = kC b N (p, ep b N p)) (h1 : tkK b N (p, ep b N p) = 1 → x3 = lN (encL (tx b (p, ep b N p)) 0) ∧ kyG x3 19 0 (-1) = kyT (tx b (p, ep b N p))) (h2 : tkK b N (p, ep b N p) = 2 → x3 = lN (valL (tx b (p, ep b N p)) 0)) : ∃ i' l' r', f_X9_addToken i r l x1 (nI p) x3 = some (i', l', r') ∧ (∀ k, k ≠ 6 → i' k = i k) ∧ i' 6 = nI (m + 1) ∧ r' 0 = r 0 ∧ ∀ k, k < m + 1 → TKr b N r' l' k := by
  obtain ⟨c1, c2, c3, c4, c5, c6, c7⟩ := h
  have ht := tk_at c5 hs
  obtain ⟨l', r', a1, a2, a3, a4, a5, a6, a7⟩ := addToken_ok (l := l) (r := r) (x1 := x1) (x2 := nI p) (x3 := x3) (show m < 901 by omega) c2
  refine ⟨_, l', r', a1, fun k hk => pk_un hk, pk_us, a2, fun k hk => ?_⟩
  by_cases e : k = m
  · subst e
    refine ⟨?_, ?_, ?_, fun hk1 => ?_, fun hk2 => ?_⟩
    · rw [a3, pk_us, hx1, ht]
    · rw [a7, kyC, ht]
      by_cases hk1 : tkK b N (p, ep b N p) = 1
      · rw [if_pos hk1, if_pos (by rw [hx1]; exact kC_eq1.mpr hk1), (h1 hk1).2]
      · rw [if_neg hk1, if_neg (by rw [hx1]; exact fun q => hk1 (kC_eq1.mp q))]
    · rw [a4, pk_us, ht]
    · rw [ht] at hk1 ⊢
      rw [a5, pk_uLs, (h1 hk1).1]
    · rw [ht] at hk2 ⊢
      rw [a5, pk_uLs, h2 hk2]
  · obtain ⟨d1, d2, d3, d4, d5⟩ := (c7 k (by omega)).1
    refine ⟨?_, ?_, ?_, fun hk1 => ?_, fun hk2 => ?_⟩
    · rw [a3, pk_un e, d1]
    · rw [a6 k e, d2]
    · rw [a4, pk_un e, d3]
    · rw [a5, pk_uLn e, d4 hk1]
    · rw [a5, pk_uLn e, d5 hk2]
theorem scan_next {b : Nat → Nat} {N m p : Nat} {i i' : Nat → Int32} {r r' : Nat → Nat → Int32} {l l' : Nat → Nat → Int64} (h : CSm b N m p i r l) (hp : p < N) (hs : rn spc b N p = p) (f1 : ∀ k, k ≠ 6 → i' k = i k) (f2 : i' 6 = nI (m + 1)) (f3 : r' 0 = r 0) (f4 : ∀ k, k < m + 1 → TKr b N r' l' k) : CSm b N (m + 1) (ep b N p) i' r' l' := by
  obtain ⟨c1, c2, c3, c4, c5, c6, c7⟩ := h
  have ht := tk_at c5 hs
  have hg := ep_gt (b := b) hp
  refine ⟨by rw [f1 5 (by omega), c1], f2, by omega, hg.2, ?_, by rw [f3]; exact c6, fun k hk => ⟨f4 k hk, ?_⟩⟩
  · show rn spc b N (ep b N p) = rn spc b N (tok b N m).2
    rw [ht]
  · by_cases e : k = m
    · rw [e, ht]
      exact hp
    · exact (c7 k (by omega)).2
theorem tx_sm {b : Nat → Nat} {N p : Nat} (hb : ∀ k, k < N → b k < 256) (hp : p < N) : ∀ c ∈ txL b (rn smL b N p - p) p, 1 ≤ c ∧ c < 256 := by
  intro c hc
  obtain ⟨k, h1, h2, h3⟩ := txL_mem _ _ _ hc
  have h4 := of_decide_eq_true (rn_all (q := smL) (b := b) (N := N) h1 (by have := rn_ge smL b N p; omega))
  have h5 : rn smL b N p ≤ N := rn_le (by omega)
  have h6 := hb k (by omega)
  rw [h3]
  omega
theorem scan_end {N p c n : Nat} {i : Nat → Int32} {l : Nat → Nat → Int64} {r : Nat → Nat → Int32} (h5 : i 5 = nI N) (hp : N ≤ p) (hp2 : p < 2 ^ 31) (hc : c < 2 ^ 31) : f_X9_scan_9 (n + 1) i l r (nI p) (nI c) = f_X9_scan_108 i l r := by
  rw [f_X9_scan_9]
  by_cases h9 : 900 ≤ c
  · rw [if_pos (show (900 : Int32) ≤ nI c from nI_le (a := 900) h9 hc)]
  · rw [if_neg (show ¬ (900 : Int32) ≤ nI c from nI_ge (b := 900) (by omega) (by omega)), h5, if_pos (nI_le hp hp2)]
theorem scan_go {b : Nat → Nat} {N : Nat} (hN : N ≤ 900) : ∀ (d p n m c : Nat) (i : Nat → Int32) (l : Nat → Nat → Int64) (r : Nat → Nat → Int32), N ≤ p + d → d < n → c ≤ p → CSm b N m p i r l → ∃ M i' l' r', f_X9_scan_9 n i l r (nI p) (nI c) = some (i', l', r') ∧ CS b N M i' r' l' ∧ (∀ k, k ≠ 6 → i' k = i k) ∧ r' 0 = r 0 := by
  intro d
  induction d with
  | zero =>
    intro p n m c i l r hd hn hcp h
    obtain ⟨n, rfl⟩ : ∃ m, n = m + 1 := ⟨n - 1, by omega⟩
    obtain ⟨c1, c2, c3, c4, c5, c6, c7⟩ := id h
    have hpN : p = N := by omega
    have hs : rn spc b N p = p := rn_end0 (by omega)
    have hk0 : tkK b N (p, ep b N p) = 0 := by rw [tkK, if_pos (by show N ≤ p; omega)]
    obtain ⟨i', l', r', a1, a2, a3, a4, a5⟩ := scan_put (x1 := 0) (x3 := 0) hN h hs (by rw [kC, hk0]; rfl) (fun q => by omega) (fun q => by omega)
    refine ⟨m, i', l', r', ?_, ⟨a3, by omega, ?_, fun k hk => a5 k (by omega), fun k hk => (c7 k hk).2⟩, a2, a4⟩
    · rw [scan_end c1 (by omega) (by omega) (by omega), f_X9_scan_108, c1, ← hpN, a1]
      rfl
    · rw [tk_at c5 hs]
      exact hpN
  | succ d ih =>
    intro p n m c i l r hd hn hcp h
    by_cases hpN : p = N
    · obtain ⟨n, rfl⟩ : ∃ m, n = m + 1 := ⟨n - 1, by omega⟩
      obtain ⟨c1, c2, c3, c4, c5, c6, c7⟩ := id h
      have hs : rn spc b N p = p := rn_end0 (by omega)
      have hk0 : tkK b N (p, ep b N p) = 0 := by rw [tkK, if_pos (by show N ≤ p; omega)]
      obtain ⟨i', l', r', a1, a2, a3, a4, a5⟩ := scan_put (x1 := 0) (x3 := 0) hN h hs (by rw [kC, hk0]; rfl) (fun q => by omega) (fun q => by omega)
      refine ⟨m, i', l', r', ?_, ⟨a3, by omega, ?_, fun k hk => a5 k (by omega), fun k hk => (c7 k hk).2⟩, a2, a4⟩
      · rw [scan_end c1 (by omega) (by omega) (by omega), f_X9_scan_108, c1, ← hpN, a1]
        rfl
      · rw [tk_at c5 hs]
        exact hpN
    · obtain ⟨n, rfl⟩ : ∃ m, n = m + 1 := ⟨n - 1, by omega⟩
      obtain ⟨c1, c2, c3, c4, c5, c6, c7⟩ := id h
      have hp : p < N := by omega
      obtain ⟨e1, e2⟩ := c6 p hp
      have hb : ∀ k, k < N → b k < 256 := fun k hk => (c6 k hk).1
      rw [f_X9_scan_9, if_neg (show ¬ (900 : Int32) ≤ nI c from nI_ge (b := 900) (by omega) (by omega)), c1, if_neg (nI_ge (by omega) (by omega)), ck_t (inb_nI (by omega) (by omega)), nI_clamp (by omega), e2]
      by_cases hsp : spc (b p) = true
      · have hgo : CSm b N m (p + 1) i r l := ⟨c1, c2, by omega, by omega, by rw [← rn_go hp hsp]; exact c5, c6, c7⟩
        obtain ⟨M, i', l', r', a⟩ := ih (p + 1) n m (c + 1) i l r (by omega) (by omega) (by omega) hgo
        refine ⟨M, i', l', r', ?_, a.2⟩
        rcases of_decide_eq_true hsp with h32 | h10
        · rw [if_pos (by rw [h32]; rfl), f_X9_scan_43, f_X9_scan_102, nI_1, nI_1]
          exact a.1
        · rw [if_neg (by rw [h10]; decide), if_pos (by rw [h10]; rfl), f_X9_scan_43, f_X9_scan_102, nI_1, nI_1]
          exact a.1
      · have hsp2 := bF hsp
        have hs : rn spc b N p = p := rn_stop hsp2
        have hnsp := of_decide_eq_false hsp2
        rw [if_neg (show ¬ nI (b p) = 32 from fun q => hnsp (Or.inl (nI_inj (b := 32) (by omega) (by omega) q))), if_neg (show ¬ nI (b p) = 10 from fun q => hnsp (Or.inr (nI_inj (b := 10) (by omega) (by omega) q))), tk_sm9 _ e1, bd_some]
        by_cases hsm : smL (b p) = true
        · have hep : ep b N p = rn smL b N p := by rw [ep, if_neg (by omega), if_pos hsm]
          have hge := rn_ge smL b N p
          have hle : rn smL b N p ≤ N := rn_le (by omega)
          have hk : tkK b N (p, ep b N p) = if rn smL b N p - p ≤ 8 then 1 else 4 := by
            rw [tkK, if_neg (by show ¬ N ≤ p; omega), if_pos hsm, hep]
          have hW : rn smL b N p - p ≤ 8 → wq b (rn smL b N p - p) p 0 = lN (encL (tx b (p, ep b N p)) 0) ∧ encL (tx b (p, ep b N p)) 0 < 2 ^ 63 := fun q => by
            have w := wq_ok (b := b) (rn smL b N p - p) p 0 0 (fun k k1 k2 => hb k (by omega)) (by omega) (by decide)
            rw [tx, hep]
            refine ⟨w.1, ?_⟩
            rcases Nat.lt_or_ge (rn smL b N p - p) 8 with q8 | q8
            · have := Nat.pow_le_pow_right (n := 2) (by omega) (show 8 * (0 + (rn smL b N p - p)) ≤ 63 by omega)
              exact Nat.lt_of_lt_of_le w.2 this
            · obtain ⟨dd, hdd⟩ : ∃ dd, rn smL b N p - p = dd + 1 := ⟨rn smL b N p - p - 1, by omega⟩
              have hc := of_decide_eq_true hsm
              have w7 := wq_ok (b := b) dd (p + 1) 1 (b p) (fun k k1 k2 => hb k (by omega)) (by omega) (by omega)
              show encL (txL b (rn smL b N p - p) p) 0 < 2 ^ 63
              rw [hdd]
              show encL (txL b dd (p + 1)) (0 * 256 + b p) < 2 ^ 63
              rw [Nat.zero_mul, Nat.zero_add]
              have w8 : ∀ (d p m x : Nat), (∀ k, p ≤ k → k < p + d → b k < 256) → m + d ≤ 8 → x < 123 * 2 ^ (8 * m) → encL (txL b d p) x < 123 * 2 ^ (8 * (m + d)) := by
                intro d
                induction d with
                | zero => intro p m x _ _ hx; exact hx
                | succ d ihd =>
                  intro p m x hbb hm hx
                  have hc := hbb p (Nat.le_refl _) (by omega)
                  have e8 : 2 ^ (8 * (m + 1)) = 2 ^ (8 * m) * 256 := by rw [show 8 * (m + 1) = 8 * m + 8 by omega, Nat.pow_add]
                  have := ihd (p + 1) (m + 1) (x * 256 + b p) (fun k k1 k2 => hbb k (by omega) (by omega)) (by omega) (by rw [e8]; omega)
                  rw [show m + (d + 1) = m + 1 + d by omega]
                  exact this
              have := w8 dd (p + 1) 0 (b p) (fun k k1 k2 => hb k (by omega)) (by omega) (by omega)
              rw [show dd = 7 by omega] at this ⊢
              have h9 : 123 * 2 ^ (8 * (0 + 7)) < 2 ^ 63 := by decide
              omega
          obtain ⟨i', l', r', a1, a2, a3, a4, a5⟩ := scan_put (x1 := if rn smL b N p - p ≤ 8 then 1 else 3) (x3 := wq b (rn smL b N p - p) p 0) hN h hs (by
            rw [kC, hk]
            by_cases q : rn smL b N p - p ≤ 8
            · rw [if_pos q, if_pos q]; rfl
            · rw [if_neg q, if_neg q]; rfl) (fun q => by
            rw [hk] at q
            have q8 : rn smL b N p - p ≤ 8 := by
              refine Classical.byContradiction fun q9 => ?_
              rw [if_neg q9] at q
              omega
            refine ⟨(hW q8).1, ?_⟩
            rw [(hW q8).1]
            exact kyG_L (by rw [tx, hep]; exact tx_sm hb hp) (hW q8).2 19 0 (-1) (by omega)) (fun q => by
            rw [hk] at q
            split at q <;> omega)
          obtain ⟨M, i2, l2, r2, z1, z2, z3, z4⟩ := ih (ep b N p) n (m + 1) (c + 1) i' l' r' (by have := (ep_gt (b := b) hp).1; omega) (by omega) (by have := (ep_gt (b := b) hp).1; omega) (scan_next h hp hs a2 a3 a4 a5)
          refine ⟨M, i2, l2, r2, ?_, z2, fun k hk => (z3 k hk).trans (a2 k hk), z4.trans a4⟩
          rw [if_pos hsm, if_neg n10, f_X9_scanWord, sw_go hN c1 c6 (N - p) p 2000000 0 (by omega) (by omega), f_X9_scanWord_47, pk_sub hge]
          rw [hep] at z1
          by_cases q : rn smL b N p - p ≤ 8
          · rw [if_pos q] at a1
            rw [if_pos (show nI (rn smL b N p - p) ≤ (8 : Int32) from nI_le (b := 8) q (by omega)), f_X9_scanWord_62, a1, bd_some, bd_some, f_X9_scan_102, nI_1]
            exact z1
          · rw [if_neg q] at a1
            rw [if_neg (show ¬ nI (rn smL b N p - p) ≤ (8 : Int32) from nI_ge (a := 8) (by omega) (by omega)), f_X9_scanWord_62, a1, bd_some, bd_some, f_X9_scan_102, nI_1]
            exact z1
        · rw [if_neg hsm, if_pos rfl, tk_dg9 _ e1, bd_some]
          by_cases hdg : dg (b p) = true
          · have hep : ep b N p = rn dg b N p := by rw [ep, if_neg (by omega), if_neg hsm, if_pos hdg]
            have hge := rn_ge dg b N p
            have hle : rn dg b N p ≤ N := rn_le (by omega)
            have hk : tkK b N (p, ep b N p) = if rn dg b N p - p ≤ 4 then 2 else 4 := by
              rw [tkK, if_neg (by show ¬ N ≤ p; omega), if_neg hsm, if_pos hdg, hep]
            obtain ⟨i', l', r', a1, a2, a3, a4, a5⟩ := scan_put (x1 := if rn dg b N p - p ≤ 4 then 2 else 3) (x3 := nq b (rn dg b N p - p) p 0) hN h hs (by
              rw [kC, hk]
              by_cases q : rn dg b N p - p ≤ 4
              · rw [if_pos q, if_pos q]; rfl
              · rw [if_neg q, if_neg q]; rfl) (fun q => by
              rw [hk] at q
              split at q <;> omega) (fun q => by
              rw [hk] at q
              have q4 : rn dg b N p - p ≤ 4 := by
                refine Classical.byContradiction fun q9 => ?_
                rw [if_neg q9] at q
                omega
              rw [tx, hep]
              exact (nq_ok (b := b) (rn dg b N p - p) p 0 0 (fun k k1 k2 => rn_all (q := dg) (N := N) k1 (by omega)) (by omega) (by decide)).1)
            obtain ⟨M, i2, l2, r2, z1, z2, z3, z4⟩ := ih (ep b N p) n (m + 1) (c + 1) i' l' r' (by have := (ep_gt (b := b) hp).1; omega) (by omega) (by have := (ep_gt (b := b) hp).1; omega) (scan_next h hp hs a2 a3 a4 a5)
            refine ⟨M, i2, l2, r2, ?_, z2, fun k hk => (z3 k hk).trans (a2 k hk), z4.trans a4⟩
            rw [if_pos hdg, if_neg n10, f_X9_scanNumber, sn_go hN c1 c6 (N - p) p 2000000 0 (by omega) (by omega), f_X9_scanNumber_52, pk_sub hge]
            rw [hep] at z1
            by_cases q : rn dg b N p - p ≤ 4
            · rw [if_pos q] at a1
              rw [if_pos (show nI (rn dg b N p - p) ≤ (4 : Int32) from nI_le (b := 4) q (by omega)), f_X9_scanNumber_66, a1, bd_some, bd_some, f_X9_scan_102, nI_1]
              exact z1
            · rw [if_neg q] at a1
              rw [if_neg (show ¬ nI (rn dg b N p - p) ≤ (4 : Int32) from nI_ge (a := 4) (by omega) (by omega)), f_X9_scanNumber_66, a1, bd_some, bd_some, f_X9_scan_102, nI_1]
              exact z1
          · have hep : ep b N p = p + 1 := by rw [ep, if_neg (by omega), if_neg hsm, if_neg hdg]
            have hk : tkK b N (p, ep b N p) = if sg (b p) = true then 3 else 4 := by
              rw [tkK, if_neg (by show ¬ N ≤ p; omega), if_neg hsm, if_neg hdg]
            obtain ⟨i', l', r', a1, a2, a3, a4, a5⟩ := scan_put (x1 := if sg (b p) = true then nI (b p) else 3) (x3 := 0) hN h hs (by
              rw [kC, hk]
              by_cases q : sg (b p) = true
              · rw [if_pos q, if_pos q]; rfl
              · rw [if_neg q, if_neg q]; rfl) (fun q => by
              rw [hk] at q
              split at q <;> omega) (fun q => by
              rw [hk] at q
              split at q <;> omega)
            obtain ⟨M, i2, l2, r2, z1, z2, z3, z4⟩ := ih (ep b N p) n (m + 1) (c + 1) i' l' r' (by have := (ep_gt (b := b) hp).1; omega) (by omega) (by have := (ep_gt (b := b) hp).1; omega) (scan_next h hp hs a2 a3 a4 a5)
            refine ⟨M, i2, l2, r2, ?_, z2, fun k hk => (z3 k hk).trans (a2 k hk), z4.trans a4⟩
            rw [if_neg hdg, if_pos rfl, tk_sg9 _ e1, bd_some]
            rw [hep] at z1
            by_cases q : sg (b p) = true
            · rw [if_pos q] at a1
              rw [if_pos q, if_neg n10, f_X9_scan_94, a1, bd_some, f_X9_scan_102, nI_1, nI_1]
              exact z1
            · rw [if_neg q] at a1
              rw [if_neg q, if_pos rfl, f_X9_scan_94, a1, bd_some, f_X9_scan_102, nI_1, nI_1]
              exact z1

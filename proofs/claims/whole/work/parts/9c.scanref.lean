/-! ===== TOKENS: the reference's scan ===== -/
def TSt (b : Nat → Nat) (N : Nat) (mi : Nat → Int32) (t : Nat × Nat) : Prop := mi 3 = nI N ∧ mi 4 = nI t.1 ∧ mi 5 = nI t.2 ∧ mi 6 = nI (tkK b N t) ∧ (tkK b N t = 2 → mi 7 = nI (valL (tx b t) 0)) ∧ (tkK b N t = 3 → mi 7 = nI (b t.1))
theorem byteAt_ok {b : Nat → Nat} {N k : Nat} {mi : Nat → Int32} {mr : Nat → Nat → Int32} {ml : Nat → Nat → Int64} (hN : N ≤ 900) (h3 : mi 3 = nI N) (hb : BM b N (mr 1)) (hk : k ≤ N) : f_X13_byteAt mi mr ml (nI k) = some (nI (if k < N then b k else 0)) := by
  rw [f_X13_byteAt, h3]
  by_cases h : k < N
  · rw [if_neg (nI_ge h (by omega)), ck_t (inb_nI (by omega) (by omega)), nI_clamp (by omega), (hb k h).2, s8_and _ (hb k h).1, if_pos h]
  · rw [if_pos (nI_le (by omega) (by omega)), if_neg h]
    rfl
theorem smR0 : f_X13_isSmall (nI 0) = some 0 := by decide +kernel
theorem dgR0 : f_X13_isDigit (nI 0) = some 0 := by decide +kernel
theorem s95_go {b : Nat → Nat} {N f : Nat} {mr : Nat → Nat → Int32} {ml : Nat → Nat → Int64} (hN : N ≤ 900) (hb : BM b N (mr 1)) : ∀ (d p n : Nat) (mi : Nat → Int32), p + d = N → d < n → f ≤ p → mi 3 = nI N → mi 4 = nI f → mi 5 = nI p → ∃ mi', f_X13_scan_95 mr ml n mi = some mi' ∧ mi' 5 = nI (rn smL b N p) ∧ mi' 6 = nI (if rn smL b N p - f ≤ 8 then 1 else 4) ∧ ∀ k, k ≠ 5 → k ≠ 6 → mi' k = mi k := by
  intro d
  induction d with
  | zero =>
    intro p n mi hp hn hf h3 h4 h5
    obtain ⟨n, rfl⟩ : ∃ m, n = m + 1 := ⟨n - 1, by omega⟩
    have hr : rn smL b N p = p := rn_end0 (by omega)
    rw [f_X13_scan_95, h5, byteAt_ok hN h3 hb (by omega), bd_some, if_neg (by omega), smR0, bd_some, if_pos rfl, h4, pk_sub hf, hr]
    by_cases q : p - f ≤ 8
    · rw [if_pos (show nI (p - f) ≤ (8 : Int32) from nI_le (b := 8) q (by omega)), if_pos q]
      exact ⟨_, rfl, by rw [pk_un (by omega), h5], pk_us, fun k k1 k2 => pk_un k2⟩
    · rw [if_neg (show ¬ nI (p - f) ≤ (8 : Int32) from nI_ge (a := 8) (by omega) (by omega)), if_neg q]
      exact ⟨_, rfl, by rw [pk_un (by omega), h5], pk_us, fun k k1 k2 => pk_un k2⟩
  | succ d ih =>
    intro p n mi hp hn hf h3 h4 h5
    obtain ⟨n, rfl⟩ : ∃ m, n = m + 1 := ⟨n - 1, by omega⟩
    rw [f_X13_scan_95, h5, byteAt_ok hN h3 hb (by omega), bd_some, if_pos (by omega), tk_smR _ (hb p (by omega)).1, bd_some]
    by_cases hs : smL (b p) = true
    · rw [if_pos hs, if_neg n10, nI_1, rn_go (by omega) hs]
      obtain ⟨mi', a1, a2, a3, a4⟩ := ih (p + 1) n (upd mi 5 (nI (p + 1))) (by omega) (by omega) (by omega) (by rw [pk_un (by omega), h3]) (by rw [pk_un (by omega), h4]) pk_us
      exact ⟨mi', a1, a2, a3, fun k k1 k2 => by rw [a4 k k1 k2, pk_un k1]⟩
    · have hr : rn smL b N p = p := rn_stop (bF hs)
      rw [if_neg hs, if_pos rfl, h4, pk_sub hf, hr]
      by_cases q : p - f ≤ 8
      · rw [if_pos (show nI (p - f) ≤ (8 : Int32) from nI_le (b := 8) q (by omega)), if_pos q]
        exact ⟨_, rfl, by rw [pk_un (by omega), h5], pk_us, fun k k1 k2 => pk_un k2⟩
      · rw [if_neg (show ¬ nI (p - f) ≤ (8 : Int32) from nI_ge (a := 8) (by omega) (by omega)), if_neg q]
        exact ⟨_, rfl, by rw [pk_un (by omega), h5], pk_us, fun k k1 k2 => pk_un k2⟩
theorem s160_go {b : Nat → Nat} {N f : Nat} {mr : Nat → Nat → Int32} {ml : Nat → Nat → Int64} (hN : N ≤ 900) (hb : BM b N (mr 1)) : ∀ (d p n x : Nat) (mi : Nat → Int32), p + d = N → d < n → f ≤ p → mi 3 = nI N → mi 4 = nI f → mi 5 = nI p → (p - f ≤ 4 → mi 7 = nI x) → ∃ mi', f_X13_scan_160 mr ml n mi = some mi' ∧ mi' 5 = nI (rn dg b N p) ∧ mi' 6 = nI (if rn dg b N p - f ≤ 4 then 2 else 4) ∧ (rn dg b N p - f ≤ 4 → mi' 7 = nI (valL (txL b (rn dg b N p - p) p) x)) ∧ ∀ k, k ≠ 5 → k ≠ 6 → k ≠ 7 → mi' k = mi k := by
  intro d
  induction d with
  | zero =>
    intro p n x mi hp hn hf h3 h4 h5 h7
    obtain ⟨n, rfl⟩ : ∃ m, n = m + 1 := ⟨n - 1, by omega⟩
    have hr : rn dg b N p = p := rn_end0 (by omega)
    rw [f_X13_scan_160, h5, byteAt_ok hN h3 hb (by omega), bd_some, if_neg (by omega), dgR0, bd_some, if_pos rfl, h4, pk_sub hf, hr, Nat.sub_self]
    by_cases q : p - f ≤ 4
    · rw [if_pos (show nI (p - f) ≤ (4 : Int32) from nI_le (b := 4) q (by omega)), if_pos q]
      exact ⟨_, rfl, by rw [pk_un (by omega), h5], pk_us, fun _ => by rw [pk_un (by omega)]; exact h7 q, fun k k1 k2 k3 => pk_un k2⟩
    · rw [if_neg (show ¬ nI (p - f) ≤ (4 : Int32) from nI_ge (a := 4) (by omega) (by omega)), if_neg q]
      exact ⟨_, rfl, by rw [pk_un (by omega), h5], pk_us, fun h => absurd h q, fun k k1 k2 k3 => pk_un k2⟩
  | succ d ih =>
    intro p n x mi hp hn hf h3 h4 h5 h7
    obtain ⟨n, rfl⟩ : ∃ m, n = m + 1 := ⟨n - 1, by omega⟩
    rw [f_X13_scan_160, h5, byteAt_ok hN h3 hb (by omega), bd_some, if_pos (by omega), tk_dgR _ (hb p (by omega)).1, bd_some]
    by_cases hs : dg (b p) = true
    · have hg := rn_ge dg b N (p + 1)
      have hc := of_decide_eq_true hs
      rw [if_pos hs, if_neg n10, h4, pk_sub hf, rn_go (by omega) hs, sub_self_add (by omega : p + 1 ≤ rn dg b N (p + 1))]
      by_cases q : 4 ≤ p - f
      · rw [if_pos (show (4 : Int32) ≤ nI (p - f) from nI_le (a := 4) q (by omega)), f_X13_scan_210, h5, nI_1]
        obtain ⟨mi', a1, a2, a3, a4, a5⟩ := ih (p + 1) n 0 (upd mi 5 (nI (p + 1))) (by omega) (by omega) (by omega) (by rw [pk_un (by omega), h3]) (by rw [pk_un (by omega), h4]) pk_us (fun q2 => by omega)
        exact ⟨mi', a1, a2, a3, fun q2 => by omega, fun k k1 k2 k3 => by rw [a5 k k1 k2 k3, pk_un k1]⟩
      · rw [if_neg (show ¬ (4 : Int32) ≤ nI (p - f) from nI_ge (b := 4) (by omega) (by omega)), bd_some, h7 (by omega), f_X13_scan_210]
        have ev : (10 * nI x + nI (b p)) - 48 = nI (x * 10 + (b p - 48)) := by
          rw [show (10 : Int32) = nI 10 from rfl, pk_mul, nI_add, show (48 : Int32) = nI 48 from rfl, pk_sub (by omega), show 10 * x + b p - 48 = x * 10 + (b p - 48) by omega]
        rw [ev, pk_un (show (5 : Nat) ≠ 7 by omega), h5, nI_1]
        obtain ⟨mi', a1, a2, a3, a4, a5⟩ := ih (p + 1) n (x * 10 + (b p - 48)) (upd (upd mi 7 (nI (x * 10 + (b p - 48)))) 5 (nI (p + 1))) (by omega) (by omega) (by omega) (by rw [pk_un (by omega), pk_un (by omega), h3]) (by rw [pk_un (by omega), pk_un (by omega), h4]) pk_us (fun _ => by rw [pk_un (by omega), pk_us])
        exact ⟨mi', a1, a2, a3, a4, fun k k1 k2 k3 => by rw [a5 k k1 k2 k3, pk_un k1, pk_un k3]⟩
    · have hr : rn dg b N p = p := rn_stop (bF hs)
      rw [if_neg hs, if_pos rfl, h4, pk_sub hf, hr, Nat.sub_self]
      by_cases q : p - f ≤ 4
      · rw [if_pos (show nI (p - f) ≤ (4 : Int32) from nI_le (b := 4) q (by omega)), if_pos q]
        exact ⟨_, rfl, by rw [pk_un (by omega), h5], pk_us, fun _ => by rw [pk_un (by omega)]; exact h7 q, fun k k1 k2 k3 => pk_un k2⟩
      · rw [if_neg (show ¬ nI (p - f) ≤ (4 : Int32) from nI_ge (a := 4) (by omega) (by omega)), if_neg q]
        exact ⟨_, rfl, by rw [pk_un (by omega), h5], pk_us, fun h => absurd h q, fun k k1 k2 k3 => pk_un k2⟩
theorem s52_ok {b : Nat → Nat} {N p : Nat} {mi : Nat → Int32} {mr : Nat → Nat → Int32} {ml : Nat → Nat → Int64} (hN : N ≤ 900) (hb : BM b N (mr 1)) (hp : p ≤ N) (h3 : mi 3 = nI N) (h5 : mi 5 = nI p) : ∃ mi', f_X13_scan_52 mr ml mi = some mi' ∧ TSt b N mi' (p, ep b N p) := by
  have e3 : upd mi 4 (nI p) 3 = nI N := by rw [pk_un (by omega), h3]
  rw [f_X13_scan_52, h5, byteAt_ok hN e3 hb hp, bd_some, h3]
  by_cases hpN : p = N
  · have hk : tkK b N (p, ep b N p) = 0 := by rw [tkK, if_pos (by show N ≤ p; omega)]
    have hep : ep b N p = p := by rw [ep, if_pos (by omega)]
    rw [if_pos (by rw [hpN])]
    refine ⟨_, rfl, ?_, ?_, ?_, ?_, fun q => by omega, fun q => by omega⟩
    · rw [pk_un (by omega)]; exact e3
    · rw [pk_un (by omega), pk_us]
    · rw [pk_un (by omega), pk_un (by omega), h5]
      show nI p = nI (ep b N p)
      rw [hep]
    · rw [pk_us, hk]
      rfl
  · have hlt : p < N := by omega
    obtain ⟨c1, c2⟩ := hb p hlt
    rw [if_neg (fun q => hpN (nI_inj (by omega) (by omega) q)), if_pos hlt, tk_smR _ c1, bd_some]
    by_cases hsm : smL (b p) = true
    · have hep : ep b N p = rn smL b N p := by rw [ep, if_neg (by omega), if_pos hsm]
      have hk : tkK b N (p, ep b N p) = if rn smL b N p - p ≤ 8 then 1 else 4 := by
        rw [tkK, if_neg (by show ¬ N ≤ p; omega), if_pos hsm, hep]
      rw [if_pos hsm, if_neg n10]
      obtain ⟨mi', a1, a2, a3, a4⟩ := s95_go (ml := ml) (f := p) hN hb (N - p) p 2000000 (upd mi 4 (nI p)) (by omega) (by omega) (by omega) e3 pk_us (by rw [pk_un (by omega), h5])
      refine ⟨mi', a1, by rw [a4 3 (by omega) (by omega)]; exact e3, by rw [a4 4 (by omega) (by omega)]; exact pk_us, by rw [a2, hep], by rw [a3, hk], fun q => ?_, fun q => ?_⟩
      · rw [hk] at q; split at q <;> omega
      · rw [hk] at q; split at q <;> omega
    · rw [if_neg hsm, if_pos rfl, tk_dgR _ c1, bd_some]
      by_cases hdg : dg (b p) = true
      · have hep : ep b N p = rn dg b N p := by rw [ep, if_neg (by omega), if_neg hsm, if_pos hdg]
        have hk : tkK b N (p, ep b N p) = if rn dg b N p - p ≤ 4 then 2 else 4 := by
          rw [tkK, if_neg (by show ¬ N ≤ p; omega), if_neg hsm, if_pos hdg, hep]
        rw [if_pos hdg, if_neg n10]
        obtain ⟨mi', a1, a2, a3, a4, a5⟩ := s160_go (ml := ml) (f := p) hN hb (N - p) p 2000000 0 (upd (upd mi 4 (nI p)) 7 0) (by omega) (by omega) (by omega) (by rw [pk_un (by omega)]; exact e3) (by rw [pk_un (by omega), pk_us]) (by rw [pk_un (by omega), pk_un (by omega), h5]) (fun _ => by rw [pk_us]; rfl)
        refine ⟨mi', a1, by rw [a5 3 (by omega) (by omega) (by omega), pk_un (by omega)]; exact e3, by rw [a5 4 (by omega) (by omega) (by omega), pk_un (by omega)]; exact pk_us, by rw [a2, hep], by rw [a3, hk], fun q => ?_, fun q => ?_⟩
        · rw [hk] at q
          have q4 : rn dg b N p - p ≤ 4 := by
            refine Classical.byContradiction fun q9 => ?_
            rw [if_neg q9] at q
            omega
          rw [a4 q4, tx, hep]
        · rw [hk] at q; split at q <;> omega
      · have hep : ep b N p = p + 1 := by rw [ep, if_neg (by omega), if_neg hsm, if_neg hdg]
        have hk : tkK b N (p, ep b N p) = if sg (b p) = true then 3 else 4 := by
          rw [tkK, if_neg (by show ¬ N ≤ p; omega), if_neg hsm, if_neg hdg]
        rw [if_neg hdg, if_pos rfl, tk_sgR _ c1, bd_some]
        by_cases q : sg (b p) = true
        · rw [if_pos q] at hk
          rw [if_pos q, if_neg n10, f_X13_scan_261]
          refine ⟨_, rfl, by rw [pk_un (by omega), pk_un (by omega), pk_un (by omega)]; exact e3, by rw [pk_un (by omega), pk_un (by omega), pk_un (by omega), pk_us], by rw [pk_us, pk_un (by omega), h5, nI_1, hep], by rw [pk_un (by omega), pk_un (by omega), pk_us, hk]; rfl, fun q2 => by omega, fun _ => by rw [pk_un (by omega), pk_us]⟩
        · rw [if_neg q] at hk
          rw [if_neg q, if_pos rfl, f_X13_scan_261]
          refine ⟨_, rfl, by rw [pk_un (by omega), pk_un (by omega), pk_un (by omega)]; exact e3, by rw [pk_un (by omega), pk_un (by omega), pk_un (by omega), pk_us], by rw [pk_us, pk_un (by omega), h5, nI_1, hep], by rw [pk_un (by omega), pk_un (by omega), pk_us, hk]; rfl, fun q2 => by omega, fun q2 => by omega⟩
theorem s0_go {b : Nat → Nat} {N : Nat} {mr : Nat → Nat → Int32} {ml : Nat → Nat → Int64} (hN : N ≤ 900) (hb : BM b N (mr 1)) : ∀ (d p n : Nat) (mi : Nat → Int32), p + d = N → d < n → mi 3 = nI N → mi 5 = nI p → ∃ mi', f_X13_scan_0 mr ml n mi = some mi' ∧ TSt b N mi' (nt b N p) := by
  intro d
  induction d with
  | zero =>
    intro p n mi hp hn h3 h5
    obtain ⟨n, rfl⟩ : ∃ m, n = m + 1 := ⟨n - 1, by omega⟩
    have hr : rn spc b N p = p := rn_end0 (by omega)
    rw [f_X13_scan_0, h3, h5, if_pos (nI_le (by omega) (by omega)), nt, hr]
    exact s52_ok hN hb (by omega) h3 h5
  | succ d ih =>
    intro p n mi hp hn h3 h5
    obtain ⟨n, rfl⟩ : ∃ m, n = m + 1 := ⟨n - 1, by omega⟩
    obtain ⟨c1, c2⟩ := hb p (by omega)
    have hin := inb_nI (n := p) (N := 900) (by omega) (by omega)
    rw [f_X13_scan_0, h3, h5, if_neg (nI_ge (by omega) (by omega)), ck_t hin, ck_t hin, nI_clamp (by omega), c2]
    by_cases hs : spc (b p) = true
    · obtain ⟨mi', a1, a2⟩ := ih (p + 1) n (upd mi 5 (nI (p + 1))) (by omega) (by omega) (by rw [pk_un (by omega), h3]) pk_us
      refine ⟨mi', ?_, ?_⟩
      · rcases of_decide_eq_true hs with h32 | h10
        · rw [if_pos (by rw [h32]; decide), f_X13_scan_39, h5, nI_1]
          exact a1
        · rw [if_neg (by rw [h10]; decide), if_pos (by rw [h10]; decide), f_X13_scan_39, h5, nI_1]
          exact a1
      · rw [nt, rn_go (by omega) hs]
        exact a2
    · have hns := of_decide_eq_false (bF hs)
      have hr : rn spc b N p = p := rn_stop (bF hs)
      rw [if_neg (show ¬ s8 (b p) = 32 from fun q => hns (Or.inl ((s8_eq (d := 32) c1 (by omega)).mp q))), if_neg (show ¬ s8 (b p) = 10 from fun q => hns (Or.inr ((s8_eq (d := 10) c1 (by omega)).mp q))), nt, hr]
      exact s52_ok hN hb (by omega) h3 h5
theorem mscan_ok {b : Nat → Nat} {N p : Nat} {mi : Nat → Int32} {mr : Nat → Nat → Int32} {ml : Nat → Nat → Int64} (hN : N ≤ 900) (hb : BM b N (mr 1)) (hp : p ≤ N) (h3 : mi 3 = nI N) (h5 : mi 5 = nI p) : ∃ mi', f_X13_scan mi mr ml = some mi' ∧ TSt b N mi' (nt b N p) := by
  rw [f_X13_scan]
  exact s0_go hN hb (N - p) p 2000000 mi (by omega) (by omega) h3 h5
/-! the reference's 'is' -/
theorem jlen : ∀ w, w < 20 → f_J0_length_8abf5 w = some (nI (swd.getD w []).length) := by decide +kernel
theorem jchr : ∀ w, w < 20 → ∀ k, k < (swd.getD w []).length → f_J0_charAt_5068e w (nI k) = some (nI ((swd.getD w []).getD k 0)) ∧ (swd.getD w []).getD k 0 < 128 := by decide +kernel
theorem jbnd : ∀ w, w < 20 → 1 ≤ (swd.getD w []).length ∧ (swd.getD w []).length ≤ 6 := by decide +kernel
theorem is_no {w : Nat} (hw : w < 20) {mi : Nat → Int32} {mr : Nat → Nat → Int32} {ml : Nat → Nat → Int64} (n : Nat) (x : Int32) : f_X13_is_32 w mi mr ml (n + 1) 0 x = some 0 := by
  rw [f_X13_is_32, jlen w hw, bd_some]
  by_cases h : nI (swd.getD w []).length ≤ x
  · rw [if_pos h]
    rfl
  · rw [if_neg h, if_pos rfl]
    rfl
theorem is_go {b : Nat → Nat} {N f w : Nat} (hw : w < 20) {mi : Nat → Int32} {mr : Nat → Nat → Int32} {ml : Nat → Nat → Int64} (hN : N ≤ 900) (hb : BM b N (mr 1)) (h4 : mi 4 = nI f) (hf : f + (swd.getD w []).length ≤ N) : ∀ (d k n : Nat), k + d = (swd.getD w []).length → d < n → ((∀ j, k ≤ j → j < (swd.getD w []).length → b (f + j) = (swd.getD w []).getD j 0) → f_X13_is_32 w mi mr ml n 1 (nI k) = some 1) ∧ (¬ (∀ j, k ≤ j → j < (swd.getD w []).length → b (f + j) = (swd.getD w []).getD j 0) → f_X13_is_32 w mi mr ml n 1 (nI k) = some 0) := by
  have hl6 := (jbnd w hw).2
  intro d
  induction d with
  | zero =>
    intro k n hk hn
    obtain ⟨n, rfl⟩ : ∃ m, n = m + 1 := ⟨n - 1, by omega⟩
    refine ⟨fun _ => ?_, fun q => absurd (fun j h1 h2 => by omega) q⟩
    rw [f_X13_is_32, jlen w hw, bd_some, if_pos (nI_le (by omega) (by omega))]
    rfl
  | succ d ih =>
    intro k n hk hn
    obtain ⟨n, rfl⟩ : ∃ m, n = m + 1 := ⟨n - 1, by omega⟩
    obtain ⟨c1, c2⟩ := hb (f + k) (by omega)
    obtain ⟨j1, j2⟩ := jchr w hw k (by omega)
    have hun : f_X13_is_32 w mi mr ml (n + 1) 1 (nI k) = if b (f + k) = (swd.getD w []).getD k 0 then f_X13_is_32 w mi mr ml n 1 (nI (k + 1)) else f_X13_is_32 w mi mr ml n 0 (nI (k + 1)) := by
      rw [f_X13_is_32, jlen w hw, bd_some, if_neg (nI_ge (by omega) (by omega)), if_neg n10, h4, nI_add, ck_t (inb_nI (by omega) (by omega)), nI_clamp (by omega), j1, bd_some, c2]
      by_cases e : b (f + k) = (swd.getD w []).getD k 0
      · rw [if_pos e, if_pos ((s8_eq c1 j2).mpr e), f_X13_is_68, nI_1]
      · rw [if_neg e, if_neg (fun q => e ((s8_eq c1 j2).mp q)), f_X13_is_68, nI_1]
    rw [hun]
    obtain ⟨i1, i2⟩ := ih (k + 1) n (by omega) (by omega)
    by_cases e : b (f + k) = (swd.getD w []).getD k 0
    · rw [if_pos e]
      refine ⟨fun q => i1 (fun j h1 h2 => q j (by omega) h2), fun q => i2 (fun q2 => q (fun j h1 h2 => ?_))⟩
      by_cases ej : j = k
      · rw [ej]; exact e
      · exact q2 j (by omega) h2
    · rw [if_neg e]
      obtain ⟨n, rfl⟩ : ∃ m, n = m + 1 := ⟨n - 1, by omega⟩
      exact ⟨fun q => absurd (q k (Nat.le_refl _) (by omega)) e, fun _ => is_no hw n _⟩
/-- TOKEN t is the word w -/
def isW (b : Nat → Nat) (N : Nat) (t : Nat × Nat) (w : Nat) : Bool := decide (tkK b N t = 1 ∧ tx b t = swd.getD w [])
theorem is_ok {b : Nat → Nat} {N w : Nat} {t : Nat × Nat} (hw : w < 20) {mi : Nat → Int32} {mr : Nat → Nat → Int32} {ml : Nat → Nat → Int64} (hN : N ≤ 900) (hb : BM b N (mr 1)) (ht : t.1 ≤ t.2 ∧ t.2 ≤ N) (h : TSt b N mi t) : f_X13_is w mi mr ml = some (if isW b N t w = true then 1 else 0) := by
  obtain ⟨h3, h4, h5, h6, h7, h8⟩ := h
  have hk5 : tkK b N t < 5 := by
    unfold tkK
    repeat' split
    all_goals omega
  have hl := jbnd w hw
  rw [f_X13_is, h6]
  by_cases hk : tkK b N t = 1
  · rw [if_pos (by rw [hk]; rfl), jlen w hw, bd_some, h5, h4, pk_sub ht.1]
    by_cases e : t.2 - t.1 = (swd.getD w []).length
    · rw [if_pos (by rw [e]), f_X13_is_29]
      obtain ⟨i1, i2⟩ := is_go (mi := mi) (ml := ml) (f := t.1) hw hN hb h4 (by omega) (swd.getD w []).length 0 2000000 (by omega) (by omega)
      by_cases q : ∀ j, 0 ≤ j → j < (swd.getD w []).length → b (t.1 + j) = (swd.getD w []).getD j 0
      · have hq : isW b N t w = true := decide_eq_true ⟨hk, txL_eq.mpr ⟨e, fun j hj => q j (by omega) hj⟩⟩
        rw [if_pos hq]
        exact i1 q
      · have hq : ¬ isW b N t w = true := fun z => q (fun j _ hj => (txL_eq.mp (of_decide_eq_true z).2).2 j hj)
        rw [if_neg hq]
        exact i2 q
    · have hq : ¬ isW b N t w = true := fun z => e (txL_eq.mp (of_decide_eq_true z).2).1
      rw [if_neg (fun z => e (nI_inj (by omega) (by omega) z)), if_neg hq, f_X13_is_28, f_X13_is_29]
      exact is_no hw 1999999 0
  · have hq : ¬ isW b N t w = true := fun z => hk (of_decide_eq_true z).1
    rw [if_neg (show ¬ nI (tkK b N t) = 1 from fun z => hk (nI_inj (b := 1) (by omega) (by omega) z)), if_neg hq, f_X13_is_28, f_X13_is_29]
    exact is_no hw 1999999 0
def isS (b : Nat → Nat) (N : Nat) (t : Nat × Nat) (c : Nat) : Bool := decide (tkK b N t = 3 ∧ b t.1 = c)
theorem tkK_lt (b : Nat → Nat) (N : Nat) (t : Nat × Nat) : tkK b N t < 5 := by
  unfold tkK
  repeat' split
  all_goals omega
theorem tkK3 {b : Nat → Nat} {N : Nat} {t : Nat × Nat} (h : tkK b N t = 3) : t.1 < N ∧ sg (b t.1) = true := by
  unfold tkK at h
  by_cases c1 : N ≤ t.1
  · rw [if_pos c1] at h; omega
  · rw [if_neg c1] at h
    by_cases c2 : smL (b t.1) = true
    · rw [if_pos c2] at h; split at h <;> omega
    · rw [if_neg c2] at h
      by_cases c3 : dg (b t.1) = true
      · rw [if_pos c3] at h; split at h <;> omega
      · rw [if_neg c3] at h
        by_cases c4 : sg (b t.1) = true
        · exact ⟨by omega, c4⟩
        · rw [if_neg c4] at h; omega
theorem sg_bnd {c : Nat} (h : sg c = true) : 33 ≤ c ∧ c < 128 := by
  have := of_decide_eq_true h
  omega
theorem isSign_ok {b : Nat → Nat} {N c : Nat} {t : Nat × Nat} {mi : Nat → Int32} {mr : Nat → Nat → Int32} {ml : Nat → Nat → Int64} (hc : c < 2 ^ 31) (h : TSt b N mi t) : f_X13_isSign mi mr ml (nI c) = some (if isS b N t c = true then 1 else 0) := by
  obtain ⟨h3, h4, h5, h6, h7, h8⟩ := h
  have hk5 := tkK_lt b N t
  rw [f_X13_isSign, h6]
  by_cases hk : tkK b N t = 3
  · have hb := sg_bnd (tkK3 hk).2
    rw [if_pos (by rw [hk]; rfl), h8 hk]
    by_cases e : b t.1 = c
    · rw [if_pos (by rw [e]), if_pos (show isS b N t c = true from decide_eq_true ⟨hk, e⟩)]
    · rw [if_neg (fun z => e (nI_inj (by omega) hc z)), if_neg (show ¬ isS b N t c = true from fun z => e (of_decide_eq_true z).2)]
  · rw [if_neg (show ¬ nI (tkK b N t) = 3 from fun z => hk (nI_inj (b := 3) (by omega) (by omega) z)), if_neg (show ¬ isS b N t c = true from fun z => hk (of_decide_eq_true z).1)]

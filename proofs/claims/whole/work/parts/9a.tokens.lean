/-! ===== TOKENS: the text as bytes, its words, numbers and signs ===== -/
def smL (c : Nat) : Bool := decide (97 ≤ c ∧ c ≤ 122)
def dg (c : Nat) : Bool := decide (48 ≤ c ∧ c ≤ 57)
def spc (c : Nat) : Bool := decide (c = 32 ∨ c = 10)
def sg (c : Nat) : Bool := decide (c = 59 ∨ c = 61 ∨ c = 60 ∨ c = 62 ∨ c = 33 ∨ c = 43 ∨ c = 45 ∨ c = 42 ∨ c = 47 ∨ c = 37 ∨ c = 38 ∨ c = 40 ∨ c = 41 ∨ c = 91 ∨ c = 93)
def s8 (c : Nat) : Int32 := (nI c).toInt8.toInt32
theorem tk_sm9 : ∀ c, c < 256 → f_X9_isSmall (nI c) = some (if smL c = true then 1 else 0) := by decide +kernel
theorem tk_dg9 : ∀ c, c < 256 → f_X9_isDigit (nI c) = some (if dg c = true then 1 else 0) := by decide +kernel
theorem tk_sg9 : ∀ c, c < 256 → f_X9_isSign (nI c) = some (if sg c = true then 1 else 0) := by decide +kernel
theorem tk_smR : ∀ c, c < 256 → f_X13_isSmall (nI c) = some (if smL c = true then 1 else 0) := by decide +kernel
theorem tk_dgR : ∀ c, c < 256 → f_X13_isDigit (nI c) = some (if dg c = true then 1 else 0) := by decide +kernel
theorem tk_sgR : ∀ c, c < 256 → f_X13_isSignByte (nI c) = some (if sg c = true then 1 else 0) := by decide +kernel
theorem s8_and : ∀ c, c < 256 → s8 c &&& 255 = nI c := by decide +kernel
theorem s8_eq {c d : Nat} (hc : c < 256) (hd : d < 128) : (s8 c = nI d) ↔ c = d := by
  constructor
  · intro h
    have h1 := s8_and c hc
    rw [h] at h1
    have h2 : nI d &&& 255 = nI (d % 2 ^ 8) := pk_andN (by omega) (m := 255) 8 (by decide)
    rw [h2, Nat.mod_eq_of_lt (by omega)] at h1
    exact (nI_inj (by omega) (by omega) h1).symm
  · intro h
    subst h
    exact fa_byte_small hd
/-- how far q holds from p on, below N -/
def rnF (q : Nat → Bool) (b : Nat → Nat) : Nat → Nat → Nat
  | 0, p => p
  | d + 1, p => if q (b p) = true then rnF q b d (p + 1) else p
def rn (q : Nat → Bool) (b : Nat → Nat) (N p : Nat) : Nat := rnF q b (N - p) p
theorem rnF_spec (q : Nat → Bool) (b : Nat → Nat) : ∀ d p, p ≤ rnF q b d p ∧ rnF q b d p ≤ p + d ∧ (∀ k, p ≤ k → k < rnF q b d p → q (b k) = true) ∧ (rnF q b d p < p + d → q (b (rnF q b d p)) = false)
  | 0, p => by
    refine ⟨Nat.le_refl _, Nat.le_refl _, fun k h1 h2 => ?_, fun h => ?_⟩
    · have h2 : k < p := h2
      omega
    · have h : p < p + 0 := h
      omega
  | d + 1, p => by
    rw [rnF]
    by_cases h : q (b p) = true
    · rw [if_pos h]
      obtain ⟨h1, h2, h3, h4⟩ := rnF_spec q b d (p + 1)
      refine ⟨by omega, by omega, fun k k1 k2 => ?_, fun k => h4 (by omega)⟩
      by_cases e : k = p
      · rw [e]; exact h
      · exact h3 k (by omega) k2
    · rw [if_neg h]
      refine ⟨Nat.le_refl _, by omega, fun k k1 k2 => by omega, fun _ => ?_⟩
      cases hq : q (b p) with
      | true => exact absurd hq h
      | false => rfl
theorem rn_end0 {q : Nat → Bool} {b : Nat → Nat} {N p : Nat} (h : N ≤ p) : rn q b N p = p := by
  rw [rn, Nat.sub_eq_zero_of_le h]
  rfl
theorem rn_stop {q : Nat → Bool} {b : Nat → Nat} {N p : Nat} (h : q (b p) = false) : rn q b N p = p := by
  rw [rn]
  cases hd : N - p with
  | zero => rfl
  | succ d => rw [rnF, if_neg (by rw [h]; decide)]
theorem rn_go {q : Nat → Bool} {b : Nat → Nat} {N p : Nat} (hp : p < N) (h : q (b p) = true) : rn q b N p = rn q b N (p + 1) := by
  rw [rn, show N - p = (N - (p + 1)) + 1 by omega, rnF, if_pos h]
  rfl
theorem rn_ge (q : Nat → Bool) (b : Nat → Nat) (N p : Nat) : p ≤ rn q b N p := (rnF_spec q b (N - p) p).1
theorem rn_le {q : Nat → Bool} {b : Nat → Nat} {N p : Nat} (h : p ≤ N) : rn q b N p ≤ N := by
  have := (rnF_spec q b (N - p) p).2.1
  show rnF q b (N - p) p ≤ N
  omega
theorem rn_all {q : Nat → Bool} {b : Nat → Nat} {N p k : Nat} (h1 : p ≤ k) (h2 : k < rn q b N p) : q (b k) = true := (rnF_spec q b (N - p) p).2.2.1 k h1 h2
/-- a TOKEN that begins at f: where it ends -/
def ep (b : Nat → Nat) (N f : Nat) : Nat := if N ≤ f then f else if smL (b f) = true then rn smL b N f else if dg (b f) = true then rn dg b N f else f + 1
/-- the first TOKEN from p on: from, behind -/
def nt (b : Nat → Nat) (N p : Nat) : Nat × Nat := (rn spc b N p, ep b N (rn spc b N p))
def tkp (b : Nat → Nat) (N : Nat) : Nat → Nat
  | 0 => 0
  | k + 1 => (nt b N (tkp b N k)).2
/-- TOKEN k -/
def tok (b : Nat → Nat) (N k : Nat) : Nat × Nat := nt b N (tkp b N k)
/-- its kind: 0 the end, 1 a word, 2 a number, 3 a sign, 4 nothing -/
def tkK (b : Nat → Nat) (N : Nat) (t : Nat × Nat) : Nat := if N ≤ t.1 then 0 else if smL (b t.1) = true then (if t.2 - t.1 ≤ 8 then 1 else 4) else if dg (b t.1) = true then (if t.2 - t.1 ≤ 4 then 2 else 4) else if sg (b t.1) = true then 3 else 4
def txL (b : Nat → Nat) : Nat → Nat → List Nat
  | 0, _ => []
  | d + 1, p => b p :: txL b d (p + 1)
def tx (b : Nat → Nat) (t : Nat × Nat) : List Nat := txL b (t.2 - t.1) t.1
def encL (l : List Nat) (x : Nat) : Nat := l.foldl (fun x c => x * 256 + c) x
def valL (l : List Nat) (x : Nat) : Nat := l.foldl (fun x c => x * 10 + (c - 48)) x
/-- its kind for the class -/
def kC (b : Nat → Nat) (N : Nat) (t : Nat × Nat) : Int32 := if tkK b N t = 4 then 3 else if tkK b N t = 3 then nI (b t.1) else nI (tkK b N t)
theorem ep_gt {b : Nat → Nat} {N f : Nat} (h : f < N) : f < ep b N f ∧ ep b N f ≤ N := by
  rw [ep, if_neg (by omega)]
  by_cases h1 : smL (b f) = true
  · rw [if_pos h1, rn_go h h1]
    have := rn_ge smL b N (f + 1)
    exact ⟨by omega, rn_le (by omega)⟩
  · rw [if_neg h1]
    by_cases h2 : dg (b f) = true
    · rw [if_pos h2, rn_go h h2]
      have := rn_ge dg b N (f + 1)
      exact ⟨by omega, rn_le (by omega)⟩
    · rw [if_neg h2]
      omega
theorem tkp_le (b : Nat → Nat) (N : Nat) : ∀ k, tkp b N k ≤ N
  | 0 => Nat.zero_le _
  | k + 1 => by
    have ih := tkp_le b N k
    have h1 : rn spc b N (tkp b N k) ≤ N := rn_le ih
    show ep b N (rn spc b N (tkp b N k)) ≤ N
    by_cases h : rn spc b N (tkp b N k) < N
    · exact (ep_gt h).2
    · rw [ep, if_pos (by omega)]
      exact h1
theorem tok_le (b : Nat → Nat) (N k : Nat) : (tok b N k).1 ≤ (tok b N k).2 ∧ (tok b N k).2 ≤ N := by
  refine ⟨?_, tkp_le b N (k + 1)⟩
  show rn spc b N (tkp b N k) ≤ ep b N (rn spc b N (tkp b N k))
  by_cases h : rn spc b N (tkp b N k) < N
  · exact Nat.le_of_lt (ep_gt h).1
  · rw [ep, if_pos (by omega)]
    exact Nat.le_refl _
/-! what a word or a number tells -/
def wq (b : Nat → Nat) : Nat → Nat → Int64 → Int64
  | 0, _, x => x
  | d + 1, p, x => wq b d (p + 1) ((x <<< ((8 : Int32).toInt64 &&& 63)) ||| ((nI (b p)).toInt64))
def nq (b : Nat → Nat) : Nat → Nat → Int64 → Int64
  | 0, _, x => x
  | d + 1, p, x => nq b d (p + 1) (((x * 10) + ((nI (b p)).toInt64)) - 48)
theorem wq_ok {b : Nat → Nat} : ∀ (d p m x : Nat), (∀ k, p ≤ k → k < p + d → b k < 256) → m + d ≤ 8 → x < 2 ^ (8 * m) → wq b d p (lN x) = lN (encL (txL b d p) x) ∧ encL (txL b d p) x < 2 ^ (8 * (m + d))
  | 0, p, m, x, _, _, hx => ⟨rfl, hx⟩
  | d + 1, p, m, x, hb, hm, hx => by
    have hc := hb p (Nat.le_refl _) (by omega)
    have e8 : 2 ^ (8 * (m + 1)) = 2 ^ (8 * m) * 256 := by
      rw [show 8 * (m + 1) = 8 * m + 8 by omega, Nat.pow_add]
    have hle : 2 ^ (8 * (m + 1)) ≤ 2 ^ 64 := Nat.pow_le_pow_right (by omega) (by omega)
    have hx2 : x * 256 + b p < 2 ^ (8 * (m + 1)) := by
      rw [e8]
      have : (x + 1) * 256 ≤ 2 ^ (8 * m) * 256 := Nat.mul_le_mul_right _ (by omega)
      omega
    have hx3 : x * 2 ^ 8 < 2 ^ 64 := Nat.lt_of_le_of_lt (Nat.le_add_right _ (b p)) (Nat.lt_of_lt_of_le hx2 hle)
    have hx4 : b p < 2 ^ 64 := Nat.lt_of_lt_of_le hc (by decide)
    have h0 : wq b (d + 1) p (lN x) = wq b d (p + 1) (lN (x * 256 + b p)) := by
      show wq b d (p + 1) ((lN x <<< ((nI 8).toInt64 &&& 63)) ||| ((nI (b p)).toInt64)) = _
      rw [wb_shl x (k := 8) (by omega), nI_l (by omega), wb_or hx3 hx4, show x * 2 ^ 8 = 2 ^ 8 * x from Nat.mul_comm _ _, ← Nat.two_pow_add_eq_or_of_lt (show b p < 2 ^ 8 from hc), show 2 ^ 8 * x + b p = x * 256 + b p by rw [Nat.mul_comm]]
    obtain ⟨a1, a2⟩ := wq_ok (b := b) d (p + 1) (m + 1) (x * 256 + b p) (fun k k1 k2 => hb k (by omega) (by omega)) (by omega) hx2
    refine ⟨h0.trans a1, ?_⟩
    rw [show m + (d + 1) = m + 1 + d by omega]
    exact a2
theorem nq_ok {b : Nat → Nat} : ∀ (d p m x : Nat), (∀ k, p ≤ k → k < p + d → dg (b k) = true) → m + d ≤ 4 → x < 10 ^ m → nq b d p (lN x) = lN (valL (txL b d p) x) ∧ valL (txL b d p) x < 10 ^ (m + d)
  | 0, p, m, x, _, _, hx => ⟨rfl, hx⟩
  | d + 1, p, m, x, hb, hm, hx => by
    have hc := of_decide_eq_true (hb p (Nat.le_refl _) (by omega))
    have e8 : 10 ^ (m + 1) = 10 ^ m * 10 := Nat.pow_succ ..
    have hx2 : x * 10 + (b p - 48) < 10 ^ (m + 1) := by
      rw [e8]
      have : (x + 1) * 10 ≤ 10 ^ m * 10 := Nat.mul_le_mul_right _ (by omega)
      omega
    have h0 : nq b (d + 1) p (lN x) = nq b d (p + 1) (lN (x * 10 + (b p - 48))) := by
      show nq b d (p + 1) (((lN x * lN 10) + ((nI (b p)).toInt64)) - lN 48) = _
      rw [lN_mul, nI_l (by omega), lN_add, lN_sub (by omega), show x * 10 + b p - 48 = x * 10 + (b p - 48) by omega]
    obtain ⟨a1, a2⟩ := nq_ok (b := b) d (p + 1) (m + 1) (x * 10 + (b p - 48)) (fun k k1 k2 => hb k (by omega) (by omega)) (by omega) hx2
    refine ⟨h0.trans a1, ?_⟩
    rw [show m + (d + 1) = m + 1 + d by omega]
    exact a2
/-! the words that are kept -/
def kwd : List (List Nat) := [[97, 100, 100], [115, 117, 98], [120, 111, 114], [115, 119, 97, 112], [105, 102], [102, 114, 111, 109], [99, 97, 108, 108], [117, 110, 99, 97, 108, 108], [112, 114, 111, 99], [105, 115], [101, 110, 100], [116, 104, 101, 110], [101, 108, 115, 101], [102, 105], [100, 111], [108, 111, 111, 112], [117, 110, 116, 105, 108], [108, 97, 110, 101, 115], [116, 117, 114, 110]]
def swd : List (List Nat) := [[108, 97, 110, 101, 115], [115, 119, 97, 112], [116, 117, 114, 110], [105, 102], [112, 114, 111, 99], [97, 100, 100], [115, 117, 98], [120, 111, 114], [102, 114, 111, 109], [99, 97, 108, 108], [117, 110, 99, 97, 108, 108], [105, 115], [101, 110, 100], [116, 104, 101, 110], [101, 108, 115, 101], [102, 105], [100, 111], [108, 111, 111, 112], [117, 110, 116, 105, 108], [122]]
def kyG (c : Int64) : Nat → Nat → Int32 → Int32
  | 0, _, v => v
  | d + 1, k, v => kyG c d (k + 1) (if zWords.getD k 0 = c then nI k else v)
def kyL (t : List Nat) : Nat → Nat → Int32 → Int32
  | 0, _, v => v
  | d + 1, k, v => kyL t d (k + 1) (if kwd.getD k [] = t then nI k else v)
def kyT (t : List Nat) : Int32 := kyL t 19 0 (-1)
theorem kyT_at : ∀ j, j < 19 → kyT (kwd.getD j []) = nI j := by decide +kernel
theorem kyL_no {t : List Nat} : ∀ d k v, (∀ j, k ≤ j → j < k + d → kwd.getD j [] ≠ t) → kyL t d k v = v
  | 0, _, _, _ => rfl
  | d + 1, k, v, h => by
    rw [kyL, if_neg (h k (Nat.le_refl _) (by omega))]
    exact kyL_no d (k + 1) v (fun j h1 h2 => h j (by omega) (by omega))
theorem kyT_no {t : List Nat} (h : ∀ j, j < 19 → kwd.getD j [] ≠ t) : kyT t = -1 := kyL_no 19 0 (-1) (fun j _ h2 => h j (by omega))
theorem nm1N {n : Nat} (h : n < 2 ^ 31) : ¬ nI n = -1 := fun q => by
  have h1 := congrArg Int32.toInt q
  rw [nI_toInt h] at h1
  have h2 : (-1 : Int32).toInt = -1 := by decide
  omega
theorem kyT_iff {t : List Nat} {k : Nat} (hk : k < 19) : kyT t = nI k ↔ t = kwd.getD k [] := by
  constructor
  · intro h
    refine Classical.byContradiction fun hn => ?_
    by_cases hj : ∃ j, j < 19 ∧ kwd.getD j [] = t
    · obtain ⟨j, h1, h2⟩ := hj
      rw [← h2, kyT_at j h1] at h
      have := nI_inj (by omega) (by omega) h
      subst this
      exact hn h2.symm
    · rw [kyT_no (fun j h1 h2 => hj ⟨j, h1, h2⟩)] at h
      exact nm1N (by omega) h.symm
  · intro h
    rw [h]
    exact kyT_at k hk
theorem kyT_range (t : List Nat) : (∃ j, j < 19 ∧ t = kwd.getD j [] ∧ kyT t = nI j) ∨ ((∀ j, j < 19 → t ≠ kwd.getD j []) ∧ kyT t = -1) := by
  by_cases hj : ∃ j, j < 19 ∧ t = kwd.getD j []
  · obtain ⟨j, h1, h2⟩ := hj
    exact Or.inl ⟨j, h1, h2, (kyT_iff h1).mpr h2⟩
  · exact Or.inr ⟨fun j h1 h2 => hj ⟨j, h1, h2⟩, kyT_no (fun j h1 h2 => hj ⟨j, h1, h2.symm⟩)⟩
def encR (l : List Nat) : Nat := l.foldr (fun c x => x * 256 + c) 0
theorem encR_inj : ∀ (l m : List Nat), (∀ c ∈ l, 1 ≤ c ∧ c < 256) → (∀ c ∈ m, 1 ≤ c ∧ c < 256) → encR l = encR m → l = m
  | [], [], _, _, _ => rfl
  | [], d :: m, _, hm, h => by
    have h1 := hm d List.mem_cons_self
    have h : 0 = encR m * 256 + d := h
    omega
  | c :: l, [], hl, _, h => by
    have h1 := hl c List.mem_cons_self
    have h : encR l * 256 + c = 0 := h
    omega
  | c :: l, d :: m, hl, hm, h => by
    have h1 := hl c List.mem_cons_self
    have h2 := hm d List.mem_cons_self
    have h : encR l * 256 + c = encR m * 256 + d := h
    have e1 : c = d := by omega
    have e2 : encR l = encR m := by omega
    rw [e1, encR_inj l m (fun x hx => hl x (List.mem_cons_of_mem _ hx)) (fun x hx => hm x (List.mem_cons_of_mem _ hx)) e2]
theorem encL_R (l : List Nat) : encL l 0 = encR l.reverse := by
  show l.foldl (fun x c => x * 256 + c) 0 = l.reverse.foldr (fun c x => x * 256 + c) 0
  rw [List.foldr_reverse]
theorem encL_inj {l m : List Nat} (hl : ∀ c ∈ l, 1 ≤ c ∧ c < 256) (hm : ∀ c ∈ m, 1 ≤ c ∧ c < 256) (h : encL l 0 = encL m 0) : l = m := by
  rw [encL_R, encL_R] at h
  have := encR_inj l.reverse m.reverse (fun c hc => hl c (List.mem_reverse.mp hc)) (fun c hc => hm c (List.mem_reverse.mp hc)) h
  exact List.reverse_inj.mp this
theorem zW_enc : ∀ k, k < 19 → zWords.getD k 0 = lN (encL (kwd.getD k []) 0) ∧ encL (kwd.getD k []) 0 < 2 ^ 63 ∧ ∀ c ∈ kwd.getD k [], 1 ≤ c ∧ c < 256 := by decide +kernel
theorem kyG_L {t : List Nat} (ht : ∀ c ∈ t, 1 ≤ c ∧ c < 256) (he : encL t 0 < 2 ^ 63) : ∀ d k v, k + d = 19 → kyG (lN (encL t 0)) d k v = kyL t d k v
  | 0, _, _, _ => rfl
  | d + 1, k, v, h => by
    obtain ⟨h1, h2, h3⟩ := zW_enc k (by omega)
    have hiff : (zWords.getD k 0 = lN (encL t 0)) ↔ (kwd.getD k [] = t) := by
      rw [h1, pk_lEQ h2 he]
      exact ⟨fun q => encL_inj h3 ht q, fun q => by rw [q]⟩
    rw [kyG, kyL, kyG_L ht he d (k + 1) _ (by omega)]
    by_cases hc : kwd.getD k [] = t
    · rw [if_pos hc, if_pos (hiff.mpr hc)]
    · rw [if_neg hc, if_neg (fun q => hc (hiff.mp q))]
theorem txL_mem {b : Nat → Nat} : ∀ (d p c : Nat), c ∈ txL b d p → ∃ k, p ≤ k ∧ k < p + d ∧ c = b k
  | 0, p, c, h => by cases h
  | d + 1, p, c, h => by
    rcases List.mem_cons.mp h with e | h
    · exact ⟨p, Nat.le_refl _, by omega, e⟩
    · obtain ⟨k, h1, h2, h3⟩ := txL_mem d (p + 1) c h
      exact ⟨k, by omega, by omega, h3⟩
theorem txL_len {b : Nat → Nat} : ∀ (d p : Nat), (txL b d p).length = d
  | 0, _ => rfl
  | d + 1, p => by rw [txL, List.length_cons, txL_len d (p + 1)]
theorem txL_get {b : Nat → Nat} : ∀ (d p k : Nat), k < d → (txL b d p)[k]? = some (b (p + k))
  | 0, _, _, h => by omega
  | d + 1, p, 0, _ => rfl
  | d + 1, p, k + 1, h => by
    rw [txL, List.getElem?_cons_succ, txL_get d (p + 1) k (by omega), show p + 1 + k = p + (k + 1) by omega]
theorem txL_eq {b : Nat → Nat} {d p : Nat} {l : List Nat} : txL b d p = l ↔ (d = l.length ∧ ∀ k, k < l.length → b (p + k) = l.getD k 0) := by
  constructor
  · intro h
    have h1 : d = l.length := by rw [← h, txL_len]
    refine ⟨h1, fun k hk => ?_⟩
    have h2 := txL_get (b := b) d p k (by omega)
    rw [h] at h2
    rw [List.getD_eq_getElem?_getD, h2]
    rfl
  · rintro ⟨h1, h2⟩
    apply List.ext_getElem?
    intro k
    by_cases hk : k < l.length
    · rw [txL_get d p k (by omega), h2 k hk, List.getD_eq_getElem?_getD, List.getElem?_eq_getElem hk]
      rfl
    · rw [List.getElem?_eq_none (by rw [txL_len]; omega), List.getElem?_eq_none (by omega)]

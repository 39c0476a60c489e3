/-! ===== program: SUMS read ===== -/
abbrev MKt : Type := Nat × Nat × Nat
def opN (c : Nat) : Prop := c = 37 ∨ c = 38 ∨ c = 42 ∨ c = 43 ∨ c = 45 ∨ c = 47
/-- a mark of the reference as a code of the class -/
def cM (t : MKt) : Int32 := if t.1 = 0 then nI t.2.1 else if t.1 = 1 then nI (10000 + vc t.2.1 t.2.2) else -(nI t.2.1)
def okM (t : MKt) : Prop := (t.1 = 0 ∧ t.2.1 < 10000 ∧ t.2.2 = 0) ∨ (t.1 = 1 ∧ okV t.2.1 t.2.2) ∨ (t.1 = 2 ∧ opN t.2.1 ∧ t.2.2 = 0)
def CLp (CL : List Int32) (i2 : Nat → Int32) (r2 : Nat → Nat → Int32) : Prop := i2 15 = nI CL.length ∧ ∀ j t, CL[j]? = some t → r2 12 j = t
def MLp (ML : List MKt) (mi : Nat → Int32) (mr : Nat → Nat → Int32) : Prop := mi 49 = nI ML.length ∧ ∀ j t, ML[j]? = some t → mr 39 (1000 + j) = nI t.1 ∧ mr 40 (1000 + j) = nI t.2.1 ∧ mr 41 (1000 + j) = nI t.2.2
def pfd : List MKt → Nat → Option Nat
  | [], n => some n
  | t :: L, n => if t.1 = 2 then (if 2 ≤ n then pfd L (n - 1) else none) else pfd L (n + 1)
theorem pfd_cons (t : MKt) (L : List MKt) (n : Nat) : pfd (t :: L) n = if t.1 = 2 then (if 2 ≤ n then pfd L (n - 1) else none) else pfd L (n + 1) := rfl
theorem pfd_app : ∀ (L K : List MKt) (n m : Nat), pfd L n = some m → pfd (L ++ K) n = pfd K m
  | [], K, n, m, h => by
    have : n = m := Option.some.inj h
    subst this
    rfl
  | t :: L, K, n, m, h => by
    rw [List.cons_append, pfd_cons]
    rw [pfd_cons] at h
    by_cases e : t.1 = 2
    · rw [if_pos e] at h ⊢
      by_cases e2 : 2 ≤ n
      · rw [if_pos e2] at h ⊢
        exact pfd_app L K _ m h
      · rw [if_neg e2] at h
        cases h
    · rw [if_neg e] at h ⊢
      exact pfd_app L K _ m h
def nA : List MKt → Nat
  | [] => 0
  | t :: L => (if t.1 = 2 then 0 else 1) + nA L
theorem nA_app : ∀ (L K : List MKt), nA (L ++ K) = nA L + nA K
  | [], K => by show nA K = 0 + nA K; omega
  | t :: L, K => by
    show (if t.1 = 2 then 0 else 1) + nA (L ++ K) = (if t.1 = 2 then 0 else 1) + nA L + nA K
    rw [nA_app L K]
    omega
theorem addCode_ok {CL : List Int32} {i2 : Nat → Int32} {r2 : Nat → Nat → Int32} {l2 : Nat → Nat → Int64} (h : CLp CL i2 r2) (hl : CL.length < 900) (c : Int32) : ∃ i' r', f_X5_addCode i2 r2 l2 c = some (i', r') ∧ CLp (CL ++ [c]) i' r' ∧ (∀ s, s ≠ 15 → i' s = i2 s) ∧ ∀ s, s ≠ 12 → r' s = r2 s := by
  refine ⟨upd i2 15 (nI (CL.length + 1)), va_up r2 12 (upd (r2 12) CL.length c), ?_, ⟨?_, fun j t hj => ?_⟩, fun s hs => pk_un hs, fun s hs => up_n hs⟩
  · rw [f_X5_addCode, h.1, if_neg (show ¬ (900 : Int32) ≤ nI CL.length from nI_ge (b := 900) hl (by omega)), ck_t (inb_nI hl (by omega)), nI_1, nI_clamp (by omega)]
  · rw [pk_us, List.length_append]
    rfl
  · rw [up_s]
    rcases app_at hj with ⟨h1, h2⟩ | ⟨h1, h2⟩
    · rw [pk_un (by omega)]
      exact h.2 j t h2
    · rw [h1, h2, pk_us]
theorem fm_code {c : Nat} {i2 : Nat → Int32} {r2 : Nat → Nat → Int32} {l2 : Nat → Nat → Int64} (hc : c ≤ 900) (h : i2 15 = nI c) (x : Int32) : ∃ i' r' d, f_X5_addCode i2 r2 l2 x = some (i', r') ∧ d ≤ 900 ∧ i' 15 = nI d ∧ (∀ s, s ≠ 15 → i' s = i2 s) ∧ ∀ s, s ≠ 12 → r' s = r2 s := by
  rw [f_X5_addCode, h]
  by_cases q : 900 ≤ c
  · exact ⟨i2, r2, c, by rw [if_pos (show (900 : Int32) ≤ nI c from nI_le (a := 900) q (by omega))], hc, h, fun _ _ => rfl, fun _ _ => rfl⟩
  · exact ⟨_, _, c + 1, by rw [if_neg (show ¬ (900 : Int32) ≤ nI c from nI_ge (b := 900) (by omega) (by omega)), ck_t (inb_nI (by omega) (by omega)), nI_1], by omega, pk_us, fun s hs => pk_un hs, fun s hs => up_n hs⟩
theorem mark_ok {ML : List MKt} {mi : Nat → Int32} {mr : Nat → Nat → Int32} {ml : Nat → Nat → Int64} (h : MLp ML mi mr) (hl : ML.length < 1000) (t : MKt) : ∃ mi' mr', f_X13_mark mi mr ml (nI t.1) (nI t.2.1) (nI t.2.2) = some (mi', mr') ∧ MLp (ML ++ [t]) mi' mr' ∧ (∀ s, s ≠ 49 → mi' s = mi s) ∧ ∀ s, s ≠ 39 → s ≠ 40 → s ≠ 41 → mr' s = mr s := by
  have e : (1000 : Int32) + nI ML.length = nI (1000 + ML.length) := nI_add 1000 ML.length
  have hin := inb_nI (n := 1000 + ML.length) (N := 2000) (by omega) (by omega)
  refine ⟨upd mi 49 (nI (ML.length + 1)), va_up (va_up (va_up mr 39 (upd (mr 39) (1000 + ML.length) (nI t.1))) 40 (upd (mr 40) (1000 + ML.length) (nI t.2.1))) 41 (upd (mr 41) (1000 + ML.length) (nI t.2.2)), ?_, ⟨?_, fun j x hj => ?_⟩, fun s hs => pk_un hs, fun s h1 h2 h3 => by rw [up_n h3, up_n h2, up_n h1]⟩
  · rw [f_X13_mark, h.1, e, ck_t hin, ck_t hin, f_X13_mark_26, ck_t hin, h.1, nI_1, nI_clamp (by omega)]
    simp only [up_n (show (41 : Nat) ≠ 40 by omega), up_n (show (41 : Nat) ≠ 39 by omega), up_n (show (40 : Nat) ≠ 39 by omega)]
  · rw [pk_us, List.length_append]
    rfl
  · rw [up_n (show (39 : Nat) ≠ 41 by omega), up_n (show (39 : Nat) ≠ 40 by omega), up_s, up_n (show (40 : Nat) ≠ 41 by omega), up_s, up_s]
    rcases app_at hj with ⟨h1, h2⟩ | ⟨h1, h2⟩
    · rw [pk_un (by omega), pk_un (by omega), pk_un (by omega)]
      exact h.2 j x h2
    · rw [h1, h2]
      exact ⟨pk_us, pk_us, pk_us⟩
theorem MLp.mi {ML : List MKt} {mi mi' : Nat → Int32} {mr : Nat → Nat → Int32} (h : MLp ML mi mr) (e : mi' 49 = mi 49) : MLp ML mi' mr := ⟨e.trans h.1, h.2⟩
/-- what a SUM's reading leaves as it was -/
def KC (i0 : Nat → Int32) (r0 : Nat → Nat → Int32) (i2 : Nat → Int32) (r2 : Nat → Nat → Int32) (i0' : Nat → Int32) (r0' : Nat → Nat → Int32) (i2' : Nat → Int32) (r2' : Nat → Nat → Int32) : Prop := (∀ s, s ≠ 6 → s ≠ 7 → i0' s = i0 s) ∧ r0' 1 = r0 1 ∧ (∀ s, s ≠ 15 → i2' s = i2 s) ∧ ∀ s, s ≠ 12 → r2' s = r2 s
theorem KC.tr {a a' a'' : Nat → Int32} {c c' c'' : Nat → Int32} {r r' r'' s s' s'' : Nat → Nat → Int32} (h : KC a r c s a' r' c' s') (g : KC a' r' c' s' a'' r'' c'' s'') : KC a r c s a'' r'' c'' s'' := ⟨fun z z1 z2 => (g.1 z z1 z2).trans (h.1 z z1 z2), g.2.1.trans h.2.1, fun z z1 => (g.2.2.1 z z1).trans (h.2.2.1 z z1), fun z z1 => (g.2.2.2 z z1).trans (h.2.2.2 z z1)⟩
theorem KC.rf {a c : Nat → Int32} {r s : Nat → Nat → Int32} : KC a r c s a r c s := ⟨fun _ _ _ => rfl, rfl, fun _ _ => rfl, fun _ _ => rfl⟩
/-- both within a SUM -/
def SS (b : Nat → Nat) (N M k B p bar : Nat) (CL : List Int32) (ML : List MKt) (i0 i1 i2 : Nat → Int32) (r2 : Nat → Nat → Int32) (mi : Nat → Int32) (mr : Nat → Nat → Int32) : Prop := AT b N M k i1 mi ∧ (i0 6 = nI B ∧ i0 7 = nI p ∧ i0 8 = nI bar) ∧ (mi 55 = nI B ∧ mi 54 = nI p ∧ mi 53 = nI bar) ∧ CLp CL i2 r2 ∧ MLp ML mi mr
def Es (r1 : Nat → Nat → Int32) (l1 l2 : Nat → Nat → Int64) (fe n : Nat) (i0 : Nat → Int32) (r0 : Nat → Nat → Int32) (i1 i2 : Nat → Int32) (r2 : Nat → Nat → Int32) (x : Nat) : Option ((Nat → Int32) × (Nat → Nat → Int32) × (Nat → Int32) × (Nat → Int32) × (Nat → Nat → Int32)) := bd (f_X6_endFactor_4 r1 l1 l2 fe i0 r0 i1 i2 r2) (fun q11 => f_X6_readSum_110 r1 l1 l2 (f_X6_readSum_21 r1 l1 l2 n) q11.2.1 q11.2.2.1 q11.2.2.2.1 q11.2.2.2.2.1 q11.2.2.2.2.2 q11.1 (nI x))
def Gs (r1 : Nat → Nat → Int32) (l1 l2 : Nat → Nat → Int64) (fe n : Nat) (i0 : Nat → Int32) (r0 : Nat → Nat → Int32) (i1 i2 : Nat → Int32) (r2 : Nat → Nat → Int32) (x : Nat) : Option ((Nat → Int32) × (Nat → Nat → Int32) × (Nat → Int32) × (Nat → Int32) × (Nat → Nat → Int32)) := bd (f_X6_doWaiting i0 r0 i1 r1 l1 i2 r2 l2) (fun q26 => Es r1 l1 l2 fe n i0 q26.1 i1 q26.2.1 q26.2.2 x)
theorem bd_bd {α β γ : Type} (x : Option α) (f : α → Option β) (g : β → Option γ) : bd (bd x f) g = bd x (fun a => bd (f a) g) := by
  cases x with
  | none => rfl
  | some a => rfl
theorem r105 {r1 : Nat → Nat → Int32} {l1 l2 : Nat → Nat → Int64} {n : Nat} {i0 : Nat → Int32} {r0 : Nat → Nat → Int32} {i1 i2 : Nat → Int32} {r2 : Nat → Nat → Int32} {x : Nat} : f_X6_readSum_105 r1 l1 l2 (f_X6_readSum_21 r1 l1 l2 n) i0 r0 i1 i2 r2 (nI x) = Gs r1 l1 l2 2000000 n i0 r0 i1 i2 r2 x := by
  rw [f_X6_readSum_105, f_X6_endFactor, bd_bd]
  rfl
theorem dw_0 {r1 : Nat → Nat → Int32} {l1 l2 : Nat → Nat → Int64} {B : Nat} {i0 : Nat → Int32} {r0 : Nat → Nat → Int32} {i1 i2 : Nat → Int32} {r2 : Nat → Nat → Int32} (h6 : i0 6 = nI B) (hB : B ≤ 6) (hw : r0 2 B = 0) : f_X6_doWaiting i0 r0 i1 r1 l1 i2 r2 l2 = some (r0, i2, r2) := by
  rw [f_X6_doWaiting, h6, ck_t (inb_nI (by omega) (by omega)), nI_clamp (by omega), if_pos hw]
theorem dw_1 {r1 : Nat → Nat → Int32} {l1 l2 : Nat → Nat → Int64} {B c : Nat} {CL : List Int32} {i0 : Nat → Int32} {r0 : Nat → Nat → Int32} {i1 i2 : Nat → Int32} {r2 : Nat → Nat → Int32} (h6 : i0 6 = nI B) (hB : B ≤ 6) (hw : r0 2 B = nI c) (hc : 1 ≤ c) (hc2 : c < 2 ^ 31) (h : CLp CL i2 r2) (hl : CL.length < 900) : ∃ i' r', f_X6_doWaiting i0 r0 i1 r1 l1 i2 r2 l2 = some (va_up r0 2 (upd (r0 2) B 0), i', r') ∧ CLp (CL ++ [-(nI c)]) i' r' ∧ (∀ s, s ≠ 15 → i' s = i2 s) ∧ ∀ s, s ≠ 12 → r' s = r2 s := by
  have hin := inb_nI (n := B) (N := 7) (by omega) (by omega)
  obtain ⟨i', r', a1, a2, a3, a4⟩ := addCode_ok (l2 := l2) h hl (-(nI c))
  refine ⟨i', r', ?_, a2, a3, a4⟩
  rw [f_X6_doWaiting, h6, ck_t hin, nI_clamp (by omega), hw, if_neg (nI_ne0 (by omega) hc2), ck_t hin, a1, bd_some, ck_t hin]
def isOp (b : Nat → Nat) (N : Nat) (t : Nat × Nat) : Bool := decide (tkK b N t = 3 ∧ (b t.1 = 37 ∨ b t.1 = 38 ∨ b t.1 = 42 ∨ b t.1 = 43 ∨ b t.1 = 45 ∨ b t.1 = 47))
theorem misOp {b : Nat → Nat} {N k : Nat} {mr : Nat → Nat → Int32} {ml : Nat → Nat → Int64} {mi : Nat → Int32} (h : TSt b N mi (tok b N k)) : f_X13_isOperator mi mr ml = some (if isOp b N (tok b N k) = true then 1 else 0) := by
  have hs : ∀ c, c < 128 → f_X13_isSign mi mr ml (nI c) = some (if isS b N (tok b N k) c = true then 1 else 0) := fun c hc => isSign_ok (by omega) h
  have s43 : f_X13_isSign mi mr ml 43 = some (if isS b N (tok b N k) 43 = true then 1 else 0) := hs 43 (by omega)
  have s45 : f_X13_isSign mi mr ml 45 = some (if isS b N (tok b N k) 45 = true then 1 else 0) := hs 45 (by omega)
  have s42 : f_X13_isSign mi mr ml 42 = some (if isS b N (tok b N k) 42 = true then 1 else 0) := hs 42 (by omega)
  have s47 : f_X13_isSign mi mr ml 47 = some (if isS b N (tok b N k) 47 = true then 1 else 0) := hs 47 (by omega)
  have s37 : f_X13_isSign mi mr ml 37 = some (if isS b N (tok b N k) 37 = true then 1 else 0) := hs 37 (by omega)
  have s38 : f_X13_isSign mi mr ml 38 = some (if isS b N (tok b N k) 38 = true then 1 else 0) := hs 38 (by omega)
  have put : ∀ c, c = 37 ∨ c = 38 ∨ c = 42 ∨ c = 43 ∨ c = 45 ∨ c = 47 → isS b N (tok b N k) c = true → isOp b N (tok b N k) = true := fun c hc q => decide_eq_true ⟨(of_decide_eq_true q).1, by rw [(of_decide_eq_true q).2]; exact hc⟩
  rw [f_X13_isOperator, s43, bd_some]
  by_cases q43 : isS b N (tok b N k) 43 = true
  · rw [if_pos q43, if_neg n10, if_pos (put 43 (by omega) q43)]
  · rw [if_neg q43, if_pos rfl, s45, bd_some]
    by_cases q45 : isS b N (tok b N k) 45 = true
    · rw [if_pos q45, if_neg n10, if_pos (put 45 (by omega) q45)]
    · rw [if_neg q45, if_pos rfl, s42, bd_some]
      by_cases q42 : isS b N (tok b N k) 42 = true
      · rw [if_pos q42, if_neg n10, if_pos (put 42 (by omega) q42)]
      · rw [if_neg q42, if_pos rfl, s47, bd_some]
        by_cases q47 : isS b N (tok b N k) 47 = true
        · rw [if_pos q47, if_neg n10, if_pos (put 47 (by omega) q47)]
        · rw [if_neg q47, if_pos rfl, s37, bd_some]
          by_cases q37 : isS b N (tok b N k) 37 = true
          · rw [if_pos q37, if_neg n10, if_pos (put 37 (by omega) q37)]
          · rw [if_neg q37, if_pos rfl, s38, bd_some]
            by_cases q38 : isS b N (tok b N k) 38 = true
            · rw [if_pos q38, if_neg n10, if_pos (put 38 (by omega) q38)]
            · rw [if_neg q38, if_pos rfl, if_neg]
              intro z
              obtain ⟨z1, z2⟩ := of_decide_eq_true z
              rcases z2 with z2 | z2 | z2 | z2 | z2 | z2
              · exact q37 (decide_eq_true ⟨z1, z2⟩)
              · exact q38 (decide_eq_true ⟨z1, z2⟩)
              · exact q42 (decide_eq_true ⟨z1, z2⟩)
              · exact q43 (decide_eq_true ⟨z1, z2⟩)
              · exact q45 (decide_eq_true ⟨z1, z2⟩)
              · exact q47 (decide_eq_true ⟨z1, z2⟩)
theorem ef47_op {b : Nat → Nat} {N M k B : Nat} {r1 : Nat → Nat → Int32} {l1 l2 : Nat → Nat → Int64} {i0 : Nat → Int32} {r0 : Nat → Nat → Int32} {i1 i2 i' : Nat → Int32} {r2 : Nat → Nat → Int32} (h : CA b N M k i1) (h6 : i0 6 = nI B) (hB : B ≤ 6) (hop : isOp b N (tok b N k) = true) (ha : f_X9_advance i1 r1 l1 = some i') : f_X6_endFactor_47 r1 l1 l2 i0 r0 i1 i2 r2 = some (1, i0, va_up r0 2 (upd (r0 2) B (nI (b (tok b N k).1))), i', i2, r2) := by
  obtain ⟨o1, o2⟩ := of_decide_eq_true hop
  have hin := inb_nI (n := B) (N := 7) (by omega) (by omega)
  have e8 : i1 8 = nI (b (tok b N k).1) := (kind_iff h (c := b (tok b N k).1) (by omega) (by omega)).mpr (decide_eq_true ⟨o1, rfl⟩)
  rw [f_X6_endFactor_47, f_X9_kind, bd_some, e8, h6, nI_clamp (n := B) (by omega)]
  simp only [bd_some, ha, ck_t hin]
  rcases o2 with o | o | o | o | o | o
  · rw [o]; rfl
  · rw [o]; rfl
  · rw [o]; rfl
  · rw [o]; rfl
  · rw [o]; rfl
  · rw [o]; rfl
theorem ef47_no {r1 : Nat → Nat → Int32} {l1 l2 : Nat → Nat → Int64} {i0 : Nat → Int32} {r0 : Nat → Nat → Int32} {i1 i2 : Nat → Int32} {r2 : Nat → Nat → Int32} (h37 : ¬ i1 8 = 37) (h38 : ¬ i1 8 = 38) (h42 : ¬ i1 8 = 42) (h43 : ¬ i1 8 = 43) (h45 : ¬ i1 8 = 45) (h47 : ¬ i1 8 = 47) : f_X6_endFactor_47 r1 l1 l2 i0 r0 i1 i2 r2 = if (i0 6) ≤ 0 then (some (0, i0, r0, i1, i2, r2)) else (bd (f_X9_fail i1 r1 l1 1) (fun q22 => some (0, i0, r0, q22, i2, r2))) := by
  rw [f_X6_endFactor_47, f_X9_kind, bd_some, if_neg h37, if_neg h38, if_neg h42, if_neg h43, if_neg h45, if_neg h47]
theorem ef47_not {b : Nat → Nat} {N M k : Nat} {r1 : Nat → Nat → Int32} {l1 l2 : Nat → Nat → Int64} {i0 : Nat → Int32} {r0 : Nat → Nat → Int32} {i1 i2 : Nat → Int32} {r2 : Nat → Nat → Int32} (h : CA b N M k i1) (hop : ¬ isOp b N (tok b N k) = true) : f_X6_endFactor_47 r1 l1 l2 i0 r0 i1 i2 r2 = if (i0 6) ≤ 0 then (some (0, i0, r0, i1, i2, r2)) else (bd (f_X9_fail i1 r1 l1 1) (fun q22 => some (0, i0, r0, q22, i2, r2))) := by
  have no : ∀ c, (c = 37 ∨ c = 38 ∨ c = 42 ∨ c = 43 ∨ c = 45 ∨ c = 47) → ¬ i1 8 = nI c := fun c hc z => by
    have := of_decide_eq_true ((kind_iff h (c := c) (by omega) (by omega)).mp z)
    exact hop (decide_eq_true ⟨this.1, by rw [this.2]; exact hc⟩)
  exact ef47_no (no 37 (by omega)) (no 38 (by omega)) (no 42 (by omega)) (no 43 (by omega)) (no 45 (by omega)) (no 47 (by omega))
theorem s21_0 {r1 : Nat → Nat → Int32} {l1 l2 : Nat → Nat → Int64} (n : Nat) {i0 : Nat → Int32} {r0 : Nat → Nat → Int32} {i1 i2 : Nat → Int32} {r2 : Nat → Nat → Int32} (x : Int32) : f_X6_readSum_21 r1 l1 l2 (n + 1) i0 r0 i1 i2 r2 0 x = some (i0, r0, i1, i2, r2) := by
  rw [f_X6_readSum_21]
  by_cases e : (900 : Int32) < x
  · rw [if_pos e]
  · rw [if_neg e, if_pos rfl]
/-- behind a fault: a SUM's reading ends -/
theorem fm_Es {r1 : Nat → Nat → Int32} {l1 l2 : Nat → Nat → Int64} (fe n : Nat) {i0 : Nat → Int32} {r0 : Nat → Nat → Int32} {i1 i2 : Nat → Int32} {r2 : Nat → Nat → Int32} {x : Nat} (h : FM i1) : Es r1 l1 l2 (fe + 1) (n + 1) i0 r0 i1 i2 r2 x = some (i0, r0, i1, i2, r2) := by
  have h47 : f_X6_endFactor_47 r1 l1 l2 i0 r0 i1 i2 r2 = some (0, i0, r0, i1, i2, r2) := by
    rw [ef47_no (by rw [h.2.1]; decide) (by rw [h.2.1]; decide) (by rw [h.2.1]; decide) (by rw [h.2.1]; decide) (by rw [h.2.1]; decide) (by rw [h.2.1]; decide)]
    by_cases e : i0 6 ≤ 0
    · rw [if_pos e]
    · rw [if_neg e, fm_fail h]
      rfl
  have h4 : f_X6_endFactor_4 r1 l1 l2 (fe + 1) i0 r0 i1 i2 r2 = some (0, i0, r0, i1, i2, r2) := by
    rw [f_X6_endFactor_4]
    by_cases e : i0 6 ≤ 0
    · rw [if_pos e, h47]
    · rw [if_neg e, f_X9_kind, bd_some, h.2.1, if_neg (by decide), h47]
  rw [Es, h4, bd_some, f_X6_readSum_110]
  exact s21_0 n _
theorem fm_Gs {r1 : Nat → Nat → Int32} {l1 l2 : Nat → Nat → Int64} (fe n : Nat) {B c : Nat} {i0 : Nat → Int32} {r0 : Nat → Nat → Int32} {i1 i2 : Nat → Int32} {r2 : Nat → Nat → Int32} {x : Nat} (h : FM i1) (h6 : i0 6 = nI B) (hB : B ≤ 6) (hc : c ≤ 900) (h15 : i2 15 = nI c) : ∃ r0' i2' r2' d, Gs r1 l1 l2 (fe + 1) (n + 1) i0 r0 i1 i2 r2 x = some (i0, r0', i1, i2', r2') ∧ r0' 1 = r0 1 ∧ d ≤ 900 ∧ i2' 15 = nI d ∧ (∀ s, s ≠ 15 → i2' s = i2 s) ∧ ∀ s, s ≠ 12 → r2' s = r2 s := by
  have hin := inb_nI (n := B) (N := 7) (by omega) (by omega)
  rw [Gs, f_X6_doWaiting, h6, ck_t hin, nI_clamp (by omega)]
  by_cases q : r0 2 B = 0
  · rw [if_pos q, bd_some]
    exact ⟨r0, i2, r2, c, fm_Es fe n h, rfl, hc, h15, fun _ _ => rfl, fun _ _ => rfl⟩
  · obtain ⟨i', r', d, a1, a2, a3, a4, a5⟩ := fm_code (r2 := r2) (l2 := l2) hc h15 (-(r0 2 B))
    rw [if_neg q, ck_t hin, a1, bd_some, ck_t hin, bd_some]
    exact ⟨va_up r0 2 (upd (r0 2) B 0), i', r', d, fm_Es fe n h, up_n (by omega), a2, a3, a4, a5⟩
theorem fm_H {r1 : Nat → Nat → Int32} {l1 l2 : Nat → Nat → Int64} (n : Nat) {B c : Nat} {i0 : Nat → Int32} {r0 : Nat → Nat → Int32} {i1 i2 : Nat → Int32} {r2 : Nat → Nat → Int32} {x : Nat} (h : FM i1) (h6 : i0 6 = nI B) (hB : B ≤ 6) (hc : c ≤ 900) (h15 : i2 15 = nI c) : ∃ i0' r0' i2' r2' d, f_X6_readSum_21 r1 l1 l2 (n + 2) i0 r0 i1 i2 r2 1 (nI x) = some (i0', r0', i1, i2', r2') ∧ KC i0 r0 i2 r2 i0' r0' i2' r2' ∧ d ≤ 900 ∧ i2' 15 = nI d := by
  rw [f_X6_readSum_21]
  by_cases e : (900 : Int32) < nI x
  · rw [if_pos e]
    exact ⟨i0, r0, i2, r2, c, rfl, KC.rf, hc, h15⟩
  · obtain ⟨i', r', d, a1, a2, a3, a4, a5⟩ := fm_code (r2 := r2) (l2 := l2) hc h15 (10000 + 0)
    rw [if_neg e, if_neg n10, f_X9_kind, bd_some, h.2.1, if_neg (by decide), f_X6_countAtom, fm_let h, bd_some, f_X9_kind, bd_some, h.2.1, if_neg (by decide), if_pos rfl, f_X6_countAtom_39, f_X6_countAtom_40, if_pos rfl, bd_some]
    dsimp only
    rw [f_X9_kind, bd_some, h.2.1, if_neg (by decide), fm_var h, bd_some]
    dsimp only
    rw [a1, bd_some, r105]
    obtain ⟨r0', i2', r2', d2, b1, b2, b3, b4, b5, b6⟩ := fm_Gs (r1 := r1) (l1 := l1) (l2 := l2) 1999999 n (r0 := r0) (r2 := r') (x := x) h (show upd i0 7 (i0 7 + 1) 6 = nI B by rw [pk_un (by omega)]; exact h6) hB a2 a3
    exact ⟨_, r0', i2', r2', d2, b1, ⟨fun s _ s7 => pk_un s7, b2, fun s hs => (b5 s hs).trans (a4 s hs), fun s hs => (b6 s hs).trans (a5 s hs)⟩, b3, b4⟩

/-! ===== program: which proc is called ===== -/
def KK (n : Nat) (r2 : Nat → Nat → Int32) (l2 : Nat → Nat → Int64) (mr : Nat → Nat → Int32) (ml : Nat → Nat → Int64) : Prop := ∀ s, s < n → ∃ x, x < 8 ∧ r2 0 s = nI x ∧ mr 28 (60 + s) = nI x ∧ (6 ≤ x → NMd s l2 ml)
def DN (s P : Nat) (r2 mr : Nat → Nat → Int32) : Prop := ∀ t, t < s → ∀ x, x < 8 → 6 ≤ x → r2 0 t = nI x → ∃ p, p < P ∧ r2 4 t = nI p ∧ mr 31 (60 + t) = nI p
theorem called_go {n P : Nat} {T : Nat → List Nat} {i2 mi : Nat → Int32} {l2 ml : Nat → Nat → Int64} (hn : n ≤ 60) (hP : P ≤ 6) (hPN : PN P T l2 ml) (h13 : i2 13 = nI n) (h48 : mi 48 = nI n) (h14 : i2 14 = nI P) (h47 : mi 47 = nI P) : ∀ (d s fu fv : Nat) (r2 mr : Nat → Nat → Int32), s + d = n → d < fu → d < fv → KK n r2 l2 mr ml → DN s P r2 mr →
  (∃ r2' mr', f_X5_findCalled_2 i2 l2 fu r2 (nI s) = some (1, r2') ∧ f_X13_readProgram_169 fv mi ml mr (nI s) = some (.inl (mi, ml, mr')) ∧ DN n P r2' mr' ∧ (∀ z, z ≠ 4 → r2' z = r2 z) ∧ (∀ t x, x < 6 → r2 0 t = nI x → r2' 4 t = r2 4 t) ∧ ∀ z, z ≠ 31 → mr' z = mr z) ∨
  (∃ r2' mr', f_X5_findCalled_2 i2 l2 fu r2 (nI s) = some (0, r2') ∧ f_X13_readProgram_169 fv mi ml mr (nI s) = some (.inr (upd (upd mi 8 5) 9 (mi 4), ml, mr'))) := by
  intro d
  induction d with
  | zero =>
    intro s fu fv r2 mr hs hfu hfv hK hD
    obtain ⟨fu, rfl⟩ : ∃ m, fu = m + 1 := ⟨fu - 1, by omega⟩
    obtain ⟨fv, rfl⟩ : ∃ m, fv = m + 1 := ⟨fv - 1, by omega⟩
    obtain rfl : s = n := by omega
    left
    refine ⟨r2, mr, ?_, ?_, hD, fun _ _ => rfl, fun _ _ _ _ => rfl, fun _ _ => rfl⟩
    · rw [f_X5_findCalled_2, h13, if_pos (nI_le (by omega) (by omega))]
    · rw [f_X13_readProgram_169, h48, if_pos (nI_le (by omega) (by omega))]
  | succ d ih =>
    intro s fu fv r2 mr hs hfu hfv hK hD
    obtain ⟨fu, rfl⟩ : ∃ m, fu = m + 1 := ⟨fu - 1, by omega⟩
    obtain ⟨fv, rfl⟩ : ∃ m, fv = m + 1 := ⟨fv - 1, by omega⟩
    obtain ⟨x, hx, k1, k2, k3⟩ := hK s (by omega)
    have i60 := inb_nI (n := s) (N := 60) (by omega) (by omega)
    have i120 := inb_nI (n := 60 + s) (N := 120) (by omega) (by omega)
    have e60 : (60 : Int32) + nI s = nI (60 + s) := by rw [show (60 : Int32) = nI 60 from rfl, nI_add]
    have cs : (nI s).toNatClampNeg = s := nI_clamp (by omega)
    have c60 : (nI (60 + s)).toNatClampNeg = 60 + s := nI_clamp (by omega)
    by_cases q : 6 ≤ x
    · obtain ⟨t, t1, t2, t3⟩ := k3 q
      obtain ⟨o, o1, o2, o3⟩ := pn_ok (r2 := r2) (mr := mr) hP hPN t1 h14 h47
      have hC : f_X5_findCalled_2 i2 l2 (fu + 1) r2 (nI s) = f_X5_findCalled_48 i2 l2 (f_X5_findCalled_2 i2 l2 fu) (va_up r2 4 (upd (r2 4) s (oI o))) (nI s) := by
        have h32 : f_X5_findCalled_32 i2 l2 (f_X5_findCalled_2 i2 l2 fu) r2 (nI s) = f_X5_findCalled_48 i2 l2 (f_X5_findCalled_2 i2 l2 fu) (va_up r2 4 (upd (r2 4) s (oI o))) (nI s) := by
          rw [f_X5_findCalled_32, ck_t i60, cs, t2, o1, bd_some, ck_t i60]
        rw [f_X5_findCalled_2, h13, if_neg (nI_ge (by omega) (by omega)), ck_t i60, ck_t i60, cs, k1, h32]
        rcases (show x = 6 ∨ x = 7 by omega) with e | e
        · subst e
          rw [if_pos (show nI 6 = (6 : Int32) from rfl)]
        · subst e
          rw [if_neg (show ¬ nI 7 = (6 : Int32) by decide), if_pos (show nI 7 = (7 : Int32) from rfl)]
      have hR : f_X13_readProgram_169 (fv + 1) mi ml mr (nI s) = f_X13_readProgram_212 (f_X13_readProgram_169 fv) mi ml (va_up mr 31 (upd (mr 31) (60 + s) (oI o))) (nI s) (nI (60 + s)) := by
        rw [f_X13_readProgram_169, h48, if_neg (nI_ge (by omega) (by omega)), e60, ck_t i120, c60, k2, if_pos (show (6 : Int32) ≤ nI x from nI_le (a := 6) q (by omega)), ck_t i60, cs, t3, o2, bd_some, ck_t i120]
      rw [f_X5_findCalled_48, ck_t i60, cs, up_s, pk_us] at hC
      rw [f_X13_readProgram_212, ck_t i120, c60, up_s, pk_us] at hR
      cases o with
      | none =>
        right
        rw [if_pos (show oI none = -1 from rfl)] at hC
        rw [if_pos (show oI none = -1 from rfl), f_X13_readProgram_228, need0, bt_r] at hR
        exact ⟨_, _, hC, hR⟩
      | some p =>
        have hp := o3 p rfl
        rw [if_neg (oI_m1 (by omega)), f_X5_findCalled_60, nI_1] at hC
        rw [if_neg (oI_m1 (by omega)), f_X13_readProgram_228, need1, bt_l, f_X13_readProgram_232, nI_1] at hR
        have hK' : KK n (va_up r2 4 (upd (r2 4) s (oI (some p)))) l2 (va_up mr 31 (upd (mr 31) (60 + s) (oI (some p)))) ml := by
          intro u hu
          rw [up_n (by omega), up_n (by omega)]
          exact hK u hu
        have hD' : DN (s + 1) P (va_up r2 4 (upd (r2 4) s (oI (some p)))) (va_up mr 31 (upd (mr 31) (60 + s) (oI (some p)))) := by
          intro u hu z hz1 hz2 hz3
          rw [up_n (by omega)] at hz3
          rw [up_s, up_s]
          by_cases e : u = s
          · subst e
            exact ⟨p, hp, by rw [pk_us]; rfl, by rw [pk_us]; rfl⟩
          · rw [pk_un e, pk_un (by omega)]
            exact hD u (by omega) z hz1 hz2 hz3
        rcases ih (s + 1) fu fv _ _ (by omega) (by omega) (by omega) hK' hD' with ⟨r2', mr', a1, a2, a3, a4, a5, a6⟩ | ⟨r2', mr', a1, a2⟩
        · left
          refine ⟨r2', mr', hC.trans a1, hR.trans a2, a3, fun z hz => by rw [a4 z hz, up_n hz], fun u y hy hu => ?_, fun z hz => by rw [a6 z hz, up_n hz]⟩
          have hu' : va_up r2 4 (upd (r2 4) s (oI (some p))) 0 u = nI y := by rw [up_n (by omega)]; exact hu
          rw [a5 u y hy hu', up_s]
          refine pk_un (fun e => ?_)
          subst e
          have := nI_inj (by omega) (by omega) (k1.symm.trans hu)
          omega
        · exact Or.inr ⟨r2', mr', hC.trans a1, hR.trans a2⟩
    · have n6 : ¬ nI x = (6 : Int32) := fun z => by
        have := nI_inj (a := x) (b := 6) (by omega) (by omega) z
        omega
      have n7 : ¬ nI x = (7 : Int32) := fun z => by
        have := nI_inj (a := x) (b := 7) (by omega) (by omega) z
        omega
      have hC : f_X5_findCalled_2 i2 l2 (fu + 1) r2 (nI s) = f_X5_findCalled_2 i2 l2 fu r2 (nI (s + 1)) := by
        rw [f_X5_findCalled_2, h13, if_neg (nI_ge (by omega) (by omega)), ck_t i60, ck_t i60, cs, k1, if_neg n6, if_neg n7, f_X5_findCalled_60, nI_1]
      have hR : f_X13_readProgram_169 (fv + 1) mi ml mr (nI s) = f_X13_readProgram_169 fv mi ml mr (nI (s + 1)) := by
        rw [f_X13_readProgram_169, h48, if_neg (nI_ge (by omega) (by omega)), e60, ck_t i120, c60, k2, if_neg (show ¬ (6 : Int32) ≤ nI x from nI_ge (b := 6) (by omega) (by omega)), f_X13_readProgram_232, nI_1]
      have hD' : DN (s + 1) P r2 mr := by
        intro u hu z hz1 hz2 hz3
        by_cases e : u = s
        · subst e
          have := nI_inj (by omega) (by omega) (k1.symm.trans hz3)
          omega
        · exact hD u (by omega) z hz1 hz2 hz3
      rcases ih (s + 1) fu fv r2 mr (by omega) (by omega) (by omega) hK hD' with ⟨r2', mr', a1, a2, a3⟩ | ⟨r2', mr', a1, a2⟩
      · exact Or.inl ⟨r2', mr', hC.trans a1, hR.trans a2, a3⟩
      · exact Or.inr ⟨r2', mr', hC.trans a1, hR.trans a2⟩
/-- the end of a program's reading -/
theorem prog_end {b : Nat → Nat} {N M n P : Nat} {T : Nat → List Nat} {CL : List Int32} {ML : List MKt} {lv : Nat → Nat} {i0 : Nat → Int32} {r0 : Nat → Nat → Int32} {i1 : Nat → Int32} {r1 : Nat → Nat → Int32} {l1 : Nat → Nat → Int64} {i2 : Nat → Int32} {r2 : Nat → Nat → Int32} {l2 : Nat → Nat → Int64} {mi : Nat → Int32} {mr : Nat → Nat → Int32} {ml : Nat → Nat → Int64} (hX : CX b N M r1 l1 mr) (hS : PSt b N M M n P T CL ML lv i0 i1 i2 r2 l2 mi mr ml) :
  (∃ r2' mr', f_X6_readInto_131 i0 r0 i1 l1 r1 i2 l2 r2 = some (1, i0, r0, i1, l1, r1, i2, l2, r2') ∧ f_X13_readProgram_169 2000000 mi ml mr 0 = some (.inl (mi, ml, mr')) ∧ DN n P r2' mr' ∧ (∀ z, z ≠ 4 → r2' z = r2 z) ∧ (∀ t x, x < 6 → r2 0 t = nI x → r2' 4 t = r2 4 t) ∧ ∀ z, z ≠ 31 → mr' z = mr z) ∨
  (∃ j1 q2 mj mq, f_X6_readInto_131 i0 r0 i1 l1 r1 i2 l2 r2 = some (0, i0, r0, j1, l1, r1, i2, l2, q2) ∧ f_X13_readProgram_169 2000000 mi ml mr 0 = some (.inr (mj, ml, mq)) ∧ FT j1 mj) := by
  obtain ⟨hA, ⟨h4, h5, h8⟩, ⟨h13, h48, h50⟩, ⟨h14, h47, hP⟩, ⟨hCL, hML, hc, hm, hn⟩, hW, hPN, hND, hPR, hFr⟩ := hS
  have hK : KK n r2 l2 mr ml := by
    intro s hs
    obtain ⟨⟨x, x1, x2, x3, x4, x5, x6, x7, x8⟩, _⟩ := hND s hs
    exact ⟨x, x1, x2, x3, x8⟩
  rcases called_go hn hP hPN h13 h48 h14 h47 n 0 2000000 2000000 r2 mr (by omega) (by omega) (by omega) hK (fun t ht => by omega) with ⟨r2', mr', a1, a2, a3⟩ | ⟨r2', mr', a1, a2⟩
  · left
    refine ⟨r2', mr', ?_, a2, a3⟩
    have a1' : f_X5_findCalled i2 r2 l2 = some (1, r2') := a1
    rw [f_X6_readInto_131, if_pos h4, f_X6_readInto_147, ca_failed hA.1, bd_some, if_pos rfl, a1', bd_some, if_neg i01, f_X6_readInto_175, ca_failed hA.1, bd_some, if_pos rfl]
  · right
    obtain ⟨i', b1, b2⟩ := both_fail hX hA (c := 5) (by decide)
    have a1' : f_X5_findCalled i2 r2 l2 = some (0, r2') := a1
    refine ⟨i', r2', _, mr', ?_, a2, b2⟩
    rw [f_X6_readInto_131, if_pos h4, f_X6_readInto_147, ca_failed hA.1, bd_some, if_pos rfl, a1', bd_some, if_pos rfl, b1, bd_some, f_X6_readInto_175, fm_failed b2.1, bd_some, if_neg i01]

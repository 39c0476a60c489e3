/-! ===== order: the walk ===== -/
/-- a time that brings u home is a multiple of the least one -/
theorem per_dvd {f : Nat → Nat} {u p : Nat} (hp0 : 1 ≤ p) (hp1 : itr f p u = u) (hp2 : ∀ k, 1 ≤ k → k < p → itr f k u ≠ u) : ∀ (n : Nat), itr f n u = u → p ∣ n := by
  have hadd : ∀ (a b : Nat), itr f (a + b) u = itr f b (itr f a u) := by
    intro a b
    induction b with
    | zero => rfl
    | succ b ih => exact congrArg f ih
  intro n
  induction n using Nat.strongRecOn with
  | ind n ih =>
    intro h
    by_cases h0 : n = 0
    · exact ⟨0, by omega⟩
    · by_cases h1 : n < p
      · exact absurd h (hp2 n (by omega) h1)
      · have h2 : itr f (n - p) u = u := by
          have h3 := hadd p (n - p)
          rw [hp1, show p + (n - p) = n by omega, h] at h3
          exact h3.symm
        obtain ⟨k, hk⟩ := ih (n - p) (by omega) h2
        exact ⟨k + 1, by rw [Nat.mul_add, ← hk]; omega⟩
theorem itr_comm {f : Nat → Nat} (v : Nat) (a : Nat) : ∀ (b : Nat), itr f b (itr f a v) = itr f (a + b) v
  | 0 => rfl
  | b + 1 => congrArg f (itr_comm v a b)
theorem orb_home {f : Nat → Nat} {v p : Nat} (hp1 : itr f p v = v) (j : Nat) : itr f p (itr f j v) = itr f j v := by
  rw [itr_comm, Nat.add_comm, ← itr_comm, hp1]
theorem nodup_le : ∀ {N : Nat} {R : List Nat}, R.Nodup → (∀ u ∈ R, u < N) → R.length ≤ N := by
  intro N R hd hl
  apply Nat.le_of_not_lt
  intro h
  obtain ⟨i, j, h1, h2, h3⟩ := pigeon N (fun i => R.getD i 0) (fun i hi => by
    have hi2 : i < R.length := by omega
    show R.getD i 0 < N
    rw [List.getD_eq_getElem?_getD, List.getElem?_eq_getElem hi2]
    exact hl _ (List.getElem_mem hi2))
  have hi : i < R.length := by omega
  have hj : j < R.length := by omega
  have h4 : R.getD i 0 = R.getD j 0 := h3
  rw [List.getD_eq_getElem?_getD, List.getD_eq_getElem?_getD, List.getElem?_eq_getElem hi, List.getElem?_eq_getElem hj] at h4
  have h5 : R[i]? = R[j]? := by
    rw [List.getElem?_eq_getElem hi, List.getElem?_eq_getElem hj]
    exact congrArg some h4
  have := (List.getElem?_inj hi hd).mp h5
  omega
/-- what is known of the lengths met so far: a divides a number that is not too great -/
def LG (N : Nat) (M : Nat → Prop) (f : Nat → Nat) (a : Nat) : Prop := ∃ (D R : List Nat), D.Nodup ∧ (∀ c ∈ D, 0 < c) ∧ smN D ≤ R.length ∧ R.Nodup ∧ (∀ u ∈ R, u < N ∧ M u) ∧ a ∣ 6 * prW D ∧ 0 < a ∧ (∀ u, u < N → M u → ∃ c, c ∈ D ∧ c ∣ a ∧ itr f c u = u)
theorem LG.lt {N : Nat} {M : Nat → Prop} {f : Nat → Nat} {a : Nat} (h : LG N M f a) (hN : N ≤ 256) : 0 < a ∧ a < 2 ^ 63 := by
  obtain ⟨D, R, h1, h2, h3, h4, h5, h6, h7, -⟩ := h
  have hR := nodup_le h4 (fun u hu => (h5 u hu).1)
  have hB := B_lt h1 (by omega)
  refine ⟨h7, Nat.lt_of_le_of_lt (Nat.le_of_dvd ?_ h6) hB⟩
  exact Nat.mul_pos (by omega) (prW_pos h2)
theorem LG.or {N : Nat} {M : Nat → Prop} {f : Nat → Nat} {a : Nat} (h : LG N M f a) (hf : ∀ v, v < N → f v < N) (hi : ∀ v w, f v = f w → v = w) (hC : CL N f M) {v p : Nat} (hv : v < N) (hm : ¬ M v) (hp0 : 1 ≤ p) (hp1 : itr f p v = v) (hp2 : ∀ k, 1 ≤ k → k < p → itr f k v ≠ v) : LG N (OR f v p M) f (Nat.lcm a p) := by
  obtain ⟨D, R, h1, h2, h3, h4, h5, h6, h7, h8⟩ := h
  have hl0 : 0 < Nat.lcm a p := Nat.lcm_pos h7 hp0
  have hO : ((List.range p).map (fun j => itr f j v)).Nodup := by
    rw [List.nodup_iff_pairwise_ne, List.pairwise_map, List.pairwise_iff_getElem]
    intro i j hi2 hj2 hij e
    rw [List.length_range] at hi2 hj2
    rw [List.getElem_range, List.getElem_range] at e
    exact orb_ne hi hp2 hij hj2 e
  have hdis : ∀ x ∈ R, ∀ y ∈ (List.range p).map (fun j => itr f j v), x ≠ y := by
    intro x hx y hy e
    obtain ⟨j, -, rfl⟩ := List.mem_map.mp hy
    have hx2 := (h5 x hx).2
    rw [e] at hx2
    exact hm ((hC.its hf hv j).mpr hx2)
  have hR : (R ++ (List.range p).map (fun j => itr f j v)).Nodup := List.nodup_append.mpr ⟨h4, hO, hdis⟩
  have hRm : ∀ u ∈ R ++ (List.range p).map (fun j => itr f j v), u < N ∧ OR f v p M u := by
    intro u hu
    rcases List.mem_append.mp hu with hu | hu
    · exact ⟨(h5 u hu).1, Or.inl (h5 u hu).2⟩
    · obtain ⟨j, hj, rfl⟩ := List.mem_map.mp hu
      exact ⟨itr_lt hf j v hv, Or.inr ⟨j, List.mem_range.mp hj, rfl⟩⟩
  have hRl : (R ++ (List.range p).map (fun j => itr f j v)).length = R.length + p := by
    rw [List.length_append, List.length_map, List.length_range]
  have hold : ∀ (D' : List Nat), (∀ c ∈ D, c ∈ D') → p ∈ D' → ∀ u, u < N → OR f v p M u → ∃ c, c ∈ D' ∧ c ∣ Nat.lcm a p ∧ itr f c u = u := by
    intro D' hD hpD u hu hmu
    rcases hmu with hmu | ⟨j, -, rfl⟩
    · obtain ⟨c, k1, k2, k3⟩ := h8 u hu hmu
      exact ⟨c, hD c k1, Nat.dvd_trans k2 (Nat.dvd_lcm_left a p), k3⟩
    · exact ⟨p, hpD, Nat.dvd_lcm_right a p, orb_home hp1 j⟩
  by_cases hpD : p ∈ D
  · have hpB : p ∣ 6 * prW D := by
      have : ∀ (D : List Nat), p ∈ D → p ∣ 6 * prW D := by
        intro D
        induction D with
        | nil => intro h; cases h
        | cons c t ih =>
          intro h
          rcases List.mem_cons.mp h with e | e
          · subst e
            exact B_new _ _
          · exact B_old (ih e)
      exact this D hpD
    exact ⟨D, _, h1, h2, by rw [hRl]; omega, hR, hRm, Nat.lcm_dvd h6 hpB, hl0, hold D (fun c hc => hc) hpD⟩
  · refine ⟨p :: D, _, List.nodup_cons.mpr ⟨hpD, h1⟩, ?_, ?_, hR, hRm, Nat.lcm_dvd (B_old h6) (B_new p D), hl0, hold _ (fun c hc => List.mem_cons_of_mem _ hc) List.mem_cons_self⟩
    · intro c hc
      rcases List.mem_cons.mp hc with e | e
      · omega
      · exact h2 c e
    · rw [hRl]
      show p + smN D ≤ R.length + p
      omega
theorem gcd_of_dvd {a c : Nat} (ha : 0 < a) (hc : c ∣ a) : Nat.lcm a c = a := by
  apply Nat.dvd_antisymm
  · exact Nat.lcm_dvd (Nat.dvd_refl a) hc
  · exact Nat.dvd_lcm_left a c
theorem order_go {L j : Nat} {l : List FSt} {i0 i mi : Nat → Int32} {r : Nat → Nat → Int32} {ml : Nat → Nat → Int64} (hj : j < 8) (hf : fineF L l) (hF : FL L l i r) (mr : Nat → Nat → Int32) (hM : MF L l mr j) (h15 : ∀ u, u < 2 ^ L → mr 15 u = nI (runS l u)) : ∀ (d k n n2 a : Nat) (M : Nat → Prop) (r0 : Nat → Nat → Int32), TB (2 ^ L) (runS l) M (r0 0) → CL (2 ^ L) (runS l) M → LG (2 ^ L) M (runS l) a → k + d = 2 ^ L → d < n → d < n2 → ∃ b q, f_X8_runsTillAllAreThere_13 i0 i r n r0 (lN a) (nI k) = some (b, q) ∧ f_X13_order_21 mi ml n2 mr (nI j) (lN a) (nI k) = some (b, mr) := by
  have hL := hf.2.1
  have h256 := p2 hL
  have hlt : ∀ v, v < 2 ^ L → runS l v < 2 ^ L := fun v hv => runS_lt hf.2.2.2 hv
  have hin : ∀ v w, runS l v = runS l w → v = w := fun v w e => runS_inj hf.2.2.2 e
  have ij := inb_nI (N := 8) hj (by omega)
  intro d
  induction d with
  | zero =>
    intro k n n2 a M r0 hT hC hG hk hn hn2
    obtain ⟨m, rfl⟩ : ∃ m, n = m + 1 := ⟨n - 1, by omega⟩
    obtain ⟨m2, rfl⟩ : ∃ m, n2 = m + 1 := ⟨n2 - 1, by omega⟩
    refine ⟨lN a, r0, ?_, ?_⟩
    · rw [f_X8_runsTillAllAreThere_13, rows_ok hL hF, bd_some, if_pos (nI_le (by omega) (by omega))]
    · rw [f_X13_order_21, ck_t ij, nI_clamp (by omega), hM.1, sh1 (by omega), if_pos (nI_le (by omega) (by omega))]
  | succ d ih =>
    intro k n n2 a M r0 hT hC hG hk hn hn2
    obtain ⟨m, rfl⟩ : ∃ m, n = m + 1 := ⟨n - 1, by omega⟩
    obtain ⟨m2, rfl⟩ : ∃ m, n2 = m + 1 := ⟨n2 - 1, by omega⟩
    have hk2 : k < 2 ^ L := by omega
    have ik := inb_nI (N := 256) (n := k) (by omega) (by omega)
    obtain ⟨p, p1, p3, p4, p5⟩ := period hlt hin hk2
    obtain ⟨ha0, ha⟩ := hG.lt h256
    have hg : 0 < Nat.gcd a p := Nat.gcd_pos_of_pos_left p ha0
    have hga : Nat.gcd a p ≤ a := Nat.le_of_dvd ha0 (Nat.gcd_dvd_left a p)
    have hdiv : lN a / lN (Nat.gcd a p) * lN p = lN (Nat.lcm a p) := by
      rw [pk_lDiv ha hg (by omega), lN_mul, lcm_eq a p ha0]
    have hpl : (nI p).toInt64 = lN p := nI_l (by omega)
    rw [f_X8_runsTillAllAreThere_13, rows_ok hL hF, bd_some, if_neg (nI_ge (by omega) (by omega)), ck_t ik, nI_clamp (by omega), f_X13_order_21, ck_t ij, nI_clamp (n := j) (by omega), hM.1, sh1 (by omega), if_neg (nI_ge (by omega) (by omega)), cycleOf_ok hf h15 hk2 p1 p3 p4 p5, bd_some, hpl, common_ok ha (by omega), bd_some, ck_t (nzl_t hg (by omega)), hdiv, nI_1]
    by_cases hm : M k
    · have hpa : p ∣ a := by
        obtain ⟨D, R, -, -, -, -, -, -, -, h8⟩ := hG
        obtain ⟨c, -, c2, c3⟩ := h8 k hk2 hm
        exact Nat.dvd_trans (per_dvd p1 p4 p5 c c3) c2
      rw [if_pos ((hT k hk2).1 hm), f_X8_runsTillAllAreThere_54, nI_1, gcd_of_dvd ha0 hpa]
      exact ih (k + 1) m m2 a M r0 hT hC hG (by omega) (by omega) (by omega)
    · obtain ⟨r', t1, t2⟩ := take_ok (i := i0) h256 hlt hin hT hC hk2 hm p1 p3 p4 p5
      rw [if_neg (by rw [(hT k hk2).2 hm]; exact nm1 (by have := hlt k hk2; omega)), t1, bd_some]
      show ∃ b q, bd (f_X8_greatestCommon (lN a) (nI p).toInt64) (fun q7 => ck (nzl q7) (f_X8_runsTillAllAreThere_54 i0 i r (f_X8_runsTillAllAreThere_13 i0 i r m) r' (lN a / q7 * (nI p).toInt64) (nI k))) = some (b, q) ∧ _
      rw [hpl, gc_ok ha0 ha (by omega), bd_some, ck_t (nzl_t hg (by omega)), hdiv, f_X8_runsTillAllAreThere_54, nI_1]
      exact ih (k + 1) m m2 (Nat.lcm a p) (OR (runS l) k p M) r' t2 (hC.or hin p1 p4) (hG.or hlt hin hC hk2 hm p1 p4 p5) (by omega) (by omega) (by omega)
theorem order_ok {P : Nat → Nat → Int32} {S : Nat → Nat → Nat → Int32} {i mi : Nat → Int32} {r mr : Nat → Nat → Int32} {ml : Nat → Nat → Int64} (h : GF P S mr) (x1 : Int32) : ∃ q m, f_X11_order i r P S x1 = some q ∧ f_X13_order mi mr ml x1 = some m ∧ q.1 = m.1 := by
  rcases fl_cases x1 with ⟨j, hj, hx, ha, hb⟩ | ⟨ha, hb⟩
  · obtain ⟨L, l, hf, hF, hM⟩ := h j hj
    have h256 := p2 hf.2.1
    have c6 := inb_nI (N := 6) hj (by omega)
    obtain ⟨g, g1, g2⟩ := fillT hf hF (r 0)
    obtain ⟨mr1, e1, e2⟩ := findT (mi := mi) (ml := ml) (show j < 8 by omega) hf hM
    have F := fr_X13_findTable e1
    obtain ⟨b, q, k1, k2⟩ := order_go (i0 := i) (mi := mi) (ml := ml) (show j < 8 by omega) hf hF mr1 (hM.congr (F 10 (by omega)) (F 11 (by omega)) (F 12 (by omega)) (F 13 (by omega)) (F 14 (by omega))) e2 (2 ^ L) 0 2000000 2000000 1 (fun _ => False) (va_up r 0 g) (fun u hu => ⟨fun q => q.elim, fun _ => by rw [up_s]; exact g2 u hu⟩) (fun u hu => Iff.rfl) ⟨[], [], List.nodup_nil, (fun c hc => by cases hc), Nat.le_refl _, List.nodup_nil, (fun u hu => by cases hu), Nat.one_dvd _, by omega, fun u _ q => q.elim⟩ (by omega) (by omega) (by omega)
    have k1' : f_X8_runsTillAllAreThere_13 i (P j) (S j) 2000000 (va_up r 0 g) 1 0 = some (b, q) := k1
    have k2' : f_X13_order_21 mi ml 2000000 mr1 (nI j) 1 0 = some (b, mr1) := k2
    refine ⟨(b, q), (b, mr1), ?_, ?_, rfl⟩
    · rw [f_X11_order, ha, bd_some, if_pos rfl, hx, ck_t c6, nI_clamp (by omega), f_X8_runsTillAllAreThere, g1, bd_some, k1']
      rfl
    · rw [f_X13_order, hb, bd_some, if_neg n10, hx, e1, bd_some, k2']
  · refine ⟨(-2, r), (-2, mr), ?_, ?_, rfl⟩
    · rw [f_X11_order, ha, bd_some, if_neg n10]
    · rw [f_X13_order, hb, bd_some, if_pos rfl]

/-! ===== least: distances, the least word, the search by layers ===== -/
def Dst (gs : List Nat) (w n : Nat) : Prop := RcN gs n w ∧ ∀ m, m < n → ¬ RcN gs m w
theorem Dst.uq {gs : List Nat} {w n m : Nat} (h : Dst gs w n) (h' : Dst gs w m) : n = m := by
  rcases Nat.lt_trichotomy n m with q | q | q
  · exact absurd h.1 (h'.2 n q)
  · exact q
  · exact absurd h'.1 (h.2 m q)
theorem ex_first {P : Nat → Prop} : ∀ n, P n → ∃ m, m ≤ n ∧ P m ∧ ∀ j, j < m → ¬ P j := by
  intro n
  induction n using Nat.strongRecOn with
  | _ n ih =>
    intro h
    by_cases q : ∃ j, j < n ∧ P j
    · obtain ⟨j, hj, hp⟩ := q
      obtain ⟨m, a, b, c⟩ := ih j hj hp
      exact ⟨m, by omega, b, c⟩
    · exact ⟨n, Nat.le_refl _, h, fun j hj hp => q ⟨j, hj, hp⟩⟩
theorem RN_Dst {gs : List Nat} {w n : Nat} (h : RcN gs n w) : ∃ m, m ≤ n ∧ Dst gs w m := by
  obtain ⟨m, a, b, c⟩ := ex_first (P := fun m => RcN gs m w) n h
  exact ⟨m, a, b, c⟩
theorem Dst.nx {gs : List Nat} {w n g : Nat} (h : Dst gs w (n + 1)) (hg : g ∈ gs) (q : RcN gs n (pwG g w)) : Dst gs (pwG g w) n := ⟨q, fun m hm hq => h.2 (m + 1) (by omega) (Or.inr ⟨g, hg, hq⟩)⟩
/-- the first gate that leads to P -/
def FsG (gs : List Nat) (P : Nat → Prop) (u g : Nat) : Prop := gs[u]? = some g ∧ P g ∧ ∀ j x, j < u → gs[j]? = some x → ¬ P x
/-- the least word: each gate the first that comes one nearer -/
def PthR (gs : List Nat) : Nat → Nat → List Nat → Prop
  | 0, _, l => l = []
  | n + 1, w, l => ∃ u g l', l = g :: l' ∧ FsG gs (fun x => Dst gs (pwG x w) n) u g ∧ PthR gs n (pwG g w) l'
theorem Dst.pth {gs : List Nat} : ∀ {n w : Nat}, Dst gs w n → ∃ l, PthR gs n w l
  | 0, w, _ => ⟨[], rfl⟩
  | n + 1, w, h => by
    rcases (show RcN gs n w ∨ ∃ g ∈ gs, RcN gs n (pwG g w) from h.1) with q | ⟨g, hg, q⟩
    · exact absurd q (h.2 n (by omega))
    · obtain ⟨u, hu⟩ := List.getElem?_of_mem hg
      obtain ⟨m, a, ⟨x, b1, b2⟩, c⟩ := ex_first (P := fun u => ∃ x, gs[u]? = some x ∧ Dst gs (pwG x w) n) u ⟨g, hu, h.nx hg q⟩
      obtain ⟨l, hl⟩ := b2.pth
      exact ⟨x :: l, m, x, l, rfl, ⟨b1, b2, fun j y hj hy hd => c j hj ⟨y, hy, hd⟩⟩, hl⟩
theorem PthR.len {gs : List Nat} : ∀ {n w : Nat} {l : List Nat}, PthR gs n w l → l.length = n ∧ ∀ g ∈ l, g ∈ gs
  | 0, w, l, h => by
    have h : l = [] := h
    subst h
    exact ⟨rfl, fun g hg => by cases hg⟩
  | n + 1, w, l, ⟨u, g, l', e, f, p⟩ => by
    obtain ⟨a, b⟩ := p.len
    subst e
    refine ⟨by show l'.length + 1 = _; rw [a], fun x hx => ?_⟩
    rcases List.mem_cons.mp hx with e | hx
    · rw [e]
      exact List.mem_of_getElem? f.1
    · exact b x hx
/-- a word of n gates that ends at distance R -/
def Wrd (gs : List Nat) (R : Nat) : Nat → Nat → Prop
  | 0, w => Dst gs w R
  | n + 1, w => ∃ g ∈ gs, Wrd gs R n (pwG g w)
theorem Wrd.rn {gs : List Nat} {R : Nat} : ∀ {n w : Nat}, Wrd gs R n w → RcN gs (R + n) w
  | 0, _, h => h.1
  | _ + 1, _, ⟨g, hg, h⟩ => Or.inr ⟨g, hg, h.rn⟩
theorem Wrd.no {gs : List Nat} {R n w m : Nat} (h : Dst gs w m) (hm : R + n < m) : ¬ Wrd gs R n w := fun q => h.2 _ hm q.rn
/-- the search by layers: L found, the first m are the ball d, the first k of them are done -/
def LyB (gs L : List Nat) (d m k : Nat) : Prop :=
  L.Nodup ∧ (∀ w ∈ L, TbW w) ∧ (∀ w, TbW w → (RcN gs d w ↔ ∃ j, j < m ∧ L[j]? = some w)) ∧ (∀ j w, m ≤ j → L[j]? = some w → RcN gs (d + 1) w) ∧ m ≤ L.length ∧ k ≤ m ∧ (∀ j w, j < k → L[j]? = some w → ∀ g ∈ gs, pwG g w ∈ L) ∧ (∀ j w, k ≤ j → j < m → L[j]? = some w → Dst gs w d)
theorem LyB.nd {gs L : List Nat} {d m k : Nat} (h : LyB gs L d m k) : L.Nodup := h.1
theorem LyB.pw {gs L : List Nat} {d m k : Nat} (h : LyB gs L d m k) : ∀ w ∈ L, TbW w := h.2.1
theorem LyB.ball {gs L : List Nat} {d m k : Nat} (h : LyB gs L d m k) : ∀ w, TbW w → (RcN gs d w ↔ ∃ j, j < m ∧ L[j]? = some w) := h.2.2.1
theorem LyB.next {gs L : List Nat} {d m k : Nat} (h : LyB gs L d m k) : ∀ j w, m ≤ j → L[j]? = some w → RcN gs (d + 1) w := h.2.2.2.1
theorem LyB.le {gs L : List Nat} {d m k : Nat} (h : LyB gs L d m k) : m ≤ L.length := h.2.2.2.2.1
theorem LyB.km {gs L : List Nat} {d m k : Nat} (h : LyB gs L d m k) : k ≤ m := h.2.2.2.2.2.1
theorem LyB.done {gs L : List Nat} {d m k : Nat} (h : LyB gs L d m k) : ∀ j w, j < k → L[j]? = some w → ∀ g ∈ gs, pwG g w ∈ L := h.2.2.2.2.2.2.1
theorem LyB.lay {gs L : List Nat} {d m k : Nat} (h : LyB gs L d m k) : ∀ j w, k ≤ j → j < m → L[j]? = some w → Dst gs w d := h.2.2.2.2.2.2.2
theorem nd_at {L : List Nat} (h : L.Nodup) {i j w : Nat} (hi : L[i]? = some w) (hj : L[j]? = some w) : i = j := by
  obtain ⟨a1, a2⟩ := List.getElem?_eq_some_iff.mp hi
  obtain ⟨b1, b2⟩ := List.getElem?_eq_some_iff.mp hj
  have hp := List.pairwise_iff_getElem.mp h
  rcases Nat.lt_trichotomy i j with q | q | q
  · exact absurd (a2.trans b2.symm) (hp i j a1 b1 q)
  · exact q
  · exact absurd (b2.trans a2.symm) (hp j i b1 a1 q)
theorem LyB.start (gs : List Nat) : LyB gs [e0W] 0 1 0 := by
  refine ⟨by simp, fun w hw => ?_, fun w hw => ?_, fun j w hj h => ?_, by simp, by omega, fun j w hj => by omega, fun j w _ hj h => ?_⟩
  · rw [List.mem_singleton.mp hw]
    exact e0_PW
  · constructor
    · intro q
      have q : w = e0W := q
      exact ⟨0, by omega, by rw [q]; rfl⟩
    · rintro ⟨j, hj, h⟩
      have : j = 0 := by omega
      subst this
      exact (Option.some.inj h).symm
  · have := (List.getElem?_eq_some_iff.mp h).1
    have : j < 1 := this
    omega
  · have : j = 0 := by omega
    subst this
    have : w = e0W := (Option.some.inj h).symm
    exact ⟨this, fun m hm => by omega⟩
theorem LyB.notin {gs L : List Nat} {d m k j w : Nat} (h : LyB gs L d m k) (hj : m ≤ j) (hw : L[j]? = some w) : ¬ RcN gs d w := fun q => by
  obtain ⟨i, hi, e⟩ := (h.ball w (h.pw w (List.mem_of_getElem? hw))).mp q
  have := nd_at h.nd e hw
  omega
theorem LyB.far {gs L : List Nat} {d m k j w : Nat} (h : LyB gs L d m k) (hj : m ≤ j) (hw : L[j]? = some w) : Dst gs w (d + 1) := ⟨h.next j w hj hw, fun n hn q => h.notin hj hw (RN_le q (by omega))⟩
/-- the next layer begins -/
theorem LyB.turn {gs L : List Nat} (hz : ∀ g ∈ gs, g ∈ zG) {d m : Nat} (h : LyB gs L d m m) : LyB gs L (d + 1) L.length m := by
  refine ⟨h.nd, h.pw, fun w hw => ?_, fun j w hj e => ?_, Nat.le_refl _, h.le, h.done, fun j w hj _ e => h.far hj e⟩
  · constructor
    · intro q
      have key : w ∈ L := by
        rcases (show RcN gs d w ∨ ∃ g ∈ gs, RcN gs d (pwG g w) from q) with q | ⟨g, hg, q⟩
        · obtain ⟨j, _, e⟩ := (h.ball w hw).mp q
          exact List.mem_of_getElem? e
        · obtain ⟨j, hj, e⟩ := (h.ball _ (pw_PW (hz g hg) hw)).mp q
          have := h.done j _ hj e g hg
          rw [pw_pw (hz g hg) hw.1] at this
          exact this
      obtain ⟨j, e⟩ := List.getElem?_of_mem key
      exact ⟨j, (List.getElem?_eq_some_iff.mp e).1, e⟩
    · rintro ⟨j, hj, e⟩
      by_cases q : j < m
      · exact Or.inl ((h.ball w hw).mpr ⟨j, q, e⟩)
      · exact h.next j w (by omega) e
  · have := (List.getElem?_eq_some_iff.mp e).1
    omega
/-- nothing new: the ball is closed -/
theorem LyB.shut {gs L : List Nat} (hz : ∀ g ∈ gs, g ∈ zG) {d m : Nat} (h : LyB gs L d m m) (e : L.length = m) : ∀ n w, TbW w → RcN gs n w → RcN gs d w := by
  have one : ∀ w, TbW w → RcN gs (d + 1) w → RcN gs d w := fun w hw q => by
    have h2 := ((h.turn hz).ball w hw).mp q
    rw [e] at h2
    exact (h.ball w hw).mpr h2
  have all : ∀ n w, TbW w → RcN gs (d + n) w → RcN gs d w := by
    intro n
    induction n with
    | zero => exact fun w _ q => q
    | succ n ih =>
      intro w hw q
      rcases (show RcN gs (d + n) w ∨ ∃ g ∈ gs, RcN gs (d + n) (pwG g w) from q) with q | ⟨g, hg, q⟩
      · exact ih w hw q
      · exact one w hw (Or.inr ⟨g, hg, ih _ (pw_PW (hz g hg) hw) q⟩)
  exact fun n w hw q => all n w hw (RN_le q (by omega))
/-- one node is taken in while node k is looked at -/
theorem LyB.add {gs L : List Nat} (hz : ∀ g ∈ gs, g ∈ zG) {d m k w g : Nat} (h : LyB gs L d m k) (hk : k < m) (hw : L[k]? = some w) (hg : g ∈ gs) (hn : pwG g w ∉ L) : LyB gs (L ++ [pwG g w]) d m k := by
  have hp := h.pw w (List.mem_of_getElem? hw)
  have hkl := (List.getElem?_eq_some_iff.mp hw).1
  have lo : ∀ j x, j < m → ((L ++ [pwG g w])[j]? = some x ↔ L[j]? = some x) := fun j x hj => by
    rw [List.getElem?_append_left (by have := h.le; omega)]
  refine ⟨?_, fun x hx => ?_, fun x hx => ?_, fun j x hj e => ?_, ?_, h.km, fun j x hj e y hy => ?_, fun j x h1 h2 e => h.lay j x h1 h2 ((lo j x h2).mp e)⟩
  · rw [List.nodup_append]
    refine ⟨h.nd, by simp, fun a ha b hb => ?_⟩
    rw [List.mem_singleton.mp hb]
    exact fun q => hn (q ▸ ha)
  · rcases List.mem_append.mp hx with q | q
    · exact h.pw x q
    · rw [List.mem_singleton.mp q]
      exact pw_PW (hz g hg) hp
  · rw [h.ball x hx]
    exact ⟨fun ⟨j, a, b⟩ => ⟨j, a, (lo j x a).mpr b⟩, fun ⟨j, a, b⟩ => ⟨j, a, (lo j x a).mp b⟩⟩
  · by_cases q : j < L.length
    · rw [List.getElem?_append_left q] at e
      exact h.next j x hj e
    · rw [List.getElem?_append_right (by omega)] at e
      have h1 : j - L.length < 1 := (List.getElem?_eq_some_iff.mp e).1
      rw [show j - L.length = 0 by omega] at e
      have e : pwG g w = x := Option.some.inj e
      rw [← e]
      refine Or.inr ⟨g, hg, ?_⟩
      rw [pw_pw (hz g hg) hp.1]
      exact (h.ball w hp).mpr ⟨k, hk, hw⟩
  · rw [List.length_append]
    have := h.le
    omega
  · exact List.mem_append.mpr (Or.inl (h.done j x hj ((lo j x (by have := h.km; omega)).mp e) y hy))
/-- node k is done -/
theorem LyB.step {gs L : List Nat} {d m k w : Nat} (h : LyB gs L d m k) (hk : k < m) (hw : L[k]? = some w) (hd : ∀ g ∈ gs, pwG g w ∈ L) : LyB gs L d m (k + 1) := by
  refine ⟨h.nd, h.pw, h.ball, h.next, h.le, by omega, fun j x hj e => ?_, fun j x h1 h2 e => h.lay j x (by omega) h2 e⟩
  by_cases q : j = k
  · subst q
    rw [hw] at e
    rw [← Option.some.inj e]
    exact hd
  · exact h.done j x (by omega) e
/-- a node's distance is at most 12 -/
theorem Dst12 {k w n : Nat} (hk : k < 32) (hw : TbW w) (h : Dst (gsK k) w n) : n ≤ 12 := by
  by_cases q : n ≤ 12
  · exact q
  · exact absurd (RN12 hk hw h.1) (h.2 12 (by omega))

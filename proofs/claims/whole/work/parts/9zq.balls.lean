/-! ===== least: gates and balls as bitmaps ===== -/
def zG : List Nat := [0, 2, 4, 6, 8, 9, 12, 13, 16, 17, 18, 19, 72, 76, 80, 82, 112, 113]
/-- a gate on a value -/
def apV (g x : Nat) : Nat := if cOK (g % 8) x = true then (if 64 ≤ g then swV ((g - 64) / 32) (g / 8 % 4) x else x ^^^ 2 ^ (g / 8)) else x
def bcol (g o B : Nat) : Nat := if 64 ≤ g then bswp1 ((g - 64) / 32) (g / 8 % 4) (g % 8) o B else bturn1 (g / 8) (g % 8) o B
theorem zG_ok : ∀ g ∈ zG, (64 ≤ g → (g - 64) / 32 < g / 8 % 4 ∧ g / 8 % 4 < 3 ∧ (g % 8).testBit ((g - 64) / 32) = false ∧ (g % 8).testBit (g / 8 % 4) = false) ∧ (¬ 64 ≤ g → g / 8 < 3 ∧ (g % 8).testBit (g / 8) = false) := by decide
theorem setC_id (v : Nat → Nat) (o : Nat) : setC v o (v o) = v := by
  funext z
  by_cases e : z = o
  · subst e; exact if_pos rfl
  · exact if_neg e
theorem bcol_bit {g o : Nat} (hg : g ∈ zG) (ho : o < 7) (B : Nat) (v : Nat → Nat) : (bcol g o B).testBit (ixB v) = B.testBit (ixB (setC v o (apV g (v o)))) := by
  obtain ⟨h1, h2⟩ := zG_ok g hg
  unfold bcol apV
  by_cases q : 64 ≤ g
  · obtain ⟨a1, a2, a3, a4⟩ := h1 q
    rw [if_pos q, if_pos q, bswp1_bit a1 a2 ho a3 a4]
    by_cases w : cOK (g % 8) (v o) = true
    · rw [if_pos w, if_pos w]
    · rw [if_neg w, if_neg w, setC_id]
  · obtain ⟨a1, a2⟩ := h2 q
    rw [if_neg q, if_neg q, bturn1_bit a1 ho a2]
    by_cases w : cOK (g % 8) (v o) = true
    · rw [if_pos w, if_pos w]
    · rw [if_neg w, if_neg w, setC_id]
def bgate (g : Nat) : Nat → Nat → Nat
  | 0, B => B
  | o + 1, B => bgate g o (bcol g o B)
theorem bgate_bit {g : Nat} (hg : g ∈ zG) : ∀ (n B : Nat) (v : Nat → Nat), n ≤ 7 → (bgate g n B).testBit (ixB v) = B.testBit (ixB (fun z => if z < n then apV g (v z) else v z))
  | 0, B, v, _ => by
    show B.testBit (ixB v) = B.testBit (ixB (fun z => if z < 0 then apV g (v z) else v z))
    congr 2
  | n + 1, B, v, hn => by
    show (bgate g n (bcol g n B)).testBit (ixB v) = _
    rw [bgate_bit hg n _ v (by omega), bcol_bit hg (by omega)]
    congr 2
    funext z
    unfold setC
    by_cases e : z = n
    · subst e
      rw [if_pos rfl, if_neg (by omega), if_pos (by omega)]
    · rw [if_neg e]
      dsimp only
      by_cases q : z < n
      · rw [if_pos q, if_pos (by omega)]
      · rw [if_neg q, if_neg (by omega)]
theorem ixB_congr {v w : Nat → Nat} (h : ∀ o, o < 7 → v o = w o) : ixB v = ixB w := pkB_congr (fun i _ => by rw [h (i % 7) (by omega)])
theorem bgate7 {g : Nat} (hg : g ∈ zG) (B : Nat) (v : Nat → Nat) : (bgate g 7 B).testBit (ixB v) = B.testBit (ixB (fun z => apV g (v z))) := by
  rw [bgate_bit hg 7 B v (by omega), ixB_congr (v := fun z => if z < 7 then apV g (v z) else v z) (w := fun z => apV g (v z)) (fun o ho => if_pos ho)]
def bgrow (gs : List Nat) (A B : Nat) : Nat := gs.foldl (fun A g => A ||| bgate g 7 B) A
theorem bgrow_bit {B : Nat} {v : Nat → Nat} : ∀ (gs : List Nat) (A : Nat), (∀ g ∈ gs, g ∈ zG) → ((bgrow gs A B).testBit (ixB v) = true ↔ A.testBit (ixB v) = true ∨ ∃ g ∈ gs, B.testBit (ixB (fun z => apV g (v z))) = true)
  | [], A, _ => by
    show A.testBit (ixB v) = true ↔ _
    simp
  | g :: gs, A, h => by
    show (bgrow gs (A ||| bgate g 7 B) B).testBit (ixB v) = true ↔ _
    rw [bgrow_bit gs _ (fun x hx => h x (List.mem_cons_of_mem _ hx)), Nat.testBit_or, bgate7 (h g (List.mem_cons_self ..))]
    simp [or_assoc]
def bball (gs : List Nat) : Nat → Nat
  | 0 => 1 <<< ixB (fun z => z)
  | n + 1 => bgrow gs (bball gs n) (bball gs n)
/-- reachable within n gates, seen through outs 0 .. 6 -/
def Rch (gs : List Nat) : Nat → (Nat → Nat) → Prop
  | 0, v => ixB v = ixB (fun z => z)
  | n + 1, v => Rch gs n v ∨ ∃ g ∈ gs, Rch gs n (fun z => apV g (v z))
theorem bball_bit {gs : List Nat} (h : ∀ g ∈ gs, g ∈ zG) : ∀ (n : Nat) (v : Nat → Nat), (bball gs n).testBit (ixB v) = true ↔ Rch gs n v
  | 0, v => by
    show (1 <<< ixB (fun z => z)).testBit (ixB v) = true ↔ ixB v = ixB (fun z => z)
    rw [Nat.one_shiftLeft, Nat.testBit_two_pow]
    simp [eq_comm]
  | n + 1, v => by
    show (bgrow gs (bball gs n) (bball gs n)).testBit (ixB v) = true ↔ Rch gs n v ∨ ∃ g ∈ gs, Rch gs n (fun z => apV g (v z))
    rw [bgrow_bit gs _ h, bball_bit h n v]
    simp only [bball_bit h n]
/-- a ball that does not grow any more -/
theorem Rch_closed {gs : List Nat} (h : ∀ g ∈ gs, g ∈ zG) {n : Nat} (e : bball gs (n + 1) = bball gs n) : ∀ m v, Rch gs (n + m) v → Rch gs n v
  | 0, v, q => q
  | m + 1, v, q => by
    have step : ∀ w, Rch gs (n + 1) w → Rch gs n w := fun w hw => (bball_bit h n w).mp (by rw [← e]; exact (bball_bit h (n + 1) w).mpr hw)
    rcases (show Rch gs (n + m) v ∨ ∃ g ∈ gs, Rch gs (n + m) (fun z => apV g (v z)) from q) with q | ⟨g, hg, q⟩
    · exact Rch_closed h e m v q
    · exact step v (Or.inr ⟨g, hg, Rch_closed h e m _ q⟩)

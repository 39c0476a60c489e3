theorem pm2 {o T w : va_W} : ((o ++ T) ++ w).Perm (o ++ (w ++ T)) := by
  rw [List.append_assoc]
  exact List.Perm.append_left _ List.perm_append_comm
theorem pm3 {o r T w : va_W} : ((o ++ (r ++ T)) ++ w).Perm (o ++ (r ++ (w ++ T))) := by
  rw [List.append_assoc, List.append_assoc]
  exact List.Perm.append_left _ (List.Perm.append_left _ List.perm_append_comm)
theorem bpA {l l' : List va_W} {F : va_W} (bs : List va_W) (hF : F.Perm (cat bs)) (is : List Nat) (h : is.map (fun i => (l ++ bs)[i]?) = l'.map some) (hp : is.isPerm (List.range (l ++ bs).length) = true) : (cat (l ++ [F])).Perm (cat l') := by
  have h1 : (cat (l ++ [F])).Perm (cat (l ++ bs)) := by
    rw [cat_app, cat_app]
    exact List.Perm.append_left _ hF
  refine h1.trans ?_
  rw [cat_flat, cat_flat]
  exact (perm_ix is h hp).flatten
theorem FO6 {cs : Nat → ClassId} {fl : Nat → Nat} {fa : Nat → Nat → Nat} {p : Nat → Nat → Int32} {s : Nat → Nat → Nat → Int32} : (FO cs fl fa p s (List.range 6)).Perm (cat [W2 cs (fl 0) (fa 0) (p 0) (s 0), W2 cs (fl 1) (fa 1) (p 1) (s 1), W2 cs (fl 2) (fa 2) (p 2) (s 2), W2 cs (fl 3) (fa 3) (p 3) (s 3), W2 cs (fl 4) (fa 4) (p 4) (s 4), W2 cs (fl 5) (fa 5) (p 5) (s 5)]) := by
  have h : FO cs fl fa p s (List.range 6) = F1 cs fl fa p s 0 ++ (F1 cs fl fa p s 1 ++ (F1 cs fl fa p s 2 ++ (F1 cs fl fa p s 3 ++ (F1 cs fl fa p s 4 ++ (F1 cs fl fa p s 5 ++ []))))) := rfl
  rw [h, List.append_nil]
  exact List.Perm.refl _
theorem alt2 {A : Nat → Prop} {o T : va_W} {a : Nat} {e e' : va_E} (hD : va_D A (o ++ ([(a, e)] ++ T))) : va_D A (o ++ ([(a, e')] ++ T)) := by
  refine hD.alt ?_
  simp
theorem bpN {l l' : List va_W} {F : va_W} (bs : List va_W) (n : Nat) (hF : F.Perm (cat bs)) (is : List Nat) (hn : (l ++ bs).length = n) (h : is.map (fun i => (l ++ bs)[i]?) = l'.map some) (hp : is.isPerm (List.range n) = true) : (cat (l ++ [F])).Perm (cat l') := by
  subst hn
  exact bpA bs hF is h hp
theorem bp0N {l lc lr : List va_W} (n : Nat) (is : List Nat) (hn : l.length = n) (h : is.map (fun i => l[i]?) = (lc ++ lr).map some) (hp : is.isPerm (List.range n) = true) : (cat l).Perm (cat lc ++ cat lr) := by
  subst hn
  exact bp0 is h hp

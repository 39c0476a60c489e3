def st0I (q5 q0 : (Nat → Int32) × (Nat → Nat → Int32)) : Nat → Nat → Int32 := fun k => ([(fun k => ([0, 0, 0, 0, 0, 0, 0, 0, 0, 0, 0, (-1)] : List Int32).getD k 0), (fun _ => 0), (fun k => ([0, 0, 0, 0, 1, 0] : List Int32).getD k 0), (fun _ => 0), (fun k => ([0, 0, 0, 0] : List Int32).getD k 0), (fun k => ([0, 0, 0, 0, 0, 0, 0, (-1), 0, 0, 0, 0, 0] : List Int32).getD k 0), q5.1, q5.1, (fun k => ([0, 0, 0, 0, 0, 0, 0, 0, 0] : List Int32).getD k 0), (fun k => ([0, 0, 0, 0, 0, 0, 0, 0, 0, 0, 0, 0, 0] : List Int32).getD k 0), q0.1, (fun k => ([0, 0, 0, 0] : List Int32).getD k 0), (fun k => ([0, 0, 0, 0, 0, 0, 0, 0, 0, 0, 0, 0, 256, 0, 0, 0] : List Int32).getD k 0), int13] : List (Nat → Int32)).getD k (fun _ => 0)
def st0J (q5 q0 : (Nat → Int32) × (Nat → Nat → Int32)) : Nat → Nat → Nat → Int32 := fun k => ([(fun _ _ => 0), (fun _ _ => 0), (fun _ _ => 0), (fun _ _ => 0), (fun _ _ => 0), (fun _ _ => 0), q5.2, q5.2, (fun _ _ => 0), (fun _ _ => 0), q0.2, (fun _ _ => 0), (fun _ _ => 0), (va_up (fun _ _ => 0) 10 lanes13)] : List (Nat → Nat → Int32)).getD k (fun _ _ => 0)
def st0K : Nat → Nat → Nat → Int64 := fun _ _ _ => 0
def st0U : Nat → Nat → Nat := fun _ _ => 0
def st0P : Nat → Nat → Int32 := fun _ => (fun k => ([0, 0, 0, 0, 1, 0] : List Int32).getD k 0)
def st0S : Nat → Nat → Nat → Int32 := fun _ _ _ => 0
theorem fin_perm {l : List va_W} {F x y : va_W} : (cat (l ++ [F]) ++ (x ++ y)).Perm (cat (l ++ [x, y, F])) := by
  rw [cat_app, cat_app]
  show ((cat l ++ F) ++ (x ++ y)).Perm (cat l ++ (x ++ (y ++ F)))
  rw [List.append_assoc, ← List.append_assoc x y F]
  exact List.Perm.append_left _ List.perm_append_comm
set_option maxRecDepth 100000 in
set_option maxHeartbeats 8000000 in
theorem start_of (Inv : IT) {q5 q0 : (Nat → Int32) × (Nat → Nat → Int32)} (hf5 : f_X5_clear (fun k => ([0, 0, 0, 0, 0, 0, 0, 0, 0, 0, 0, 0, 0, 0, 0, 0] : List Int32).getD k 0) (fun _ _ => 0) (fun _ _ => 0) = some q5) (hf0 : f_X0_clear (fun _ => 0) (fun _ _ => 0) 4 4 = some q0) (hin : Inv (st0I q5 q0) (st0J q5 q0) st0K st0U st0P st0S) (hU : ∀ I J K U P S, Inv I J K U P S → U 11 0 < 2 ^ 31 ∧ U 12 9 < 2 ^ 31 ∧ U 5 4 < 2 ^ 31) (hI : ∀ (f : List Value) (n : Nat) (x1 x2 x3 x4 x5 : Int32) I J K U P S, Inv I J K U P S → Sp n f Inv x1 x2 x3 x4 x5 I J K U P S) {p : Program} {e : Env} {s : State} {m : MethodId} {below : List Frame} {meth : Method} {c : Code} (l : Launch) {b L : Nat} {xs : Nat → Int32} (hL : L ≤ 3072) (C0 : lw_At p s m meth c b L xs) : W p l e room_1 s m #[Value.ref b] below meth c s.heap [] 0 0 (lw_Z below #[Value.ref b] s) (entryFrame m ([Value.ref b] : List Value).toArray 4) := by
  obtain ⟨hx, hb, hr, hml, hown, hts0, hXs, hbl, hlocks, hgv⟩ := id C0
  have hn := bf_r hgv
  obtain ⟨zs, hZ⟩ := start_SP hts0 hn
  have hX := start_SX hts0 hn
  obtain ⟨D, cs, hK⟩ := start_K hts0 hX
  have hts : ∀ w ∈ tbG, w.before #[Value.ref b] s = true := fun w h => hts0 w (tbG_in h)
  have hA : ∀ q : Nat, s.heap.size ≤ q → (fun q : Nat => s.heap.size ≤ q) q := fun _ h => h
  have hbA : ¬ (fun q : Nat => s.heap.size ≤ q) b := Nat.not_le.mpr hbl
  have C : LX p s m meth c (fun q : Nat => s.heap.size ≤ q) D cs zs b L xs := ⟨hx, hb, hml, hown, hts, hK, hA, hZ, hXs, hbl, hbA⟩
  have hS : va_S (fun q : Nat => s.heap.size ≤ q) s.heap s.heap [] := va_S.rf
  have hP : va_P D vwCl [] s.heap := fun k q h => by simp at h
  have hD : va_D (fun q : Nat => s.heap.size ≤ q) [] := ⟨fun i j p q h => by simp at h, fun k q h => by simp at h⟩
  have hl := lv_entry ([.ref b]) (n := 4) (Nat.le_of_ble_eq_true rfl)
  rw [lg_entry_eq]
  generalize (lg_sl ([.ref b]) ++ List.replicate (4 - (lg_sl ([.ref b])).length) Slot.unset).toArray = ls at hl ⊢
  have hl : lv_has ls 4 [(0, .ref b)] := hl
  refine va_new (ci := 11) (fs := [.null, .null, .null, .null, .null, .null, .null, .null, .null, .null, .null, .null, .null]) (C := RX11) (T := TX11) (N := 13) hx hb hts hiX11 tyX11 tyX11_ok hown (hts _ clL_7) (hts _ isX11) (hts _ inX11) hK hP hD hS hA rfl dvX11 (Nat.le_of_ble_eq_true rfl) (Nat.le_of_ble_eq_true rfl) dL_law_0 (fun h H hP hD hS => ?_)
  refine lv_dup hx hb dL_law_3 rfl ?_
  refine k_iN (X := []) (As := []) (rest := [.ref h]) hx hb hml hown hts hK hA hZ hX hl.1 hP hD hS (c_X11_init (h0 := h) hf5 hf0) (gIt coX11_init) rfl inX11 mlL_9 imX11_init rfl qnX11_init rfl rfl ⟨Nat.le_of_ble_eq_true rfl, Nat.le_of_ble_eq_true rfl⟩ rfl rfl (Nat.le_of_ble_eq_true rfl) ⟨Nat.le_of_ble_eq_true rfl, Nat.le_of_ble_eq_true rfl⟩ dL_law_4 (fun u H locs hP hD hS => ?_)
  refine lv_astore_n (lv' := [(1, .ref h), (0, .ref b)]) hx hb dL_law_7 rfl hl (by decide) rfl (fun ls hl => ?_)
  refine va_new (ci := 13) (fs := [.null, .null, .int 0, .int 0, .int 0, .int 0, .int 0, .int 0, .int 0, .int 0, .null, .null, .null, .null, .null, .null, .null, .null, .null, .null, .null, .null, .null, .null, .int 0, .int 0, .null, .int 0, .null, .null, .null, .null, .null, .null, .null, .null, .null, .null, .null, .null, .null, .null, .null, .null, .null, .null, .int 0, .int 0, .int 0, .int 0, .int 0, .int 0, .int 0, .int 0, .int 0, .int 0, .int 0, .int 0, .null, .null, .null, .int 0, .int 0, .int 0, .int 0, .int 0, .int 0, .int 0, .null, .null, .null, .null, .null, .null, .null, .int 0, .int 0, .int 0, .int 0, .int 0, .null, .null, .null, .null, .null, .null, .null]) (C := RX13) (T := TX13) (N := 87) hx hb hts hiX13 tyX13 tyX13_ok hown (hts _ clL_10) (hts _ isX13) (hts _ inX13) hK hP hD hS hA rfl dvX13 (Nat.le_of_ble_eq_true rfl) (Nat.le_of_ble_eq_true rfl) dL_law_8 (fun g H hP hD hS => ?_)
  refine lv_dup hx hb dL_law_11 rfl ?_
  refine k_iN (As := []) (rest := [.ref g]) hx hb hml hown hts hK hA hZ hX hl.1 hP hD hS (c_X13_init (h0 := g)) (gIt coX13_init) rfl inX13 mlL_12 imX13_init rfl qnX13_init rfl rfl ⟨Nat.le_of_ble_eq_true rfl, Nat.le_of_ble_eq_true rfl⟩ rfl rfl (Nat.le_of_ble_eq_true rfl) ⟨Nat.le_of_ble_eq_true rfl, Nat.le_of_ble_eq_true rfl⟩ dL_law_12 (fun v H locs hP hD hS => ?_)
  refine lv_astore_n (lv' := [(2, .ref g), (1, .ref h), (0, .ref b)]) hx hb dL_law_15 rfl hl (by decide) rfl (fun ls hl => ?_)
  refine lv_iconst (v := 0) hx hb dL_law_16 (by decide) ?_
  refine lv_istore_n (lv' := [(3, .int 0), (2, .ref g), (1, .ref h), (0, .ref b)]) hx hb dL_law_17 rfl hl (by decide) rfl (fun ls hl => ?_)
  obtain ⟨v1, v2⟩ := v
  obtain ⟨a, e0, e2, e3, e4, e5, e6, e7, e10, e11, e12, e8, e9, e20, e21, e22, e30⟩ : ∃ a : Nat → Nat → Nat, a 0 = u 0 ∧ a 2 = u 2 ∧ a 3 = u 3 ∧ a 4 = u 4 ∧ a 5 = u 5 ∧ a 6 = u 6 ∧ a 7 = u 7 ∧ a 10 = u 10 ∧ a 11 = u 11 ∧ a 12 = u 12 ∧ a 8 = va_up (u 8) 3 (u 20 7) ∧ a 9 = va_up (u 9) 5 (u 20 6) ∧ a 20 = u 20 ∧ a 21 = u 21 ∧ a 22 = v1 ∧ (fun j => a (30 + j)) = fun j => u (30 + j) := by
    refine ⟨fun k => if k = 22 then v1 else if k = 8 then va_up (u 8) 3 (u 20 7) else if k = 9 then va_up (u 9) 5 (u 20 6) else u k, rfl, rfl, rfl, rfl, rfl, rfl, rfl, rfl, rfl, rfl, rfl, rfl, rfl, rfl, rfl, ?_⟩
    funext j
    show (if 30 + j = 22 then v1 else if 30 + j = 8 then va_up (u 8) 3 (u 20 7) else if 30 + j = 9 then va_up (u 9) 5 (u 20 6) else u (30 + j)) = u (30 + j)
    rw [if_neg (by omega), if_neg (by omega), if_neg (by omega)]
  have hLB : LB cs h g a (st0I q5 q0) (st0J q5 q0) st0K st0U st0P st0S v2 = [W11 cs h (u 20), W9 cs (u 20 0) (u 0) (fun k => ([0, 0, 0, 0, 0, 0, 0, 0, 0, 0, 0, (-1)] : List Int32).getD k 0) (fun _ _ => 0) (fun _ _ => 0), [va_ar cs (u 20 1) (u 21)], W2 cs (u 20 2) (u 2) (fun k => ([0, 0, 0, 0, 1, 0] : List Int32).getD k 0) (fun _ _ => 0), W3 cs (u 20 3) (va_up (u 3) 0 (u 20 0)), W8 cs (u 20 4) (u 4) (fun k => ([0, 0, 0, 0] : List Int32).getD k 0) (fun _ _ => 0), W7 cs (u 20 5) (u 5) (fun k => ([0, 0, 0, 0, 0, 0, 0, (-1), 0, 0, 0, 0, 0] : List Int32).getD k 0) (fun _ _ => 0) (fun _ => 0), W5 cs (u 20 6) (u 6) q5.1 q5.2 (fun _ _ => 0), W5 cs (u 20 7) (u 7) q5.1 q5.2 (fun _ _ => 0), W6 cs (u 20 8) (va_up (va_up (u 8) 3 (u 20 7)) 0 (u 20 0)) (fun k => ([0, 0, 0, 0, 0, 0, 0, 0, 0] : List Int32).getD k 0) (fun _ _ => 0), W4 cs (u 20 9) (va_up (u 9) 5 (u 20 6)) (fun k => ([0, 0, 0, 0, 0, 0, 0, 0, 0, 0, 0, 0, 0] : List Int32).getD k 0) (fun _ _ => 0), W0 cs (u 20 10) (u 10) q0.1 q0.2, W10 cs (u 20 11) (u 11) (fun k => ([0, 0, 0, 0] : List Int32).getD k 0) (fun _ _ => 0) (fun _ => 0), W1 cs (u 20 12) (u 12) (fun k => ([0, 0, 0, 0, 0, 0, 0, 0, 0, 0, 0, 0, 256, 0, 0, 0] : List Int32).getD k 0) (fun _ _ => 0) (fun _ => 0), W13 cs g v1 int13 (va_up (fun _ _ => 0) 10 lanes13) (fun _ _ => 0), W12 cs (v1 0) (fun _ => 0) v2, FO cs (u 21) (fun j => u (30 + j)) (fun _ => (fun k => ([0, 0, 0, 0, 1, 0] : List Int32).getD k 0)) (fun _ => (fun _ _ => 0)) (List.range 6)] := by
    unfold LB
    rw [e0, e2, e3, e4, e5, e6, e7, e10, e11, e12, e8, e9, e20, e21, e22, e30]
    rfl
  have hc6 := va_up_comm (u 8) (u 20 0) (u 20 7) (by decide : (0 : Nat) ≠ 3)
  rw [hc6] at hP hD
  have hP : va_P D vwCl (cat ([W11 cs h (u 20), W9 cs (u 20 0) (u 0) (fun k => ([0, 0, 0, 0, 0, 0, 0, 0, 0, 0, 0, (-1)] : List Int32).getD k 0) (fun _ _ => 0) (fun _ _ => 0), [va_ar cs (u 20 1) (u 21)], W2 cs (u 20 2) (u 2) (fun k => ([0, 0, 0, 0, 1, 0] : List Int32).getD k 0) (fun _ _ => 0), W3 cs (u 20 3) (va_up (u 3) 0 (u 20 0)), W8 cs (u 20 4) (u 4) (fun k => ([0, 0, 0, 0] : List Int32).getD k 0) (fun _ _ => 0), W7 cs (u 20 5) (u 5) (fun k => ([0, 0, 0, 0, 0, 0, 0, (-1), 0, 0, 0, 0, 0] : List Int32).getD k 0) (fun _ _ => 0) (fun _ => 0), W5 cs (u 20 6) (u 6) q5.1 q5.2 (fun _ _ => 0), W5 cs (u 20 7) (u 7) q5.1 q5.2 (fun _ _ => 0), W6 cs (u 20 8) (va_up (va_up (u 8) 3 (u 20 7)) 0 (u 20 0)) (fun k => ([0, 0, 0, 0, 0, 0, 0, 0, 0] : List Int32).getD k 0) (fun _ _ => 0), W4 cs (u 20 9) (va_up (u 9) 5 (u 20 6)) (fun k => ([0, 0, 0, 0, 0, 0, 0, 0, 0, 0, 0, 0, 0] : List Int32).getD k 0) (fun _ _ => 0), W0 cs (u 20 10) (u 10) q0.1 q0.2, W10 cs (u 20 11) (u 11) (fun k => ([0, 0, 0, 0] : List Int32).getD k 0) (fun _ _ => 0) (fun _ => 0), W1 cs (u 20 12) (u 12) (fun k => ([0, 0, 0, 0, 0, 0, 0, 0, 0, 0, 0, 0, 256, 0, 0, 0] : List Int32).getD k 0) (fun _ _ => 0) (fun _ => 0)] ++ [FO cs (u 21) (fun j => u (30 + j)) (fun _ => (fun k => ([0, 0, 0, 0, 1, 0] : List Int32).getD k 0)) (fun _ => (fun _ _ => 0)) (List.range 6)]) ++ (W13 cs g v1 int13 (va_up (fun _ _ => 0) 10 lanes13) (fun _ _ => 0) ++ W12 cs (v1 0) (fun _ => 0) v2)) H := hP
  have hD : va_D (fun q : Nat => s.heap.size ≤ q) (cat ([W11 cs h (u 20), W9 cs (u 20 0) (u 0) (fun k => ([0, 0, 0, 0, 0, 0, 0, 0, 0, 0, 0, (-1)] : List Int32).getD k 0) (fun _ _ => 0) (fun _ _ => 0), [va_ar cs (u 20 1) (u 21)], W2 cs (u 20 2) (u 2) (fun k => ([0, 0, 0, 0, 1, 0] : List Int32).getD k 0) (fun _ _ => 0), W3 cs (u 20 3) (va_up (u 3) 0 (u 20 0)), W8 cs (u 20 4) (u 4) (fun k => ([0, 0, 0, 0] : List Int32).getD k 0) (fun _ _ => 0), W7 cs (u 20 5) (u 5) (fun k => ([0, 0, 0, 0, 0, 0, 0, (-1), 0, 0, 0, 0, 0] : List Int32).getD k 0) (fun _ _ => 0) (fun _ => 0), W5 cs (u 20 6) (u 6) q5.1 q5.2 (fun _ _ => 0), W5 cs (u 20 7) (u 7) q5.1 q5.2 (fun _ _ => 0), W6 cs (u 20 8) (va_up (va_up (u 8) 3 (u 20 7)) 0 (u 20 0)) (fun k => ([0, 0, 0, 0, 0, 0, 0, 0, 0] : List Int32).getD k 0) (fun _ _ => 0), W4 cs (u 20 9) (va_up (u 9) 5 (u 20 6)) (fun k => ([0, 0, 0, 0, 0, 0, 0, 0, 0, 0, 0, 0, 0] : List Int32).getD k 0) (fun _ _ => 0), W0 cs (u 20 10) (u 10) q0.1 q0.2, W10 cs (u 20 11) (u 11) (fun k => ([0, 0, 0, 0] : List Int32).getD k 0) (fun _ _ => 0) (fun _ => 0), W1 cs (u 20 12) (u 12) (fun k => ([0, 0, 0, 0, 0, 0, 0, 0, 0, 0, 0, 0, 256, 0, 0, 0] : List Int32).getD k 0) (fun _ _ => 0) (fun _ => 0)] ++ [FO cs (u 21) (fun j => u (30 + j)) (fun _ => (fun k => ([0, 0, 0, 0, 1, 0] : List Int32).getD k 0)) (fun _ => (fun _ _ => 0)) (List.range 6)]) ++ (W13 cs g v1 int13 (va_up (fun _ _ => 0) 10 lanes13) (fun _ _ => 0) ++ W12 cs (v1 0) (fun _ => 0) v2)) := hD
  have hP : va_P D vwCl (LW cs h g a (st0I q5 q0) (st0J q5 q0) st0K st0U st0P st0S v2) H := by
    show va_P D vwCl (cat (LB cs h g a (st0I q5 q0) (st0J q5 q0) st0K st0U st0P st0S v2)) H
    rw [hLB]
    exact hP.perm fin_perm
  have hD : va_D (fun q : Nat => s.heap.size ≤ q) (LW cs h g a (st0I q5 q0) (st0J q5 q0) st0K st0U st0P st0S v2) := by
    show va_D (fun q : Nat => s.heap.size ≤ q) (cat (LB cs h g a (st0I q5 q0) (st0J q5 q0) st0K st0U st0P st0S v2))
    rw [hLB]
    exact hD.perm fin_perm
  refine W.widen (k := 176) (n := 116082) (Nat.le_of_ble_eq_true rfl) (Nat.le_of_ble_eq_true rfl) ?_
  exact law_loop Inv hL C hr hlocks hU (hI v2) (L + 1) 0 (by omega) (by omega) a _ _ _ _ _ _ hin H locs 176 116082 ls hP hD hS (by show 176 + 6 ≤ 601024; decide) (by show 116082 + 71936 ≤ 7293034; decide) (lv_sub hl [3, 2, 1, 0] rfl)

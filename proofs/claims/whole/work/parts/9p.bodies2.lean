/-! ===== program: a STEP hung into its body ===== -/
theorem FB.lnk {n c m y n0 : Nat} {r2 : Nat → Nat → Int32} {l2 : Nat → Nat → Int64} {mr : Nat → Nat → Int32} {ml : Nat → Nat → Int64} {xl : Int32} (h : n ≤ n0) : FB n c m y r2 l2 mr ml r2 l2 (lnk n0 xl mr) ml := by
  refine ⟨fun s hs => ⟨rfl, rfl, rfl, rfl, rfl, ?_, ?_, rfl⟩, fun j hj => ⟨rfl, rfl, ?_, ?_, ?_, ?_, ?_⟩, fun _ _ _ => ⟨rfl, rfl⟩, fun j hj => ⟨?_, ?_⟩, fun _ _ => rfl, fun j hj => ⟨?_, ?_, ?_⟩⟩
  · rw [lnk_o (by omega) (by omega)]
  · rw [lnk_30, pk_un (by omega)]
  · rw [lnk_o (by omega) (by omega)]
  · rw [lnk_o (by omega) (by omega)]
  · rw [lnk_o (by omega) (by omega)]
  · rw [lnk_o (by omega) (by omega)]
  · rw [lnk_o (by omega) (by omega)]
  · rw [lnk_o (by omega) (by omega)]
  · rw [lnk_o (by omega) (by omega)]
  · rw [lnk_o (by omega) (by omega)]
  · rw [lnk_o (by omega) (by omega)]
  · rw [lnk_o (by omega) (by omega)]
/-- what the class's addStep and the reference's scan leave of the STEPS below -/
theorem FB.add {n c m y j : Nat} {r2 r2a : Nat → Nat → Int32} {l2 : Nat → Nat → Int64} {mr : Nat → Nat → Int32} {ml : Nat → Nat → Int64} (hy : y < 126) (a0 : r2a 0 = upd (r2 0) n (nI j)) (a3 : r2a 3 = upd (r2 3) n (r2 10 y)) (a10 : r2a 10 = upd (r2 10) y (nI n)) (a9 : r2a 9 = if r2 10 y = -1 then upd (r2 9) y (nI n) else r2 9) (ao : ∀ s, s ≠ 0 → s ≠ 1 → s ≠ 2 → s ≠ 3 → s ≠ 9 → s ≠ 10 → r2a s = r2 s) : FB n c m y r2 l2 mr ml r2a l2 (va_up mr 28 (upd (mr 28) (60 + n) (nI j))) ml := by
  refine ⟨fun s hs => ⟨?_, ?_, ?_, ?_, rfl, ?_, ?_, rfl⟩, fun z hz => ⟨?_, ?_, ?_, ?_, ?_, ?_, ?_⟩, fun z hz hzy => ⟨?_, ?_⟩, fun z hz => ⟨?_, ?_⟩, fun z hz => ?_, fun z hz => ⟨?_, ?_, ?_⟩⟩
  · rw [a0, pk_un (by omega)]
  · rw [a3, pk_un (by omega)]
  · rw [ao 4 (by omega) (by omega) (by omega) (by omega) (by omega) (by omega)]
  · rw [ao 5 (by omega) (by omega) (by omega) (by omega) (by omega) (by omega)]
  · rw [up_s, pk_un (by omega)]
  · rw [up_n (by omega)]
  · rw [ao 7 (by omega) (by omega) (by omega) (by omega) (by omega) (by omega)]
  · rw [ao 8 (by omega) (by omega) (by omega) (by omega) (by omega) (by omega)]
  · rw [up_n (by omega)]
  · rw [up_n (by omega)]
  · rw [up_n (by omega)]
  · rw [up_n (by omega)]
  · rw [up_n (by omega)]
  · rw [a9]
    split
    · rw [pk_un hzy]
    · rfl
  · rw [a10, pk_un hzy]
  · rw [up_n (by omega)]
  · rw [up_n (by omega)]
  · rw [ao 12 (by omega) (by omega) (by omega) (by omega) (by omega) (by omega)]
  · rw [up_n (by omega)]
  · rw [up_n (by omega)]
  · rw [up_n (by omega)]
theorem one_fin {b : Nat → Nat} {N M O y k n j : Nat} {CL : List Int32} {ML : List MKt} {lv : Nat → Nat} {r0 : Nat → Nat → Int32} {i2 : Nat → Int32} {r2 r2a : Nat → Nat → Int32} {l2 : Nat → Nat → Int64} {mr : Nat → Nat → Int32} {ml : Nat → Nat → Int64} {xf xl : Int32} {k2 n2 : Nat} {CL2 : List Int32} {ML2 : List MKt} {lva lv2 : Nat → Nat} {j0 : Nat → Int32} {q0 : Nat → Nat → Int32} {j1 j2 : Nat → Int32} {q2 : Nat → Nat → Int32} {p2 : Nat → Nat → Int64} {mj2 : Nat → Int32} {mq : Nat → Nat → Int32} {mp : Nat → Nat → Int64}
    (hn : n < 60) (hj : j < 8) (hy : y < 126) (hyn : y < 120 → y / 2 < n) (hf : PT 60 (r2 9 y) xf) (hl : PT 60 (r2 10 y) xl) (hW : CW n lv r2)
    (a1 : r2a 1 = upd (r2 1) n (nI y)) (a0 : r2a 0 = upd (r2 0) n (nI j)) (a3 : r2a 3 = upd (r2 3) n (r2 10 y)) (a10 : r2a 10 = upd (r2 10) y (nI n)) (a2n : r2a 2 n = -1) (a2a : ∀ s, s < n → ¬ r2 10 y = nI s → r2a 2 s = r2 2 s) (a2b : ∀ s, s < n → r2 10 y = nI s → r2a 2 s = nI n) (a9 : r2a 9 = if r2 10 y = -1 then upd (r2 9) y (nI n) else r2 9) (ao : ∀ s, s ≠ 0 → s ≠ 1 → s ≠ 2 → s ≠ 3 → s ≠ 9 → s ≠ 10 → r2a s = r2 s) (alv : ∀ s, s < n → lva s = lv s)
    (hk : k ≤ k2) (hn2 : n + 1 ≤ n2)
    (hFB : FB n CL.length ML.length 200 r2a l2 (va_up mr 28 (upd (mr 28) (60 + n) (nI j))) ml q2 p2 mq mp)
    (hnx : ∀ s, s < n + 1 → q2 2 s = r2a 2 s) (hnm : ∀ s, s < n → mq 29 (60 + s) = mr 29 (60 + s))
    (h0n : q2 0 n = nI j) (h3n : q2 3 n = r2 10 y) (h28 : mq 28 (60 + n) = nI j)
    (hD : DAT j 60 1000 n CL2.length ML2.length q2 p2 mq mp)
    (hnd : ∀ s, n + 1 ≤ s → s < n2 → NDw 60 1000 s CL2.length ML2.length q2 p2 mq mp ∧ PT 60 (q2 2 s) (mq 29 (60 + s)))
    (hb9 : ∀ z, z = y ∨ 120 ≤ z → q2 9 z = r2a 9 z ∧ q2 10 z = r2a 10 z)
    (hlv : ∀ s, s < n → lv2 s = lva s ∧ q2 1 s = r2a 1 s)
    (hX1 : ∃ X, CL2 = CL ++ X) (hY1 : ∃ Y, ML2 = ML ++ Y)
    (hB : BSt b N M k2 n2 O y CL2 ML2 lv2 j0 j1 j2 q2 mj2 mq) (hr0 : ∀ z, z < O → q0 1 z = r0 1 z) (hi14 : j2 14 = i2 14) (hl11 : p2 11 = l2 11) (hm1 : mq 1 = mr 1) :
    ADV b N M O y k n CL ML lv r0 i2 r2 l2 mr ml k2 n2 CL2 ML2 lv2 j0 q0 j1 j2 q2 p2 mj2 (lnk n xl mq) mp ∧ PT 60 (q2 9 y) (if xl = -1 then nI (60 + n) else xf) ∧ PT 60 (q2 10 y) (nI (60 + n)) := by
  have hxl : (r2 10 y = -1) ↔ (xl = -1) := by
    rcases hl with ⟨e1, e2⟩ | ⟨t, t1, t2, t3⟩
    · exact ⟨fun _ => e2, fun _ => e1⟩
    · exact ⟨fun q => by rw [t2] at q; exact absurd q (nm1N (by omega)), fun q => by rw [t3] at q; exact absurd q (nm1N (by omega))⟩
  have hn60 := hB.2.2.2.2.2.2.2.1
  have q10 : q2 10 y = nI n := by rw [(hb9 y (Or.inl rfl)).2, a10, pk_us]
  -- the reference's pointers behind the hanging
  have g29n : lnk n xl mq 29 (60 + n) = -1 := by
    rw [lnk_29]
    by_cases q : xl = -1
    · rw [if_pos q, pk_us]
    · obtain ⟨t, t1, t2, t3⟩ : ∃ t, t < 60 ∧ r2 10 y = nI t ∧ xl = nI (60 + t) := by
        rcases hl with ⟨-, e2⟩ | h
        · exact absurd e2 q
        · exact h
      have htn : t < n := by
        rcases (hW.2.1 y hy).2 with p | ⟨u, u1, u2, -⟩
        · exact absurd (hxl.mp p) q
        · rw [t2] at u2
          have := nI_inj (by omega) (by omega) u2
          omega
      rw [if_neg q, t3, nI_clamp (by omega), pk_un (by omega), pk_us]
  have g29a : ∀ s, s < n2 → s ≠ n → ¬ r2 10 y = nI s → lnk n xl mq 29 (60 + s) = mq 29 (60 + s) := fun s hs hsn hq => by
    rw [lnk_29]
    by_cases q : xl = -1
    · rw [if_pos q, pk_un (by omega)]
    · obtain ⟨t, t1, t2, t3⟩ : ∃ t, t < 60 ∧ r2 10 y = nI t ∧ xl = nI (60 + t) := by
        rcases hl with ⟨-, e2⟩ | h
        · exact absurd e2 q
        · exact h
      rw [if_neg q, t3, nI_clamp (by omega), pk_un (fun e => hq (by rw [t2, show t = s by omega])), pk_un (by omega)]
  have g29b : ∀ s, s < n → r2 10 y = nI s → lnk n xl mq 29 (60 + s) = nI (60 + n) := fun s hs hq => by
    rw [lnk_29]
    have q : ¬ xl = -1 := fun z => by rw [hxl.mpr z] at hq; exact nm1N (by omega) hq.symm
    obtain ⟨t, t1, t2, t3⟩ : ∃ t, t < 60 ∧ r2 10 y = nI t ∧ xl = nI (60 + t) := by
      rcases hl with ⟨-, e2⟩ | h
      · exact absurd e2 q
      · exact h
    have : t = s := nI_inj (by omega) (by omega) (t2.symm.trans hq)
    rw [if_neg q, t3, nI_clamp (by omega), this, pk_us]
  have hlast : ∀ s, n ≤ s → s < 60 → ¬ r2 10 y = nI s := fun s hs hs2 z => by
    rcases (hW.2.1 y hy).2 with p | ⟨u, u1, u2, -⟩
    · rw [p] at z; exact nm1N (by omega) z.symm
    · rw [z] at u2
      have := nI_inj (by omega) (by omega) u2
      omega
  obtain ⟨b1, b2, b3, b4, b5, b6, b7, b8, b9⟩ := id hB
  refine ⟨⟨hk, by omega, ⟨b1, b2, b3, b4, ⟨b5.1, fun z t hz => by rw [lnk_o (by omega) (by omega), lnk_o (by omega) (by omega), lnk_o (by omega) (by omega)]; exact b5.2 z t hz⟩, b6, b7, b8, b9⟩, hX1, hY1, fun s s1 s2 => ?_, ?_, fun s hs hq => ⟨?_, ?_⟩, fun s hs hq => ?_, fun s hs => ⟨?_, ?_⟩, hr0, fun z z1 z2 => ⟨?_, ?_⟩, hi14, hl11, ?_, Or.inr ⟨n, Nat.le_refl _, hn, q10⟩⟩, ?_, ?_⟩
  · by_cases e : s = n
    · subst e
      refine ⟨⟨j, hj, h0n, ?_, ?_, hD.link (fun z z1 z2 => lnk_o z1 z2)⟩, ?_⟩
      · rw [lnk_o (by omega) (by omega), h28]
      · rw [h3n, lnk_30, pk_us]; exact hl
      · rw [hnx s (by omega), a2n, g29n]; exact Or.inl ⟨rfl, rfl⟩
    · obtain ⟨d1, d2⟩ := hnd s (by omega) s2
      exact ⟨d1.link (fun z z1 z2 => lnk_o z1 z2) (by rw [lnk_30, pk_un (by omega)]), by rw [g29a s s2 e (hlast s s1 (by omega))]; exact d2⟩
  · exact ((FB.add (l2 := l2) (ml := ml) hy a0 a3 a10 a9 ao).tr hFB (Nat.le_refl _) (Nat.le_refl _) (Nat.le_refl _) (Or.inr (by omega))).tr (FB.lnk (y := 200) (Nat.le_refl n)) (Nat.le_refl _) (Nat.le_refl _) (Nat.le_refl _) (Or.inr (by omega))
  · rw [hnx s (by omega), a2a s hs hq]
  · rw [g29a s (by omega) (by omega) hq, hnm s hs]
  · by_cases q : r2 10 y = nI s
    · rw [hnx s (by omega), a2b s hs q, g29b s hs q]
      exact Or.inr ⟨n, hn, rfl, rfl⟩
    · rw [hnx s (by omega), a2a s hs q, g29a s (by omega) (by omega) q, hnm s hs]
      exact hq
  · rw [(hlv s hs).1, alv s hs]
  · rw [(hlv s hs).2, a1, pk_un (by omega)]
  · rw [(hb9 z (Or.inr z1)).1, a9]
    split
    · rw [pk_un z2]
    · rfl
  · rw [(hb9 z (Or.inr z1)).2, a10, pk_un z2]
  · rw [lnk_o (by omega) (by omega), hm1]
  · rw [(hb9 y (Or.inl rfl)).1, a9]
    by_cases q : r2 10 y = -1
    · rw [if_pos q, pk_us, if_pos (hxl.mp q)]
      exact Or.inr ⟨n, hn, rfl, rfl⟩
    · rw [if_neg q, if_neg (fun z => q (hxl.mpr z))]
      exact hf
  · rw [q10]
    exact Or.inr ⟨n, hn, rfl, rfl⟩

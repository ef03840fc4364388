/-! the three calls that read what has been fed -/
section
variable {h h2 : am_H} {x m : Nat}
/-- a text read: the tape is done, the State may be another -/
theorem RL.text (c : RL h x m) (fx : ∀ j, j = 13 ∨ j = 14 → h2 x j = h x j) (fq : ∀ q, x < q → (x + 26 ≤ q ∧ q < x + 75 ∨ x + 114 ≤ q ∧ q < x + 117 ∨ q = x + 138 ∨ q = x + 139 ∨ q = x + 146) → h2 q = h q) (gq : ∀ q, q = m + 5 ∨ q = m + 8 ∨ q = m + 9 ∨ q = m + 22 ∨ q = m + 23 ∨ q = m + 27 ∨ q = m + 29 → h2 q = h q) (gj : ∀ j, j = 47 ∨ j = 48 ∨ j = 55 ∨ j = 58 ∨ j = 59 → h2 m j = h m j) (t1 : h2 x 1 = 0) (t2 : h2 m 2 = 0) (t3 : h2 x 2 = h2 m 10) (s : stR h2 (x + 2) (lai h2 m) (h2 (m + 6))) : RL h2 x m := by
  obtain ⟨ct, cs, ck, cr, cl, ch⟩ := c
  refine ⟨⟨by rw [t1, t2], by rw [t2]; omega, ?_, t3⟩, s, ck.but (fun q a b => fq q (by omega) (by omega)) (gq _ (by omega)) (gq _ (by omega)) (gq _ (by omega)), cr.but (fun q a b => fq q (by omega) (by omega)) (gq _ (by omega)) (gq _ (by omega)) (fun j hj => gj j (by omega)), cl.but (fun q a b => fq q (by omega) (by omega)) (gq _ (by omega)) (gj _ (by omega)), ch.but (fun j hj => fx j (by omega)) (fq _ (by omega) (by omega)) (gq _ (by omega)) (fun j hj => gj j (by omega))⟩
  rw [t2]
  intro i hi
  exact absurd hi (Nat.not_lt_zero i)
theorem lnA_c {A A' : Nat → Int} {k : Int} (e : ∀ i, 341 ≤ i → i < 582 → A' i = A i) (h60 : k ≤ 60) {j : Nat} (hj : (j : Int) < k) : lnA A' j = lnA A j := by
  unfold lnA
  rw [e (342 + 4 * j) (by omega) (by omega), e (343 + 4 * j) (by omega) (by omega), e (344 + 4 * j) (by omega) (by omega), e (345 + 4 * j) (by omega) (by omega)]
theorem lnM_r (a : LN) : lnM a a := ⟨rfl, rfl, fun _ => rfl⟩
theorem sNA_c {A A' : Nat → Int} (e : ∀ i, 600 ≤ i → i < 840 → A' i = A i) {nl : List LN} (hl : nl.length ≤ 40) (c : sNA A nl) : sNA A' nl := by
  intro j n hj
  obtain ⟨lt, -⟩ := List.getElem?_eq_some_iff.mp hj
  rw [e (600 + 4 * j) (by omega) (by omega), e (600 + 4 * j + 1) (by omega) (by omega), e (600 + 4 * j + 2) (by omega) (by omega), e (600 + 4 * j + 3) (by omega) (by omega)]
  exact c j n hj
theorem pSen_40 {s : Nat → Int} {n : Nat} {T : SS × Int} (e : pSen (lxs s n 200 0) = .inr T) : T.1.1.length ≤ 40 := by
  have len : (lxs s n 200 0).length ≤ 1000 := by
    have := lxS_len s n 200 (min n 200 - 0) 0
    unfold lxs
    omega
  exact (pSen_i (tE_lxS _ _ _ _ _) len e).2.2.2
end
section
variable {Y : am_Y} {h : am_H} {x m : Nat}
theorem two_village (hY : am_at Y x am_L11) (hM : am_at Y m am_L12) (dis : x + 148 ≤ m) (c : RL h x m) : am_two am_Nh_village am_Md_village Y x m [] h := by
  have cs := c.2.1
  obtain ⟨t1, t2, t3, t4⟩ := c.1
  refine am_Met.rg fun ok _ => ?_
  have b := b22 ok hM
  have hn : ((h m 2).toNat : Int) = h m 2 := by omega
  generalize (h m 2).toNat = n at hn t3
  refine am_cI.mono (ac_N_village (d := 47) (n := n) (h (m + 3)) (h (m + 7)) hY (by omega) (by omega)) ?_
  rintro v h1 - - ⟨f1, j1, j2, o1⟩
  have e1 : ∀ q, m ≤ q → h1 q = h q := fun q hq => f1 q (by omega) (by omega) (by omega)
  have la : lai h1 m = lai h m := lai_u (e1 _ (by omega)) (by rw [e1 m (by omega)])
  have b1 : h1 m 22 = 0 ∨ h1 m 22 = 1 := by rw [e1 m (by omega)]; exact b
  refine am_cI.mono (ac_m_village (d := 53) (n := n) (s := h (x + 1)) hM b1 (by rw [e1 m (by omega)]; omega) (by omega) (by rw [e1 (m + 1) (by omega)]; exact t3)) ?_
  rintro w h2 - - ⟨⟨g0, g2, g22, gq, gj⟩, o2⟩
  have ev : vE h1 m (h (x + 1)) n = pLines 1000 0 0 (pInit (h (m + 3)), h (m + 7), lxs (h (x + 1)) n 900 0) := by
    unfold vE
    rw [e1 (m + 3) (by omega), e1 (m + 7) (by omega)]
  rw [ev] at o2
  have lo : ∀ q, q < m → h2 q = h1 q := fun q hq => gq q (by omega) (by omega) (by omega) (by omega) (by omega)
  have la2 : lai h2 m = h2 (m + 2) := lai_1 g22
  have fin : h2 x 2 = h2 m 10 → stR h2 (x + 2) (lai h2 m) (h2 (m + 6)) → RL h2 x m := fun a s => c.text (fun j hj => by rw [lo x (by omega), j2 j (by omega) (by omega)]) (fun q h0 hq => by rw [lo q (by omega), f1 q (by omega) (by omega) (by omega)]) (fun q hq => by rw [gq q (by omega) (by omega) (by omega) (by omega) (by omega), e1 q (by omega)]) (fun j hj => by rw [gj j (by omega) (by omega) (by omega), e1 m (by omega)]) (by rw [lo x (by omega)]; exact j1) g2 a s
  cases hE : pLines 1000 0 0 (pInit (h (m + 3)), h (m + 7), lxs (h (x + 1)) n 900 0) with
  | inl q =>
    rw [hE] at o1 o2
    obtain ⟨rfl, y2, y3⟩ := o1
    obtain ⟨rfl, z2, z3, z4⟩ := o2
    refine ⟨rfl, fin (by rw [lo x (by omega), y2, z2]) ?_⟩
    rw [la2, z3, la, z4, e1 (m + 6) (by omega)]
    exact cs.but fun q a b => by rw [lo q (by omega), y3 q (by omega) (by omega)]
  | inr B =>
    rw [hE] at o1 o2
    obtain ⟨rfl, y2, y3, y4, y5, y6, y7⟩ := o1
    obtain ⟨rfl, z2, z3, z4, -⟩ := o2
    refine ⟨rfl, fin (by rw [lo x (by omega), y2, z2]) ?_⟩
    rw [la2, z3, la, z4]
    have w1 := y7.1.z
    unfold rz at w1
    have w2 := wr_2 y7.1
    have ee : eqv B.2.1 (pNow (lai h m) B.2.1) := by
      intro i hi
      unfold pNow up zer cpy
      rw [if_neg (by omega), if_neg (by omega), if_neg (by omega), if_pos (by omega)]
    have a341 : pNow (lai h m) B.2.1 341 = 0 := by
      unfold pNow up
      rw [if_neg (by omega), if_pos rfl]
    have a590 : pNow (lai h m) B.2.1 590 = 0 := by
      unfold pNow up
      rw [if_pos rfl]
    have l3 : ∀ q, x + 3 ≤ q → q < x + 26 → h2 q = h1 q := fun q a b => lo q (by omega)
    have vv : vR h2 (x + 3) (B.2.1 1) B.2.1 B.2.2.1 := y3.but fun q a b => lo q (by omega)
    have n14 : ∀ i, i < 14 → cpy (h1 (m + 6)) B.2.2.1 14 i = B.2.2.1 i := fun i hi => by
      unfold cpy
      rw [if_pos hi]
    refine ⟨?_, wV_c ee y7, ⟨by omega, by omega, fun i hi => by omega⟩, ?_, fun p hp => ?_, Or.inl ⟨a590, by rw [lo (x + 2) (by omega)]; exact y6⟩⟩
    · rw [ee 1 (by omega)]
      exact vR_c vv ee n14 (by omega) (by omega) (by omega)
    · rw [a341, jBook_c (f := lnA (pNow (lai h m) B.2.1)) (n := (0 : Int).toNat) ee y7.1.z (fun j hj => absurd hj (Nat.not_lt_zero j))]
      have k := (y4 (lnA (pNow (lai h m) B.2.1))).but (h1 := h2) fun q a b => lo q (by omega)
      exact fkR_c k ee (by omega)
    · have p1 : pNow (lai h m) B.2.1 (325 + 2 * p) = 0 := by
        unfold pNow up zer
        rw [if_neg (by omega), if_neg (by omega), if_pos (by omega)]
      have p2 : pNow (lai h m) B.2.1 (326 + 2 * p) = 0 := by
        unfold pNow up zer
        rw [if_neg (by omega), if_neg (by omega), if_pos (by omega)]
      rw [p1, p2]
      have q5 := y5 p hp
      rw [lo (x + 2 + 21) (by omega), lo (x + 2 + 22) (by omega)]
      exact q5
theorem two_book (hY : am_at Y x am_L11) (hM : am_at Y m am_L12) (dis : x + 148 ≤ m) (c : RL h x m) : am_two am_Nh_book am_Md_book Y x m [] h := by
  have cs := c.2.1
  obtain ⟨t1, t2, t3, t4⟩ := c.1
  refine am_Met.rg fun ok _ => ?_
  have b := b22 ok hM
  have hn : ((h m 2).toNat : Int) = h m 2 := by omega
  generalize (h m 2).toNat = n at hn t3
  have hz := cs.2.1.1.z
  refine am_cI.mono (ac_N_book (d := 48) (n := n) hY cs (by omega) (by omega)) ?_
  rintro v h1 - - ⟨f1, j1, j2, o1⟩
  have e1 : ∀ q, m ≤ q → h1 q = h q := fun q hq => f1 q (by omega) (by omega) (by omega)
  have la : lai h1 m = lai h m := lai_u (e1 _ (by omega)) (by rw [e1 m (by omega)])
  have b1 : h1 m 22 = 0 ∨ h1 m 22 = 1 := by rw [e1 m (by omega)]; exact b
  refine am_cI.mono (ac_m_book (d := 53) (n := n) (s := h (x + 1)) hM b1 (by rw [e1 m (by omega)]; omega) (by omega) (by rw [e1 (m + 1) (by omega)]; exact t3) (by rw [la]; exact hz)) ?_
  rintro w h2 - - ⟨⟨g0, g2, g22, gq, gj⟩, o2⟩
  rw [la, e1 (m + 6) (by omega)] at o2
  have lo : ∀ q, q < m → h2 q = h1 q := fun q hq => gq q (by omega) (by omega) (by omega)
  have la2 : lai h2 m = h2 (m + 2) := lai_1 g22
  have n6 : h2 (m + 6) = h (m + 6) := by rw [gq (m + 6) (by omega) (by omega) (by omega), e1 (m + 6) (by omega)]
  have fin : h2 x 2 = h2 m 10 → stR h2 (x + 2) (lai h2 m) (h2 (m + 6)) → RL h2 x m := fun a s => c.text (fun j hj => by rw [lo x (by omega), j2 j (by omega) (by omega)]) (fun q h0 hq => by rw [lo q (by omega), f1 q (by omega) (by omega) (by omega)]) (fun q hq => by rw [gq q (by omega) (by omega) (by omega), e1 q (by omega)]) (fun j hj => by rw [gj j (by omega) (by omega) (by omega), e1 m (by omega)]) (by rw [lo x (by omega)]; exact j1) g2 a s
  cases hE : pBks (lai h m) (h (m + 6)) 1000 (fun _ => (0, 0, 0, 0)) 0 0 (lxs (h (x + 1)) n 700 0) with
  | inl q =>
    rw [hE] at o1 o2
    obtain ⟨rfl, y2, y3⟩ := o1
    obtain ⟨rfl, z2, z3⟩ := o2
    refine ⟨rfl, fin (by rw [lo x (by omega), y2, z2]) ?_⟩
    rw [la2, z3, la, n6]
    exact cs.but fun q a b => by
      rw [lo q (by omega)]
      by_cases hq : q < x + 14 ∨ x + 23 ≤ q
      · exact f1 q (by omega) hq (by omega)
      · exact y3 q (by omega) (by omega)
  | inr B =>
    rw [hE] at o1 o2
    obtain ⟨rfl, y2, y3, y4, y5⟩ := o1
    obtain ⟨rfl, z2, z3, z4, -, z6⟩ := o2
    refine ⟨rfl, fin (by rw [lo x (by omega), y2, z2]) ?_⟩
    rw [la2, n6]
    obtain ⟨c1, c2, c3, c4, c5, c6⟩ := cs
    have w1 := c2.1.z
    unfold rz at w1
    have w2 := wr_2 c2.1
    rw [la] at z4
    have ee : eqv (lai h m) (h2 (m + 2)) := fun i hi => z4 i (by omega) (by omega)
    have okA : ∀ j, j < B.2 → lnOK (lai h m) (lnA (h2 (m + 2)) j) := fun j hj => lnOK_M (z6 j hj) (y5 j hj)
    have st : ∀ q, x + 2 ≤ q → q < x + 26 → (q < x + 14 ∨ x + 23 ≤ q) → h2 q = h q := fun q a b d => by rw [lo q (by omega), f1 q (by omega) d (by omega)]
    refine ⟨?_, wV_c ee c2, ⟨by omega, by omega, fun i hi => (lnOK_c ee).mpr (okA i (by omega))⟩, ?_, fun p hp => ?_, ?_⟩
    · rw [ee 1 (by omega)]
      exact vR_c (c1.but fun q a b => st q (by omega) (by omega) (by omega)) ee (fun _ _ => rfl) (by omega) (by omega) (by omega)
    · have kb : (h2 (m + 2) 341).toNat = B.2 := by omega
      rw [kb, jBook_c ee c2.1.z okA, ← jBook_M z6]
      exact fkR_c (y3.but (h1 := h2) fun q a b => lo q (by omega)) ee (by omega)
    · rw [st (x + 2 + 21) (by omega) (by omega) (by omega), st (x + 2 + 22) (by omega) (by omega) (by omega), z4 _ (by omega) (by omega), z4 _ (by omega) (by omega)]
      exact c5 p hp
    · rcases c6 with ⟨a, b⟩ | ⟨a, n, T, s, b1, b2, b3, b4, b5, b6⟩
      · exact Or.inl ⟨by rw [z4 _ (by omega) (by omega)]; exact a, by rw [st (x + 2) (by omega) (by omega) (by omega)]; exact b⟩
      · refine Or.inr ⟨by rw [z4 _ (by omega) (by omega)]; exact a, n, T, s, by rw [st (x + 2) (by omega) (by omega) (by omega)]; exact b1, b2, fun i hi => by rw [st (x + 2 + 23) (by omega) (by omega) (by omega)]; exact b3 i hi, b4, by rw [z4 _ (by omega) (by omega)]; exact b5, sNA_c (fun i a b => z4 i (by omega) (by omega)) (pSen_40 b4) b6⟩
theorem two_sentence (hY : am_at Y x am_L11) (hM : am_at Y m am_L12) (dis : x + 148 ≤ m) (c : RL h x m) : am_two am_Nh_sentence am_Md_sentence Y x m [] h := by
  have cs := c.2.1
  obtain ⟨t1, t2, t3, t4⟩ := c.1
  refine am_Met.rg fun ok _ => ?_
  have b := b22 ok hM
  have hn : ((h m 2).toNat : Int) = h m 2 := by omega
  generalize (h m 2).toNat = n at hn t3
  refine am_cI.mono (ac_N_sentence (d := 18) (n := n) hY cs (by omega) (by omega)) ?_
  rintro v h1 - - ⟨f1, j1, j2, j5, o1⟩
  have e1 : ∀ q, m ≤ q → h1 q = h q := fun q hq => f1 q (by omega) (by omega) (by omega) (by omega)
  have la : lai h1 m = lai h m := lai_u (e1 _ (by omega)) (by rw [e1 m (by omega)])
  have b1 : h1 m 22 = 0 ∨ h1 m 22 = 1 := by rw [e1 m (by omega)]; exact b
  refine am_cI.mono (ac_m_sentence (d := 19) (n := n) (s := h (x + 1)) hM b1 (by rw [e1 m (by omega)]; omega) (by omega) (by rw [e1 (m + 1) (by omega)]; exact t3)) ?_
  rintro w h2 - - ⟨⟨g0, g2, g22, gq, gj⟩, o2⟩
  have lo : ∀ q, q < m → h2 q = h1 q := fun q hq => gq q (by omega) (by omega) (by omega)
  have la2 : lai h2 m = h2 (m + 2) := lai_1 g22
  have n6 : h2 (m + 6) = h (m + 6) := by rw [gq (m + 6) (by omega) (by omega) (by omega), e1 (m + 6) (by omega)]
  have fin : h2 x 2 = h2 m 10 → stR h2 (x + 2) (lai h2 m) (h2 (m + 6)) → RL h2 x m := fun a s => c.text (fun j hj => by rw [lo x (by omega), j2 j (by omega) (by omega)]) (fun q h0 hq => by rw [lo q (by omega), f1 q (by omega) (by omega) (by omega) (by omega)]) (fun q hq => by rw [gq q (by omega) (by omega) (by omega), e1 q (by omega)]) (fun j hj => by rw [gj j (by omega) (by omega) (by omega) (by omega) (by omega) (by omega), e1 m (by omega)]) (by rw [lo x (by omega)]; exact j1) g2 a s
  cases hE : pSen (lxs (h (x + 1)) n 200 0) with
  | inl q =>
    rw [hE] at o1 o2
    obtain ⟨rfl, y2, y3, y4⟩ := o1
    obtain ⟨rfl, z2, z3⟩ := o2
    refine ⟨rfl, fin (by rw [lo x (by omega), y2, z2]) ?_⟩
    rw [la2, z3, la, n6]
    exact cs.but fun q a b => by
      rw [lo q (by omega)]
      by_cases q1 : q = x + 2
      · rw [q1]; exact y3
      · by_cases q2 : q = x + 25
        · rw [q2]; exact y4
        · exact f1 q (by omega) q1 q2 (by omega)
  | inr T =>
    rw [hE] at o1 o2
    obtain ⟨rfl, y2, y3, y4⟩ := o1
    obtain ⟨rfl, z2, z3, z4, z5, -, z6⟩ := o2
    refine ⟨rfl, fin (by rw [lo x (by omega), y2, z2]) ?_⟩
    rw [la2, n6]
    obtain ⟨c1, c2, ⟨c3, c3', c3''⟩, c4, c5, c6⟩ := cs
    have w1 := c2.1.z
    unfold rz at w1
    have w2 := wr_2 c2.1
    rw [la] at z6
    have ee : eqv (lai h m) (h2 (m + 2)) := fun i hi => z6 i (by omega) (by omega) (by omega)
    have l41 : h2 (m + 2) 341 = lai h m 341 := z6 _ (by omega) (by omega) (by omega)
    have lne : ∀ j : Nat, (j : Int) < lai h m 341 → lnA (h2 (m + 2)) j = lnA (lai h m) j := fun j hj => lnA_c (fun i a b => z6 i (by omega) (by omega) (by omega)) c3' hj
    have st : ∀ q, x + 3 ≤ q → q < x + 25 → h2 q = h q := fun q a b => by rw [lo q (by omega), f1 q (by omega) (by omega) (by omega) (by omega)]
    refine ⟨?_, wV_c ee c2, ⟨by omega, by omega, fun i hi => ?_⟩, ?_, fun p hp => ?_, Or.inr ⟨z3, n, T, h (x + 1), ?_, pSen_len hE, fun i hi => ?_, hE, z4, z5⟩⟩
    · rw [ee 1 (by omega)]
      exact vR_c (c1.but fun q a b => st q (by omega) (by omega)) ee (fun _ _ => rfl) (by omega) (by omega) (by omega)
    · rw [l41] at hi
      rw [lne i hi]
      exact (lnOK_c ee).mpr (c3'' i hi)
    · rw [l41, jBook_c ee c2.1.z (fun j hj => by rw [lne j (by omega)]; exact c3'' j (by omega)), jBook_M (g := lnA (lai h m)) fun j hj => by rw [lne j (by omega)]; exact lnM_r _]
      exact fkR_c (c4.but (h1 := h2) fun q a b => st q (by omega) (by omega)) ee (by omega)
    · rw [st (x + 2 + 21) (by omega) (by omega), st (x + 2 + 22) (by omega) (by omega), z6 _ (by omega) (by omega) (by omega), z6 _ (by omega) (by omega) (by omega)]
      exact c5 p hp
    · rw [lo (x + 2) (by omega)]
      exact y3
    · rw [lo (x + 2 + 23) (by omega)]
      exact y4 i hi
end

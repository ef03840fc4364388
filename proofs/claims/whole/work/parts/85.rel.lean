/-! the two objects beside each other: the class's x, the reference's m -/
def tpR (h : am_H) (x m : Nat) : Prop := h x 1 = h m 2 ∧ (0 ≤ h m 2 ∧ h m 2 ≤ 940) ∧ su (h (x + 1)) (h (m + 1)) (h m 2).toNat ∧ h x 2 = h m 10
def ktR (h : am_H) (x m : Nat) : Prop := ∀ k : Nat, k < 2 → h (x + 27 + 24 * k) 6 = h (m + 9) k ∧ (¬ h (m + 9) k = 0 → stR h (x + 27 + 24 * k) (fun i => h (m + 5) (840 * k + i)) (fun i => h (m + 8) (14 * k + i)))
def rnR (h : am_H) (x m : Nat) : Prop := (h (x + 114) 0 = h m 48 ∧ h (x + 114) 1 = h m 47 ∧ (h m 48 = 0 → h m 47 = 0) ∧ 0 ≤ h m 47 ∧ h m 47 ≤ 8) ∧ (¬ h m 48 = 0 → ∀ i : Nat, i < 8 → h (x + 116) i = h (m + 22) i) ∧ ∀ p : Nat, (p : Int) < h m 47 → h (x + 115) p = h (m + 23) p
def lfR (h : am_H) (x m : Nat) : Prop := (h (x + 138) 0 = h m 55 ∧ 0 ≤ h m 55 ∧ h m 55 ≤ 48) ∧ ∀ n : Nat, (n : Int) < h m 55 → h (x + 139) n = h (m + 27) n
def thR (h : am_H) (x m : Nat) : Prop := (h x 13 = h m 58 ∧ h x 14 = h m 59 ∧ 0 ≤ h m 58 ∧ h m 58 ≤ 8) ∧ ∀ q : Nat, (q : Int) < h m 58 → h (x + 146) q = h (m + 29) q
def RL (h : am_H) (x m : Nat) : Prop := tpR h x m ∧ stR h (x + 2) (lai h m) (h (m + 6)) ∧ ktR h x m ∧ rnR h x m ∧ lfR h x m ∧ thR h x m
section
variable {h h1 h2 : am_H} {x m o : Nat} {A N : Nat → Int}
theorem stS.but (c : stS h o A) (f5 : h1 o 5 = h o 5) (f23 : h1 (o + 23) = h (o + 23)) : stS h1 o A := by
  rcases c with ⟨a, b⟩ | ⟨a, n, T, s, b1, b2, b3, b4⟩
  · exact Or.inl ⟨a, by rw [f5]; exact b⟩
  · exact Or.inr ⟨a, n, T, s, by rw [f5]; exact b1, b2, fun i hi => by rw [f23]; exact b3 i hi, b4⟩
theorem stR.but (c : stR h o A N) (f : ∀ q, o ≤ q → q < o + 24 → h1 q = h q) : stR h1 o A N := by
  obtain ⟨c1, c2, c3, c4, c5, c6⟩ := c
  exact ⟨c1.but fun q a b => f q (by omega) (by omega), c2, c3, c4.but fun q a b => f q (by omega) (by omega), fun p hp => by rw [f (o + 21) (by omega) (by omega), f (o + 22) (by omega) (by omega)]; exact c5 p hp, c6.but (by rw [f o (by omega) (by omega)]) (f _ (by omega) (by omega))⟩
theorem tpR.but (c : tpR h x m) (fx : ∀ j, j = 1 ∨ j = 2 → h1 x j = h x j) (f1 : h1 (x + 1) = h (x + 1)) (g1 : h1 (m + 1) = h (m + 1)) (gj : ∀ j, j = 2 ∨ j = 10 → h1 m j = h m j) : tpR h1 x m := by
  unfold tpR
  rw [fx 1 (by omega), fx 2 (by omega), f1, g1, gj 2 (by omega), gj 10 (by omega)]
  exact c
theorem ktR.but (c : ktR h x m) (f : ∀ q, x + 27 ≤ q → q < x + 75 → h1 q = h q) (g5 : h1 (m + 5) = h (m + 5)) (g8 : h1 (m + 8) = h (m + 8)) (g9 : h1 (m + 9) = h (m + 9)) : ktR h1 x m := by
  intro k hk
  obtain ⟨c1, c2⟩ := c k hk
  rw [g5, g8, g9, f _ (by omega) (by omega)]
  exact ⟨c1, fun z => (c2 z).but fun q a b => f q (by omega) (by omega)⟩
theorem rnR.but (c : rnR h x m) (f : ∀ q, x + 114 ≤ q → q < x + 117 → h1 q = h q) (g22 : h1 (m + 22) = h (m + 22)) (g23 : h1 (m + 23) = h (m + 23)) (gj : ∀ j, j = 47 ∨ j = 48 → h1 m j = h m j) : rnR h1 x m := by
  unfold rnR
  rw [f (x + 114) (by omega) (by omega), f (x + 115) (by omega) (by omega), f (x + 116) (by omega) (by omega), g22, g23, gj 47 (by omega), gj 48 (by omega)]
  exact c
theorem lfR.but (c : lfR h x m) (f : ∀ q, x + 138 ≤ q → q < x + 140 → h1 q = h q) (g27 : h1 (m + 27) = h (m + 27)) (gj : h1 m 55 = h m 55) : lfR h1 x m := by
  unfold lfR
  rw [f (x + 138) (by omega) (by omega), f (x + 139) (by omega) (by omega), g27, gj]
  exact c
theorem thR.but (c : thR h x m) (fx : ∀ j, j = 13 ∨ j = 14 → h1 x j = h x j) (f146 : h1 (x + 146) = h (x + 146)) (g29 : h1 (m + 29) = h (m + 29)) (gj : ∀ j, j = 58 ∨ j = 59 → h1 m j = h m j) : thR h1 x m := by
  unfold thR
  rw [fx 13 (by omega), fx 14 (by omega), f146, g29, gj 58 (by omega), gj 59 (by omega)]
  exact c
/-- where a call's step may leave the two without a word -/
def xFr (h h1 : am_H) (x : Nat) : Prop := (∀ j, j = 1 ∨ j = 2 ∨ j = 13 ∨ j = 14 → h1 x j = h x j) ∧ ∀ q, x < q → (q < x + 75 ∨ x + 114 ≤ q ∧ q < x + 117 ∨ q = x + 138 ∨ q = x + 139 ∨ q = x + 146) → h1 q = h q
def yFr (h h1 : am_H) (m : Nat) : Prop := lai h1 m = lai h m ∧ (∀ q, q = m + 1 ∨ q = m + 5 ∨ q = m + 6 ∨ q = m + 8 ∨ q = m + 9 ∨ q = m + 22 ∨ q = m + 23 ∨ q = m + 27 ∨ q = m + 29 → h1 q = h q) ∧ ∀ j, j = 2 ∨ j = 10 ∨ j = 47 ∨ j = 48 ∨ j = 55 ∨ j = 58 ∨ j = 59 → h1 m j = h m j
theorem RL.but (c : RL h x m) (f : xFr h h1 x) (g : yFr h h1 m) : RL h1 x m := by
  obtain ⟨ct, cs, ck, cr, cl, ch⟩ := c
  obtain ⟨fx, fq⟩ := f
  obtain ⟨gl, gq, gj⟩ := g
  refine ⟨ct.but (fun j hj => fx j (by omega)) (fq _ (by omega) (by omega)) (gq _ (by omega)) (fun j hj => gj j (by omega)), ?_, ck.but (fun q a b => fq q (by omega) (by omega)) (gq _ (by omega)) (gq _ (by omega)) (gq _ (by omega)), cr.but (fun q a b => fq q (by omega) (by omega)) (gq _ (by omega)) (gq _ (by omega)) (fun j hj => gj j (by omega)), cl.but (fun q a b => fq q (by omega) (by omega)) (gq _ (by omega)) (gj _ (by omega)), ch.but (fun j hj => fx j (by omega)) (fq _ (by omega) (by omega)) (gq _ (by omega)) (fun j hj => gj j (by omega))⟩
  rw [gl, gq (m + 6) (by omega)]
  exact cs.but fun q a b => fq q (by omega) (by omega)
/-- from a step of the class to one of the reference -/
theorem xFr.two (dis : x + 148 ≤ m) (f : xFr h h1 x) (g : ∀ q, q < m → h2 q = h1 q) : xFr h h2 x :=
  ⟨fun j hj => by rw [g x (by omega)]; exact f.1 j hj, fun q a b => by rw [g q (by omega)]; exact f.2 q a b⟩
theorem xFr.refl : xFr h h x := ⟨fun _ _ => rfl, fun _ _ _ => rfl⟩
theorem yFr.two (f : ∀ q, m ≤ q → h1 q = h q) (g : yFr h1 h2 m) : yFr h h2 m := by
  obtain ⟨g1, g2, g3⟩ := g
  refine ⟨g1.trans (lai_u (f _ (by omega)) (by rw [f m (by omega)])), fun q hq => (g2 q hq).trans (f q (by omega)), fun j hj => (g3 j hj).trans (by rw [f m (by omega)])⟩
theorem mDs.y (c : mDs h h1 m) : yFr h h1 m := by
  obtain ⟨c0, c2, c22, cq, cj⟩ := c
  exact ⟨by rw [lai_1 c22, c2], fun q hq => cq q (by omega) (by omega) (by omega), fun j hj => cj j (by omega) (by omega) (by omega)⟩
theorem mDs.lo (c : mDs h h1 m) : ∀ q, q < m → h1 q = h q := fun q hq => c.2.2.2.1 q (by omega) (by omega) (by omega)
theorem sBits.eq {B B' P : Int} {F : Nat → Int → Int} {fr : Nat → Prop} {nl : List LN} {i : Int} (a : sBits B P F fr nl i) (b : sBits B' P F fr nl i) : B = B' :=
  hb_ext a.1 b.1 fun k hk => (a.2 k hk).trans (b.2 k hk).symm
end
section
variable {Y : am_Y} {h : am_H} {x m d D : Nat}
theorem am_cI.mono {M : am_M} {av : List am_V} {K K' : Int → am_H → Prop} (c : am_cI M d Y av h K) (f : ∀ v h1, am_ok Y h1 → am_ri v → K v h1 → K' v h1) : am_cI M d Y av h K' :=
  am_Met.mono c fun r h1 ho hr hq => by
    obtain ⟨v, rfl, k⟩ := hq
    exact ⟨v, rfl, f v h1 ho (hr _ rfl) k⟩
theorem am_cJ.mono {M : am_M} {av : List am_V} {K K' : Int → am_H → Prop} (c : am_cJ M d Y av h K) (f : ∀ v h1, am_ok Y h1 → am_rl v → K v h1 → K' v h1) : am_cJ M d Y av h K' :=
  am_Met.mono c fun r h1 ho hr hq => by
    obtain ⟨v, rfl, k⟩ := hq
    exact ⟨v, rfl, f v h1 ho (hr _ rfl) k⟩
theorem b22 (ok : am_ok Y h) (hM : am_at Y m am_L12) : h m 22 = 0 ∨ h m 22 = 1 := (ok m _ (hM 0 _ rfl) 22).2.2.1 (by decide)
/-- a call of the one, then of the other: the same answer, and they stand beside each other -/
def am_two (Mc Mm : am_M) (Y : am_Y) (x m : Nat) (av : List am_V) (h : am_H) : Prop :=
  am_cI Mc 60 Y (.inr (.inr x) :: av) h fun v h1 => am_cI Mm 60 Y (.inr (.inr m) :: av) h1 fun w h2 => w = v ∧ RL h2 x m
theorem two_said (hY : am_at Y x am_L11) (hM : am_at Y m am_L12) (dis : x + 148 ≤ m) (c : RL h x m) : am_two am_Nh_said am_Md_said Y x m [] h := by
  have cs := c.2.1
  refine am_Met.rg fun ok _ => ?_
  have b := b22 ok hM
  refine am_cI.mono (ac_N_said (d := 18) hY cs (jOf h m)) ?_
  rintro v h1 - - ⟨f1, o0, o1⟩
  have e1 : ∀ q, m ≤ q → h1 q = h q := fun q hq => f1 q (by omega)
  have la : lai h1 m = lai h m := lai_u (e1 _ (by omega)) (by rw [e1 m (by omega)])
  have jo : jOf h1 m = jOf h m := by
    funext i
    unfold jOf
    rw [e1 m (by omega), e1 (m + 9 + i) (by omega)]
  have fin : ∀ h2, mDs h1 h2 m → RL h2 x m := fun h2 ds => c.but (xFr.two dis ⟨fun j _ => by rw [f1 x (by omega)], fun q a b => f1 q (by omega)⟩ ds.lo) (ds.y.two e1)
  have b1 : h1 m 22 = 0 ∨ h1 m 22 = 1 := by rw [e1 m (by omega)]; exact b
  have w3 := wr_3 cs.2.1.1
  by_cases hA : lai h m 590 = 0
  · refine am_cI.mono (ac_m_said (d := 15) (nl := []) hM b1 (by rw [la]; exact cs.2.1.1.z) (by rw [la]; omega) (by rw [la]; exact cs.2.2.1) (by rw [la]; exact fun z => absurd hA z)) ?_
    rintro w h2 - - ⟨ds, p0, -⟩
    rw [la] at p0
    exact ⟨by rw [p0 hA, o0 hA], fin h2 ds⟩
  · obtain ⟨nl, n1, n2, n3, n4, n5⟩ := o1 hA
    refine am_cI.mono (ac_m_said (d := 15) (nl := nl) hM b1 (by rw [la]; exact cs.2.1.1.z) (by rw [la]; omega) (by rw [la]; exact cs.2.2.1) (by rw [la]; exact fun _ => ⟨n1, n2, n3, n4⟩)) ?_
    rintro w h2 - - ⟨ds, -, p1⟩
    rw [la, jo] at p1
    exact ⟨(p1 hA).eq n5, fin h2 ds⟩
end

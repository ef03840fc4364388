/-! a book, judged: what lies outside of the rows says nothing; lines as kept and as told -/
def jin (c i j : Nat) : Prop := i = 0 ∧ j < 5 ∨ (i = 1 ∨ i = 2 ∨ i = 8) ∧ j < 384 ∨ i = 3 ∧ j < 48 ∨ (i = 4 ∨ i = 5 ∨ i = 6) ∧ j < 8 ∨ i = 7 ∧ j < c
/-- the rows of J, what lies outside of X -/
noncomputable def ov (c : Nat) (X J : am_H) : am_H := fun i j => @ite _ (jin c i j) (Classical.propDecidable _) (J i j) (X i j)
section
variable {X J : am_H} {R : Nat → Int} {c : Nat}
theorem ov_in {i j : Nat} (h : jin c i j) : ov c X J i j = J i j := if_pos h
theorem ov_u {i j : Nat} {x : Int} (h : jin c i j) : am_u (ov c X J) i j x = ov c X (am_u J i j x) := by
  funext a b
  unfold am_u
  by_cases z : a = i ∧ b = j
  · rw [if_pos z]
    obtain ⟨rfl, rfl⟩ := z
    rw [ov_in h, if_pos ⟨rfl, rfl⟩]
  · rw [if_neg z]
    by_cases k : jin c a b
    · rw [ov_in k, ov_in k, if_neg z]
    · have e1 : ov c X J a b = X a b := if_neg k
      have e2 : ov c X (fun q i_1 => if q = i ∧ i_1 = j then x else J q i_1) a b = X a b := if_neg k
      rw [e1, e2]
theorem jin0 {j : Nat} (h : j < 5) : jin c 0 j := Or.inl ⟨rfl, h⟩
theorem jinB {i j : Nat} (hi : i = 1 ∨ i = 2 ∨ i = 8) (h : j < 384) : jin c i j := Or.inr (Or.inl ⟨hi, h⟩)
theorem jin3 {j : Nat} (h : j < 48) : jin c 3 j := Or.inr (Or.inr (Or.inl ⟨rfl, h⟩))
theorem jinP {i j : Nat} (hi : i = 4 ∨ i = 5 ∨ i = 6) (h : j < 8) : jin c i j := Or.inr (Or.inr (Or.inr (Or.inl ⟨hi, h⟩)))
theorem jin7 {j : Nat} (h : j < c) : jin c 7 j := Or.inr (Or.inr (Or.inr (Or.inr ⟨rfl, h⟩)))
theorem ov_E1 {p q k : Nat} (hp : p < 8) (hq : q < 8) (hk : k < 6) : jE1 p q k (ov c X J) = ov c X (jE1 p q k J) := by
  have hb : jb p q k < 384 := by rw [jb_n]; omega
  unfold jE1
  rw [ov_in (jinB (i := 8) (by omega) hb), ov_in (jinB (i := 1) (by omega) hb), ov_in (jinB (i := 2) (by omega) hb), ov_in (jin0 (j := 4) (by omega)), ov_in (jin3 (j := 6 * q + k) (by omega)), ov_in (jinP (i := 6) (by omega) hp), ov_in (jin0 (j := 2) (by omega))]
  split
  · rw [ov_u (jinB (by omega) hb), ov_u (jinP (by omega) hp), ov_u (jin0 (by omega))]
  · rw [ov_u (jinB (by omega) hb)]
theorem ov_lp {f : Nat → am_H → am_H} : ∀ n, (∀ i, i < n → ∀ J, f i (ov c X J) = ov c X (f i J)) → ∀ J, lp f n (ov c X J) = ov c X (lp f n J)
  | 0, _, _ => rfl
  | n + 1, h, J => by
    show f n (lp f n (ov c X J)) = ov c X (f n (lp f n J))
    rw [ov_lp n (fun i hi => h i (by omega)) J, h n (by omega)]
theorem ov_End (hz : rz R) : jEnd R (ov c X J) = ov c X (jEnd R J) := by
  unfold rz at hz
  have e4 : jE4 R (ov c X J) = ov c X (jE4 R J) := ov_lp _ (fun p hp J => ov_lp _ (fun q hq J => ov_lp _ (fun k hk J => ov_E1 (by omega) (by omega) (by omega)) J) J) J
  have e5 : ∀ J, jE5 (ov c X J) = ov c X (jE5 J) := fun J => ov_lp _ (fun i hi J => ov_u (jin3 hi)) J
  unfold jEnd
  rw [e4, e5, ov_in (jin0 (by omega)), ov_u (jin0 (by omega))]
theorem ov_Cnt (hz : rz R) {p y : Int} (hp : 0 ≤ p ∧ p < 8) : jCnt R (ov c X J) p y = jCnt R J p y := by
  unfold rz at hz
  unfold jCnt
  refine sm_congr _ fun q hq => sm_congr _ fun k hk => ?_
  rw [ov_in (jinB (i := 2) (by omega) (by unfold jb; omega))]
theorem ov_L (hz : rz R) {w p q k : Int} (hp : 0 ≤ p ∧ p < 8) (hq : 0 ≤ q ∧ q < 8) (hk : 0 ≤ k ∧ k < 6) : jL R (ov c X J) w p q k = ((jL R J w p q k).1, ov c X (jL R J w p q k).2) := by
  have b1 : jb p q k < 384 := by unfold jb; omega
  have b2 : jb q p k < 384 := by unfold jb; omega
  unfold jL
  rw [ov_in (jin3 (j := (6 * q + k).toNat) (by omega)), ov_in (jin3 (j := (6 * p + k).toNat) (by omega)), ov_in (jinB (i := 2) (by omega) b1), ov_in (jinB (i := 2) (by omega) b2), ov_in (jin0 (j := 4) (by omega)), ov_Cnt hz hq]
  split
  · split
    · rfl
    · split
      · rfl
      · split
        · rfl
        · simp only [jHelp]
          rw [ov_u (jin3 (j := (6 * q + k).toNat) (by omega)), ov_in (jinP (i := 5) (by omega) (j := p.toNat) (by omega)), ov_u (jinP (i := 5) (by omega) (by omega)), ov_in (jinP (i := 4) (by omega) (j := p.toNat) (by omega)), ov_u (jinP (i := 4) (by omega) (by omega)), ov_in (jinP (i := 4) (by omega) (j := q.toNat) (by omega)), ov_u (jinP (i := 4) (by omega) (by omega))]
  · split
    · split
      · rfl
      · split
        · rfl
        · split
          · rfl
          · have eA : jAst (ov c X J) (6 * p + k).toNat q = ov c X (jAst J (6 * p + k).toNat q) := by
              unfold jAst
              rw [ov_in (jin3 (by omega)), ov_in (jin0 (by omega))]
              split
              · rfl
              · rw [ov_u (jin0 (by omega))]
            have e2 : jThk R (ov c X J) p q k = ov c X (jThk R J p q k) := by
              unfold jThk
              rw [eA]
              unfold jThk2 jDu
              rw [ov_in (jinB (i := 8) (by omega) b2), ov_in (jinB (i := 1) (by omega) b2), ov_in (jinB (i := 2) (by omega) b2), ov_in (jin0 (j := 4) (by omega)), ov_in (jin0 (j := 3) (by omega)), ov_u (jinB (i := 8) (by omega) b2), ov_u (jinB (i := 1) (by omega) b2), ov_u (jinB (i := 2) (by omega) b2), ov_u (jin0 (by omega))]
            rw [e2]
    · split
      · rfl
      · simp only [jLv]
        rw [ov_u (jinB (i := 2) (by omega) b1), ov_u (jinB (i := 1) (by omega) b1), ov_u (jinB (i := 8) (by omega) b1), ov_in (jinP (i := 4) (by omega) (j := p.toNat) (by omega)), ov_u (jinP (i := 4) (by omega) (by omega))]
theorem ov_Yrs (hz : rz R) (y : Int) : ∀ (f : Nat) (J : am_H), jYrs R f y (ov c X J) = ov c X (jYrs R f y J)
  | 0, _ => rfl
  | f + 1, J => by
    unfold jYrs
    rw [ov_in (jin0 (by omega))]
    split
    · rw [ov_End hz, ov_Yrs hz y f]
    · rfl
theorem ov_u7 {x : Int} : am_u (ov c X J) 7 c x = ov (c + 1) X (am_u J 7 c x) := by
  funext a b
  by_cases z : a = 7 ∧ b = c
  · obtain ⟨rfl, rfl⟩ := z
    rw [am_u_s, ov_in (jin7 (by omega)), am_u_s]
  · have e1 : am_u (ov c X J) 7 c x a b = ov c X J a b := by
      unfold am_u
      rw [if_neg z]
    have e2 : am_u J 7 c x a b = J a b := by
      unfold am_u
      rw [if_neg z]
    rw [e1]
    by_cases k : jin c a b
    · have k' : jin (c + 1) a b := by
        unfold jin at k ⊢
        omega
      rw [ov_in k, ov_in k', e2]
    · have k' : ¬ jin (c + 1) a b := by
        unfold jin at k ⊢
        omega
      have e3 : ov c X J a b = X a b := if_neg k
      have e4 : ov (c + 1) X (am_u J 7 c x) a b = X a b := if_neg k'
      rw [e3, e4]
theorem ov_Line (hz : rz R) {ln : LN} (ok : lnOK R ln) : jLine R ln c (ov c X J) = ov (c + 1) X (jLine R ln c J) := by
  have hz' := hz
  unfold rz at hz'
  unfold jLine
  rw [ov_u7]
  by_cases z : ln.1 = 0
  · rw [if_pos z, if_pos z, ov_Yrs hz]
  · rw [if_neg z, if_neg z]
    rcases ok with ok | ok
    · exact absurd ok.1 z
    · obtain ⟨o1, o2, o3, o4, o5, o6, o7, o8, o9⟩ := ok
      rw [ov_L hz ⟨o3, by omega⟩ ⟨o5, by omega⟩ ⟨o8, by omega⟩]
      dsimp only
      split
      · rw [ov_u (jin7 (by omega))]
      · rw [ov_u (jin7 (by omega)), ov_in (jin0 (by omega)), ov_u (jin0 (by omega))]
theorem ov_Clr : jClr X = ov 0 X (jClr J) := by
  funext i j
  by_cases k : jin 0 i j
  · rw [ov_in k]
    rcases k with ⟨rfl, k⟩ | ⟨rfl | rfl | rfl, k⟩ | ⟨rfl, k⟩ | ⟨rfl | rfl | rfl, k⟩ | ⟨rfl, k⟩
    · exact (fil_in k).trans (fil_in k).symm
    · exact (fil_in k).trans (fil_in k).symm
    · exact (fil_in k).trans (fil_in k).symm
    · exact (fil_in k).trans (fil_in k).symm
    · exact (fil_in k).trans (fil_in k).symm
    · exact (fil_in k).trans (fil_in k).symm
    · exact (fil_in k).trans (fil_in k).symm
    · exact (fil_in k).trans (fil_in k).symm
    · omega
  · have e : ov 0 X (jClr J) i j = X i j := if_neg k
    rw [e]
    unfold jin at k
    unfold jClr fil
    by_cases i0 : i = 0
    · rw [if_pos i0, if_neg (by omega), i0]
    · rw [if_neg i0]
      by_cases i2 : i = 2
      · rw [if_pos i2, if_neg (by omega), i2]
      · rw [if_neg i2]
        by_cases i18 : i = 1 ∨ i = 8
        · rw [if_pos i18, if_neg (by omega)]
        · rw [if_neg i18]
          by_cases i3 : i = 3
          · rw [if_pos i3, if_neg (by omega), i3]
          · rw [if_neg i3]
            by_cases i4 : i = 4 ∨ i = 5 ∨ i = 6
            · rw [if_pos i4, if_neg (by omega)]
            · rw [if_neg i4]
theorem ov_Lns (hz : rz R) {f : Nat → LN} : ∀ n, (∀ j, j < n → lnOK R (f j)) → jLns R f n X = ov n X (jLns R f n J)
  | 0, _ => ov_Clr
  | n + 1, h => by
    have ih := ov_Lns hz n fun j hj => h j (by omega)
    show jLine R (f n) n (jLns R f n X) = ov (n + 1) X (jLine R (f n) n (jLns R f n J))
    rw [ih, ov_Line hz (h n (by omega))]
theorem ov_Book (hz : rz R) {f : Nat → LN} {n : Nat} (h : ∀ j, j < n → lnOK R (f j)) : jBook R f n X = ov n X (jBook R f n J) := by
  unfold jBook
  rw [ov_Lns (J := J) hz n h, ov_End hz]
/-- a line as kept, as told: the same judging -/
theorem jLine_M {a b : LN} (h : lnM a b) (i : Nat) (J : am_H) : jLine R a i J = jLine R b i J := by
  obtain ⟨h1, h2, h3⟩ := h
  unfold jLine
  rw [← h1, ← h2]
  by_cases z : a.1 = 0
  · rw [if_pos z, if_pos z]
  · rw [if_neg z, if_neg z, ← h3 z]
theorem jBook_M {f g : Nat → LN} {n : Nat} (h : ∀ j, j < n → lnM (f j) (g j)) : jBook R f n J = jBook R g n J := by
  unfold jBook jLns
  rw [lp_congr n fun i hi y => jLine_M (h i hi) i y]
theorem lnOK_M {a b : LN} (h : lnM a b) (ok : lnOK R a) : lnOK R b := by
  obtain ⟨h1, h2, h3⟩ := h
  rcases ok with ok | ok
  · exact Or.inl ⟨by rw [← h1]; exact ok.1, by rw [← h2]; exact ok.2⟩
  · refine Or.inr ?_
    rw [← h1, ← h2, ← h3 (by omega)]
    exact ok
/-- the book of the class says the same of all that is in the rows -/
theorem fkR.ovJ {h : am_H} {b i : Nat} (c : fkR h b R J i) (h48 : R 2 ≤ 48) (hco : co R (R 1)) (hz : rz R) : fkR h b R (ov i X J) i := by
  obtain ⟨⟨k1, k2, k3, k4⟩, k5, k6, k7, k8, k9, kA, kB⟩ := c
  have e0 : ∀ j, j < 5 → ov i X J 0 j = J 0 j := fun j hj => ov_in (jin0 hj)
  have eP : ∀ z j, z = 4 ∨ z = 5 ∨ z = 6 → j < 8 → ov i X J z j = J z j := fun z j hz hj => ov_in (jinP hz hj)
  have eB : ∀ z j, z = 1 ∨ z = 2 ∨ z = 8 → j < 384 → ov i X J z j = J z j := fun z j hz hj => ov_in (jinB hz hj)
  have enb : ∀ p n : Nat, p < 8 → (n : Int) < R 2 → nb R p n < 384 := fun p n hp hn => by
    rw [nb_n hco hz hn]
    have := need_rg hco hz hn
    omega
  refine ⟨⟨k1, by rw [e0 4 (by omega)]; exact k2, by rw [e0 0 (by omega)]; exact k3, by rw [e0 1 (by omega)]; exact k4⟩, fun j hj => ?_, fun p hp => ?_, fun p hp h1p => ?_, ?_, ?_, by rw [e0 4 (by omega)]; exact kA, ⟨fun p hp => ?_, ?_⟩⟩
  · rw [ov_in (jin7 hj)]; exact k5 j hj
  · rw [eP 4 p (by omega) hp, eP 5 p (by omega) hp, eP 6 p (by omega) hp]; exact k6 p hp
  · rw [eP 4 p (by omega) hp, eP 5 p (by omega) hp, eP 6 p (by omega) hp]; exact k7 p hp h1p
  · rw [sm_congr 8 fun p hp => eP 6 p (by omega) hp, e0 2 (by omega)]; exact k8
  · obtain ⟨c1, c2, c3, c4, c5, c6⟩ := k9
    rw [e0 4 (by omega)]
    refine ⟨fun p n hp hn => ?_, c2, fun p q k hp hq hk hno => ?_, by rw [e0 3 (by omega)]; exact c4, c5, c6⟩
    · rw [eB 1 _ (by omega) (enb p n hp hn), eB 2 _ (by omega) (enb p n hp hn), eB 8 _ (by omega) (enb p n hp hn)]
      exact c1 p n hp hn
    · rw [eB 2 _ (by omega) (by rw [jb_n]; omega), eB 8 _ (by omega) (by rw [jb_n]; omega)]
      exact c3 p q k hp hq hk hno
  · rw [eP 6 p (by omega) hp]; exact kB.1 p hp
  · rw [e0 2 (by omega)]; exact kB.2
end

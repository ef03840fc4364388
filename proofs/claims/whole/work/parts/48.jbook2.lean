/-! a book, judged: pure, whole; contracts: the reference judges a book -/
def fil (R : Nat → Int) (x : Int) (k : Nat) : Nat → Int := fun i => if i < k then x else R i
theorem fil_0 (R : Nat → Int) (x : Int) : fil R x 0 = R := by
  funext i
  exact if_neg (by omega)
theorem fil_s (R : Nat → Int) (x : Int) (k : Nat) : up (fil R x k) k x = fil R x (k + 1) := by
  funext i
  unfold up fil
  by_cases e : i = k
  · rw [if_pos e, if_pos (by omega)]
  · rw [if_neg e]
    by_cases c : i < k
    · rw [if_pos c, if_pos (by omega)]
    · rw [if_neg c, if_neg (by omega)]
theorem fil_in {R : Nat → Int} {x : Int} {k i : Nat} (h : i < k) : fil R x k i = x := if_pos h
def jClr (J : am_H) : am_H := fun i => if i = 0 then fil (J 0) 0 5 else if i = 2 then fil (J 2) (-1) 384 else if i = 1 ∨ i = 8 then fil (J i) 0 384 else if i = 3 then fil (J 3) 0 48 else if i = 4 ∨ i = 5 ∨ i = 6 then fil (J i) 0 8 else J i
def jOf (h : am_H) (m : Nat) : am_H := fun i => if i = 0 then fun j => h m (33 + j) else h (m + 9 + i)
theorem jOf_r (h : am_H) (m : Nat) : jr h m (jOf h m) := ⟨fun _ _ => rfl, fun i h1 _ => (if_neg (by omega) : jOf h m i = _).symm⟩
def jYrs (R : Nat → Int) : Nat → Int → am_H → am_H
  | 0, _, J => J
  | f + 1, y, J => if J 0 4 < y then jYrs R f y (jEnd R J) else J
abbrev LN := Int × Int × Int × Int
def jLine (R : Nat → Int) (ln : LN) (i : Nat) (J : am_H) : am_H :=
  if ln.1 = 0 then jYrs R 100 ln.2.1 (am_u J 7 i 0)
  else if (jL R (am_u J 7 i 0) ln.1 ln.2.1 ln.2.2.1 ln.2.2.2).1 = 0 then am_u (jL R (am_u J 7 i 0) ln.1 ln.2.1 ln.2.2.1 ln.2.2.2).2 7 i (jL R (am_u J 7 i 0) ln.1 ln.2.1 ln.2.2.1 ln.2.2.2).1
  else am_u (am_u (jL R (am_u J 7 i 0) ln.1 ln.2.1 ln.2.2.1 ln.2.2.2).2 7 i (jL R (am_u J 7 i 0) ln.1 ln.2.1 ln.2.2.1 ln.2.2.2).1) 0 0 (am_w ((jL R (am_u J 7 i 0) ln.1 ln.2.1 ln.2.2.1 ln.2.2.2).2 0 0 + 1))
def jLns (R : Nat → Int) (f : Nat → LN) (n : Nat) (J : am_H) : am_H := lp (fun i J => jLine R (f i) i J) n (jClr J)
def jBook (R : Nat → Int) (f : Nat → LN) (n : Nat) (J : am_H) : am_H := jEnd R (jLns R f n J)
def lnA (A : Nat → Int) (i : Nat) : LN := (A (342 + 4 * i), A (343 + 4 * i), A (344 + 4 * i), A (345 + 4 * i))
/-- a line as it may be -/
def lnOK (R : Nat → Int) (ln : LN) : Prop := (ln.1 = 0 ∧ 0 ≤ ln.2.1 ∧ ln.2.1 ≤ 99) ∨ (1 ≤ ln.1 ∧ ln.1 ≤ 4 ∧ 0 ≤ ln.2.1 ∧ ln.2.1 < R 1 ∧ 0 ≤ ln.2.2.1 ∧ ln.2.2.1 < R 1 ∧ ln.2.1 ≠ ln.2.2.1 ∧ 0 ≤ ln.2.2.2 ∧ ln.2.2.2 < R 0)
def lnsOK (A : Nat → Int) : Prop := 0 ≤ A 341 ∧ A 341 ≤ 60 ∧ ∀ i : Nat, (i : Int) < A 341 → lnOK A (lnA A i)
theorem jL_same (R : Nat → Int) (J : am_H) (w p q k : Int) : (jL R J w p q k).2 6 = J 6 ∧ (jL R J w p q k).2 0 2 = J 0 2 ∧ (jL R J w p q k).2 0 4 = J 0 4 ∧ (jL R J w p q k).2 7 = J 7 := by
  have hA : ∀ of q, (jAst J of q) 6 = J 6 ∧ (jAst J of q) 0 2 = J 0 2 ∧ (jAst J of q) 0 4 = J 0 4 ∧ (jAst J of q) 7 = J 7 := by
    intro of q
    unfold jAst
    split
    · exact ⟨rfl, rfl, rfl, rfl⟩
    · exact ⟨am_u_n _ _ _ _ _ (by omega), am_u_j (by omega), am_u_j (by omega), am_u_n _ _ _ _ _ (by omega)⟩
  unfold jL
  split
  · split
    · exact ⟨rfl, rfl, rfl, rfl⟩
    · split
      · exact ⟨rfl, rfl, rfl, rfl⟩
      · split
        · exact ⟨rfl, rfl, rfl, rfl⟩
        · simp only [jHelp]
          refine ⟨?_, ?_, ?_, ?_⟩
          · rw [am_u_n _ _ _ _ _ (by omega), am_u_n _ _ _ _ _ (by omega), am_u_n _ _ _ _ _ (by omega), am_u_n _ _ _ _ _ (by omega)]
          · rw [am_u_n _ _ _ _ _ (by omega), am_u_n _ _ _ _ _ (by omega), am_u_n _ _ _ _ _ (by omega), am_u_n _ _ _ _ _ (by omega)]
          · rw [am_u_n _ _ _ _ _ (by omega), am_u_n _ _ _ _ _ (by omega), am_u_n _ _ _ _ _ (by omega), am_u_n _ _ _ _ _ (by omega)]
          · rw [am_u_n _ _ _ _ _ (by omega), am_u_n _ _ _ _ _ (by omega), am_u_n _ _ _ _ _ (by omega), am_u_n _ _ _ _ _ (by omega)]
  · split
    · split
      · exact ⟨rfl, rfl, rfl, rfl⟩
      · split
        · exact ⟨rfl, rfl, rfl, rfl⟩
        · split
          · exact ⟨rfl, rfl, rfl, rfl⟩
          · obtain ⟨a1, a2, a3, a4⟩ := hA (6 * p + k).toNat q
            simp only [jThk, jThk2]
            refine ⟨?_, ?_, ?_, ?_⟩
            · rw [am_u_n _ _ _ _ _ (by omega), am_u_n _ _ _ _ _ (by omega), am_u_n _ _ _ _ _ (by omega), am_u_n _ _ _ _ _ (by omega), a1]
            · rw [am_u_j (by omega), am_u_n _ _ _ _ _ (by omega), am_u_n _ _ _ _ _ (by omega), am_u_n _ _ _ _ _ (by omega), a2]
            · rw [am_u_j (by omega), am_u_n _ _ _ _ _ (by omega), am_u_n _ _ _ _ _ (by omega), am_u_n _ _ _ _ _ (by omega), a3]
            · rw [am_u_n _ _ _ _ _ (by omega), am_u_n _ _ _ _ _ (by omega), am_u_n _ _ _ _ _ (by omega), am_u_n _ _ _ _ _ (by omega), a4]
    · split
      · exact ⟨rfl, rfl, rfl, rfl⟩
      · simp only [jLv]
        refine ⟨?_, ?_, ?_, ?_⟩
        · rw [am_u_n _ _ _ _ _ (by omega), am_u_n _ _ _ _ _ (by omega), am_u_n _ _ _ _ _ (by omega), am_u_n _ _ _ _ _ (by omega)]
        · rw [am_u_n _ _ _ _ _ (by omega), am_u_n _ _ _ _ _ (by omega), am_u_n _ _ _ _ _ (by omega), am_u_n _ _ _ _ _ (by omega)]
        · rw [am_u_n _ _ _ _ _ (by omega), am_u_n _ _ _ _ _ (by omega), am_u_n _ _ _ _ _ (by omega), am_u_n _ _ _ _ _ (by omega)]
        · rw [am_u_n _ _ _ _ _ (by omega), am_u_n _ _ _ _ _ (by omega), am_u_n _ _ _ _ _ (by omega), am_u_n _ _ _ _ _ (by omega)]
section
variable {d : Nat} {Y : am_Y} {h : am_H} {m : Nat} {J : am_H} {B : Int} {Q : Option am_V → am_H → Prop}
theorem ac_m_clearBonds (hY : am_at Y m am_L12) : am_cV am_Md_clearBonds d Y [.inr (.inr m)] h (fun h1 => jr h1 m (jClr (jOf h m)) ∧ mJ h h1 m) := by
  refine am_Met.of (by decide) rfl (Nat.le_of_ble_eq_true rfl) (ab_Md_clearBonds_0 hY ?_)
  have third : ∀ h2 : am_H, h2 (m + 10) = fil (h (m + 10)) 0 384 → h2 (m + 11) = fil (h (m + 11)) (-1) 384 → h2 (m + 17) = fil (h (m + 17)) 0 384 → h2 (m + 12) = fil (h (m + 12)) 0 48 → ∀ i : Nat, i ≤ 8 → ∀ h3 : am_H, h3 (m + 13) = fil (h (m + 13)) 0 i → h3 (m + 14) = fil (h (m + 14)) 0 i → h3 (m + 15) = fil (h (m + 15)) 0 i → (∀ q, q ≠ m + 13 → q ≠ m + 14 → q ≠ m + 15 → h3 q = h2 q) → (∀ q, q ≠ m + 10 → q ≠ m + 11 → q ≠ m + 12 → q ≠ m + 13 → q ≠ m + 14 → q ≠ m + 15 → q ≠ m + 17 → h3 q = h q) → aw_Md_clearBonds_59 d Y m i h3 (am_qV fun h1 => jr h1 m (jClr (jOf h m)) ∧ mJ h h1 m) := by
    intro h2 a10 a11 a17 a12
    refine am_upN _ 8 ?_ ?_
    · intro h3 b13 b14 b15 F G
      refine ab_Md_clearBonds_59 hY ⟨fun _ x1 e1 x2 e2 x3 e3 x4 e4 x5 e5 => ?_, fun w => by omega⟩
      rw [am_qV_s]
      have s : ∀ q, q ≠ m → x5 q = h3 q := fun q a => by rw [e5, am_u_n _ _ _ _ q a, e4, am_u_n _ _ _ _ q a, e3, am_u_n _ _ _ _ q a, e2, am_u_n _ _ _ _ q a, e1, am_u_n _ _ _ _ q a]
      refine ⟨⟨fun i hi => ?_, fun i h1 h8 => ?_⟩, fun q q0 hq => ?_, fun j hj => ?_⟩
      · show x5 m (33 + i) = fil (jOf h m 0) 0 5 i
        rw [fil_in hi]
        have : i = 0 ∨ i = 1 ∨ i = 2 ∨ i = 3 ∨ i = 4 := by omega
        rcases this with rfl | rfl | rfl | rfl | rfl
        · rw [e5, am_u_j (by omega), e4, am_u_j (by omega), e3, am_u_j (by omega), e2, am_u_j (by omega), e1, am_u_s]
        · rw [e5, am_u_j (by omega), e4, am_u_j (by omega), e3, am_u_j (by omega), e2, am_u_s]
        · rw [e5, am_u_j (by omega), e4, am_u_j (by omega), e3, am_u_s]
        · rw [e5, am_u_j (by omega), e4, am_u_s]
        · rw [e5, am_u_s]
      · rw [s _ (by omega)]
        have : i = 1 ∨ i = 2 ∨ i = 3 ∨ i = 4 ∨ i = 5 ∨ i = 6 ∨ i = 7 ∨ i = 8 := by omega
        rcases this with rfl | rfl | rfl | rfl | rfl | rfl | rfl | rfl
        · exact (F _ (by omega) (by omega) (by omega)).trans a10
        · exact (F _ (by omega) (by omega) (by omega)).trans a11
        · exact (F _ (by omega) (by omega) (by omega)).trans a12
        · exact b13
        · exact b14
        · exact b15
        · exact G _ (by omega) (by omega) (by omega) (by omega) (by omega) (by omega) (by omega)
        · exact (F _ (by omega) (by omega) (by omega)).trans a17
      · rw [s q q0]
        exact G _ (by omega) (by omega) (by omega) (by omega) (by omega) (by omega) (by omega)
      · rw [e5, am_u_j (by omega), e4, am_u_j (by omega), e3, am_u_j (by omega), e2, am_u_j (by omega), e1, am_u_j (by omega), G m (by omega) (by omega) (by omega) (by omega) (by omega) (by omega) (by omega)]
    · intro i hi ih h3 b13 b14 b15 F G
      refine ab_Md_clearBonds_59 hY ⟨fun w => by omega, fun _ => ⟨by omega, fun x6 e6 => ⟨by omega, fun x7 e7 => ⟨by omega, fun x8 e8 => ⟨⟨by omega, by omega⟩, ?_⟩⟩⟩⟩⟩
      rw [Int.toNat_natCast] at e6 e7 e8
      refine ih x8 ?_ ?_ ?_ (fun q q13 q14 q15 => ?_) (fun q q1 q2 q3 q4 q5 q6 q7 => ?_)
      · rw [e8, am_u_n _ _ _ _ _ (by omega), e7, am_u_n _ _ _ _ _ (by omega), e6, am_u_up, b13, fil_s]
      · rw [e8, am_u_n _ _ _ _ _ (by omega), e7, am_u_up, e6, am_u_n _ _ _ _ _ (by omega), b14, fil_s]
      · rw [e8, am_u_up, e7, am_u_n _ _ _ _ _ (by omega), e6, am_u_n _ _ _ _ _ (by omega), b15, fil_s]
      · rw [e8, am_u_n _ _ _ _ q q15, e7, am_u_n _ _ _ _ q q14, e6, am_u_n _ _ _ _ q q13, F q q13 q14 q15]
      · rw [e8, am_u_n _ _ _ _ q q6, e7, am_u_n _ _ _ _ q q5, e6, am_u_n _ _ _ _ q q4, G q q1 q2 q3 q4 q5 q6 q7]
  have second : ∀ h2 : am_H, h2 (m + 10) = fil (h (m + 10)) 0 384 → h2 (m + 11) = fil (h (m + 11)) (-1) 384 → h2 (m + 17) = fil (h (m + 17)) 0 384 → (∀ q, q ≠ m + 10 → q ≠ m + 11 → q ≠ m + 17 → h2 q = h q) → ∀ i : Nat, i ≤ 48 → ∀ h3 : am_H, h3 (m + 12) = fil (h (m + 12)) 0 i → (∀ q, q ≠ m + 12 → h3 q = h2 q) → aw_Md_clearBonds_38 d Y m i h3 (am_qV fun h1 => jr h1 m (jClr (jOf h m)) ∧ mJ h h1 m) := by
    intro h2 a10 a11 a17 F0
    refine am_upN _ 48 ?_ ?_
    · intro h3 b F
      refine ab_Md_clearBonds_38 hY ⟨fun _ => ?_, fun w => by omega⟩
      exact third h3 ((F _ (by omega)).trans a10) ((F _ (by omega)).trans a11) ((F _ (by omega)).trans a17) b 0 (by omega) h3 (by rw [F _ (by omega), F0 _ (by omega) (by omega) (by omega), fil_0]) (by rw [F _ (by omega), F0 _ (by omega) (by omega) (by omega), fil_0]) (by rw [F _ (by omega), F0 _ (by omega) (by omega) (by omega), fil_0]) (fun _ _ _ _ => rfl) (fun q q1 q2 q3 q4 q5 q6 q7 => by rw [F q q3, F0 q q1 q2 q7])
    · intro i hi ih h3 b F
      refine ab_Md_clearBonds_38 hY ⟨fun w => by omega, fun _ => ⟨by omega, fun x1 e1 => ⟨⟨by omega, by omega⟩, ?_⟩⟩⟩
      rw [Int.toNat_natCast] at e1
      exact ih x1 (by rw [e1, am_u_up, b, fil_s]) (fun q hq => by rw [e1, am_u_n _ _ _ _ q hq, F q hq])
  have first : ∀ i : Nat, i ≤ 384 → ∀ h2 : am_H, h2 (m + 10) = fil (h (m + 10)) 0 i → h2 (m + 11) = fil (h (m + 11)) (-1) i → h2 (m + 17) = fil (h (m + 17)) 0 i → (∀ q, q ≠ m + 10 → q ≠ m + 11 → q ≠ m + 17 → h2 q = h q) → aw_Md_clearBonds_2 d Y m i h2 (am_qV fun h1 => jr h1 m (jClr (jOf h m)) ∧ mJ h h1 m) := by
    refine am_upN _ 384 ?_ ?_
    · intro h2 a10 a11 a17 F
      refine ab_Md_clearBonds_2 hY ⟨fun _ => ?_, fun w => by omega⟩
      exact second h2 a10 a11 a17 F 0 (by omega) h2 (by rw [F _ (by omega) (by omega) (by omega), fil_0]) (fun _ _ => rfl)
    · intro i hi ih h2 a10 a11 a17 F
      refine ab_Md_clearBonds_2 hY ⟨fun w => by omega, fun _ => ⟨by omega, fun x1 e1 => ⟨by omega, fun x2 e2 => ⟨by omega, fun x3 e3 => ⟨⟨by omega, by omega⟩, ?_⟩⟩⟩⟩⟩
      rw [Int.toNat_natCast] at e1 e2 e3
      refine ih x3 ?_ ?_ ?_ (fun q q1 q2 q3 => ?_)
      · rw [e3, am_u_n _ _ _ _ _ (by omega), e2, am_u_n _ _ _ _ _ (by omega), e1, am_u_up, a10, fil_s]
      · rw [e3, am_u_n _ _ _ _ _ (by omega), e2, am_u_up, e1, am_u_n _ _ _ _ _ (by omega), a11, fil_s]
      · rw [e3, am_u_up, e2, am_u_n _ _ _ _ _ (by omega), e1, am_u_n _ _ _ _ _ (by omega), a17, fil_s]
      · rw [e3, am_u_n _ _ _ _ q q3, e2, am_u_n _ _ _ _ q q2, e1, am_u_n _ _ _ _ q q1, F q q1 q2 q3]
  exact first 0 (by omega) h (fil_0 _ _).symm (fil_0 _ _).symm (fil_0 _ _).symm (fun _ _ _ _ => rfl)
end

/-! a book's text, read: pure; contracts: the class's readers of it -/
def pBkSem (r : List TK) : PE (List TK) := if (hd r).1 = 26 then .inr (nx r) else pb r 1
def pWhoB (R N : Nat → Int) (r : List TK) : PE Int := pAt r (fnd N (hd r).2.2 6 (R 1).toNat)
def pWhatB (R N : Nat → Int) (r : List TK) : PE Int := pAt r (fnd N (hd r).2.2 0 (R 0).toNat)
def pDeed (R N : Nat → Int) (p : Int) (r : List TK) : PE (LN × List TK) :=
  if (hd r).1 = 10 ∨ (hd r).1 = 12 ∨ (hd r).1 = 13 then
    pbd (pWhoB R N (nx r)) fun q => if q = p then pb (nx r) 3 else pbd (pWhatB R N (nx (nx r))) fun k =>
      if (hd r).1 = 10 then (if (hd (nx (nx (nx r)))).1 = 11 then .inr ((2, p, q, k), nx (nx (nx (nx r)))) else .inr ((1, p, q, k), nx (nx (nx r)))) else .inr ((if (hd r).1 = 12 then 3 else 4, p, q, k), nx (nx (nx r)))
  else pb r 1
def pBLn (R N : Nat → Int) (c y : Int) (r : List TK) : PE (LN × List TK) :=
  if (hd r).1 = 9 then (if c = 60 then pb r 4 else pbd (pN (nx r) (if c = 0 then 0 else y + 1) 99) fun x => .inr ((0, x.1, 0, 0), x.2))
  else pbd (pWhoB R N r) fun p => if c = 60 then pb r 4 else pDeed R N p (nx r)
def updL (f : Nat → LN) (c : Nat) (ln : LN) : Nat → LN := fun i => if i = c then ln else f i
def pBks (R N : Nat → Int) : Nat → (Nat → LN) → Nat → Int → List TK → PE ((Nat → LN) × Nat)
  | 0, f, c, _, _ => .inr (f, c)
  | n + 1, f, c, y, r => if (hd r).1 = 32 then .inr (f, c) else pbd (pBLn R N c y r) fun A => pbd (pBkSem A.2) fun r' => pBks R N n (updL f c A.1) (c + 1) (if A.1.1 = 0 then A.1.2.1 else y) r'
/-- what the class's fields tell of a line -/
def lnF (h : am_H) (o : Nat) (ln : LN) : Prop := (ln.1 = 0 ∧ h o 2 = 9 ∧ h o 3 = ln.2.1) ∨ ((ln.1 = 1 ∧ h o 2 = 10 ∧ h o 7 = 0 ∨ ln.1 = 2 ∧ h o 2 = 10 ∧ h o 7 = 1 ∨ ln.1 = 3 ∧ h o 2 = 12 ∨ ln.1 = 4 ∧ h o 2 = 13) ∧ h o 4 = ln.2.1 ∧ h o 5 = ln.2.2.1 ∧ h o 6 = ln.2.2.2)
def bkT (h h1 : am_H) (o : Nat) : Prop := ∀ q, (q < o ∨ o + 5 ≤ q) → h1 q = h q
theorem bkT.trans {h h1 h2 : am_H} {o : Nat} (a : bkT h h1 o) (b : bkT h1 h2 o) : bkT h h2 o := fun q hq => (b q hq).trans (a q hq)
theorem fr4.b {h h1 : am_H} {o : Nat} (f : fr4 h h1 (o + 1)) : bkT h h1 o := fun q hq => f q (by omega)
theorem bkT.u {h h1 : am_H} {o j : Nat} {x : Int} (e : h1 = am_u h o j x) : bkT h h1 o := fun q hq => by rw [e, am_u_n _ _ _ _ q (by omega)]
theorem pWhoB_r {R N : Nat → Int} {r : List TK} {a : Int} (hz : rz R) (e : pWhoB R N r = .inr a) : 0 ≤ a ∧ a < R 1 ∧ (hd r).1 = 24 := by
  have t := pAt_r e
  have := fnd_rg N (hd r).2.2 6 (R 1).toNat
  unfold rz at hz
  exact ⟨by omega, by omega, t.1⟩
theorem pWhatB_r {R N : Nat → Int} {r : List TK} {a : Int} (hz : rz R) (e : pWhatB R N r = .inr a) : 0 ≤ a ∧ a < R 0 ∧ (hd r).1 = 24 := by
  have t := pAt_r e
  have := fnd_rg N (hd r).2.2 0 (R 0).toNat
  unfold rz at hz
  exact ⟨by omega, by omega, t.1⟩
section
variable {d : Nat} {Y : am_Y} {h : am_H} {o v : Nat} {R N : Nat → Int} {r : List TK}
/-- what a reader of a line leaves -/
def bO (h : am_H) (o : Nat) (e : PE (LN × List TK)) (x : Int) (h1 : am_H) : Prop := bkT h h1 o ∧ tro h1 (o + 1) x e (fun A => TR h1 (o + 1) A.2 ∧ h1 (o + 1) 4 = 0 ∧ tE A.2 ∧ lnF h1 o A.1)
theorem bO.bad {h1 : am_H} {e : PE (LN × List TK)} {k : Int} (f : bkT h h1 o) (e4 : h1 (o + 1) 4 = (pq r k).1) (e5 : h1 (o + 1) 5 = (pq r k).2) (he : e = pb r k) : bO h o e 0 h1 := by
  subst he
  exact ⟨f, rfl, e4, e5⟩
theorem ac_B_readDeed {p : Int} (hY : am_at Y o am_L3) (hYv : am_at Y v am_L9) (hd2 : v + 11 ≤ o ∨ o + 14 ≤ v) (cv : vR h v (R 1) R N) (hV : wV R) (ht : TR h (o + 1) r) (h4 : h (o + 1) 4 = 0) (te : tE r) (hp : h o 4 = p) : am_cI am_BookText_readDeed (d + 6) Y [.inr (.inr o), .inr (.inr v)] h (bO h o (pDeed R N p r)) := by
  have hYT : am_at Y (o + 1) am_L8 := hY.sub 1 rfl
  have hz := hV.1.z
  have hz' := hz
  unfold rz at hz'
  refine am_Met.of (by decide) rfl (Nat.le_of_ble_eq_true rfl) (ab_BookText_readDeed_0 hY hYv ?_)
  intro h1 e1
  have s1 : ∀ q, q ≠ o → h1 q = h q := fun q hq => by rw [e1, am_u_n _ _ _ _ q hq]
  have t1 : TR h1 (o + 1) r := ht.of4 fun q a b => s1 q (by omega)
  have F1 : bkT h h1 o := bkT.u e1
  have k1 : h1 o 2 = (hd r).1 := by rw [e1, am_u_s]; exact ht.hd.1
  have p1 : h1 o 4 = p := by rw [e1, am_u_j (by omega)]; exact hp
  have g1 : h1 (o + 1) 4 = 0 := by rw [s1 _ (by omega)]; exact h4
  have cv1 : vR h1 v (R 1) R N := cv.but fun q a b => s1 q (by omega)
  -- behind the verb
  have at47 : ((hd r).1 = 10 ∨ (hd r).1 = 12 ∨ (hd r).1 = 13) → aw_BookText_readDeed_47 (d + 6) Y o v h1 (am_qI (bO h o (pDeed R N p r))) := by
    intro ck
    have ep : pDeed R N p r = pbd (pWhoB R N (nx r)) fun q => if q = p then pb (nx r) 3 else pbd (pWhatB R N (nx (nx r))) fun k => if (hd r).1 = 10 then (if (hd (nx (nx (nx r)))).1 = 11 then .inr ((2, p, q, k), nx (nx (nx (nx r)))) else .inr ((1, p, q, k), nx (nx (nx r)))) else .inr ((if (hd r).1 = 12 then 3 else 4, p, q, k), nx (nx (nx r))) := by
      unfold pDeed
      rw [if_pos ck]
    refine ab_BookText_readDeed_47 hY hYv (advK hYT t1 (by omega) ?_)
    intro h2 t2 f2 j2
    have cv2 : vR h2 v (R 1) R N := cv1.but fun q a b => f2 q (by omega)
    refine personAtK hYv hYT cv2 ⟨hz'.2.2.1, hz'.2.2.2⟩ t2 ((j2 4 (by omega) (by omega) (by omega) (by omega)).trans g1) (by omega) ?_
    intro x h3 f3 o3 h5 e5
    have F5 : bkT h h5 o := (F1.trans f2.b).trans (f3.b.trans (bkT.u e5))
    have s5 : ∀ q, q ≠ o → h5 q = h3 q := fun q hq => by rw [e5, am_u_n _ _ _ _ q hq]
    have w5 : h5 o 5 = x := by rw [e5, am_u_s]
    have w4 : h5 o 4 = p := by rw [e5, am_u_j (by omega), f3 o (by omega), f2 o (by omega), p1]
    have w2 : h5 o 2 = (hd r).1 := by rw [e5, am_u_j (by omega), f3 o (by omega), f2 o (by omega), k1]
    rw [w5, w4]
    have o3' : match pWhoB R N (nx r) with | .inl q => x = -1 ∧ h3 (o + 1) 4 = q.1 ∧ h3 (o + 1) 5 = q.2 | .inr a => x = a ∧ 0 ≤ a ∧ h3 = h2 := o3
    cases hq : pWhoB R N (nx r) with
    | inl q =>
      rw [hq] at o3' ep
      obtain ⟨rfl, e4, e5'⟩ := o3'
      refine ⟨fun z => absurd z (by decide), fun _ => ?_⟩
      rw [am_qI_s, ep]
      exact ⟨F5, rfl, by rw [s5 _ (by omega)]; exact e4, by rw [s5 _ (by omega)]; exact e5'⟩
    | inr q =>
      rw [hq] at o3' ep
      obtain ⟨rfl, q0, e3⟩ := o3'
      have qr := pWhoB_r hz hq
      have t5 : TR h5 (o + 1) (nx r) := t2.of4 fun q a b => by rw [s5 q (by omega), e3]
      have g5 : h5 (o + 1) 4 = 0 := by rw [s5 _ (by omega), e3, j2 4 (by omega) (by omega) (by omega) (by omega), g1]
      have ep' : pDeed R N p r = if x = p then pb (nx r) 3 else pbd (pWhatB R N (nx (nx r))) fun k => if (hd r).1 = 10 then (if (hd (nx (nx (nx r)))).1 = 11 then .inr ((2, p, x, k), nx (nx (nx (nx r)))) else .inr ((1, p, x, k), nx (nx (nx r)))) else .inr ((if (hd r).1 = 12 then 3 else 4, p, x, k), nx (nx (nx r))) := ep
      refine ⟨fun _ => ⟨fun c => advK hYT t5 (by omega) ?_, fun c => failK (k := 3) hYT t5 g5 (by omega) (by rw [if_neg (by omega)]) ?_⟩, fun z => by omega⟩
      · rw [if_neg c] at ep'
        intro h6 t6 f6 j6
        have cv6 : vR h6 v (R 1) R N := cv2.but fun q a b => by rw [f6 q (by omega), s5 q (by omega), e3]
        refine helpAtK hYv hYT cv6 hz t6 ((j6 4 (by omega) (by omega) (by omega) (by omega)).trans g5) (by omega) ?_
        intro k h7 f7 o7 h8 e8
        have F8 : bkT h h8 o := (F5.trans f6.b).trans (f7.b.trans (bkT.u e8))
        have s8 : ∀ q, q ≠ o → h8 q = h7 q := fun q hq => by rw [e8, am_u_n _ _ _ _ q hq]
        have w86 : h8 o 6 = k := by rw [e8, am_u_s]
        have w8 : ∀ j, j ≠ 6 → h8 o j = h5 o j := fun j hj => by rw [e8, am_u_j hj, f7 o (by omega), f6 o (by omega)]
        rw [w86]
        have o7' : match pWhatB R N (nx (nx r)) with | .inl q => k = -1 ∧ h7 (o + 1) 4 = q.1 ∧ h7 (o + 1) 5 = q.2 | .inr a => k = a ∧ 0 ≤ a ∧ h7 = h6 := o7
        cases hk : pWhatB R N (nx (nx r)) with
        | inl q =>
          rw [hk] at o7' ep'
          obtain ⟨rfl, e4, e5'⟩ := o7'
          refine ⟨fun z => absurd z (by decide), fun _ => ?_⟩
          rw [am_qI_s, ep']
          exact ⟨F8, rfl, by rw [s8 _ (by omega)]; exact e4, by rw [s8 _ (by omega)]; exact e5'⟩
        | inr k' =>
          rw [hk] at o7' ep'
          obtain ⟨rfl, k0, e7⟩ := o7'
          have ep2 : pDeed R N p r = if (hd r).1 = 10 then (if (hd (nx (nx (nx r)))).1 = 11 then .inr ((2, p, x, k), nx (nx (nx (nx r)))) else .inr ((1, p, x, k), nx (nx (nx r)))) else .inr ((if (hd r).1 = 12 then 3 else 4, p, x, k), nx (nx (nx r))) := ep'
          have t8 : TR h8 (o + 1) (nx (nx r)) := t6.of4 fun q a b => by rw [s8 q (by omega), e7]
          have g8 : h8 (o + 1) 4 = 0 := by rw [s8 _ (by omega), e7, j6 4 (by omega) (by omega) (by omega) (by omega), g5]
          refine ⟨fun _ => advK hYT t8 (by omega) ?_, fun z => by omega⟩
          intro h9 t9 f9 j9
          have F9 := F8.trans f9.b
          have g9 : h9 (o + 1) 4 = 0 := (j9 4 (by omega) (by omega) (by omega) (by omega)).trans g8
          have o9 : h9 o = h8 o := f9 o (by omega)
          have w92 : h9 o 2 = (hd r).1 := by rw [o9, w8 2 (by omega), w2]
          have w94 : h9 o 4 = p := by rw [o9, w8 4 (by omega), w4]
          have w95 : h9 o 5 = x := by rw [o9, w8 5 (by omega), w5]
          have w96 : h9 o 6 = k := by rw [o9, w86]
          rw [w92, t9.hd.1]
          -- not hidden
          have plain : ∀ (h10 : am_H) (w : Int), h10 = am_u h9 o 7 0 → pDeed R N p r = .inr ((w, p, x, k), nx (nx (nx r))) → (w = 1 ∧ (hd r).1 = 10 ∨ w = 3 ∧ (hd r).1 = 12 ∨ w = 4 ∧ (hd r).1 = 13) → ((h10 o 7 = 0 → am_qI (bO h o (pDeed R N p r)) (some (.inl 1)) h10) ∧ (¬ h10 o 7 = 0 → am_kV am_Tokens_advance (d + 6) Y [.inr (.inr (o + 1))] h10 (fun h11 => am_qI (bO h o (pDeed R N p r)) (some (.inl 1)) h11))) := by
            intro h10 w e10 e hw
            have s10 : ∀ q, q ≠ o → h10 q = h9 q := fun q hq => by rw [e10, am_u_n _ _ _ _ q hq]
            have w10 : ∀ j, j ≠ 7 → h10 o j = h9 o j := fun j hj => by rw [e10, am_u_j hj]
            refine ⟨fun z => ?_, fun z => absurd (by rw [e10, am_u_s]) z⟩
            rw [am_qI_s, e]
            refine ⟨F9.trans (bkT.u e10), rfl, t9.of4 fun q a b => s10 q (by omega), by rw [s10 _ (by omega)]; exact g9, te.n1.n1.n1, Or.inr ⟨?_, ?_, ?_, ?_⟩⟩
            · dsimp only
              rw [w10 2 (by omega), w92, z]
              omega
            · rw [w10 4 (by omega), w94]
            · rw [w10 5 (by omega), w95]
            · rw [w10 6 (by omega), w96]
          refine ⟨fun c10 h10 e10 => plain h10 (if (hd r).1 = 12 then 3 else 4) e10 (by rw [ep2, if_neg c10]) ?_, fun c10 => ⟨fun c11 h10 e10 => plain h10 1 e10 (by rw [ep2, if_pos c10, if_neg c11]) (Or.inl ⟨rfl, c10⟩), fun c11 h18 e18 => ⟨fun z => absurd (by rw [e18, am_u_s] at z; exact z) (by decide), fun _ => ?_⟩⟩⟩
          · by_cases c12 : (hd r).1 = 12
            · exact Or.inr (Or.inl ⟨if_pos c12, c12⟩)
            · exact Or.inr (Or.inr ⟨if_neg c12, by omega⟩)
          · have s18 : ∀ q, q ≠ o → h18 q = h9 q := fun q hq => by rw [e18, am_u_n _ _ _ _ q hq]
            have w18 : ∀ j, j ≠ 7 → h18 o j = h9 o j := fun j hj => by rw [e18, am_u_j hj]
            refine advK hYT (t9.of4 fun q a b => s18 q (by omega)) (by omega) ?_
            intro h19 t19 f19 j19
            rw [am_qI_s, ep2, if_pos c10, if_pos c11]
            refine ⟨(F9.trans (bkT.u e18)).trans f19.b, rfl, t19, by rw [j19 4 (by omega) (by omega) (by omega) (by omega), s18 _ (by omega)]; exact g9, te.n1.n1.n1.n1, Or.inr ⟨?_, ?_, ?_, ?_⟩⟩
            · dsimp only
              rw [f19 o (by omega), w18 2 (by omega), w92]
              exact Or.inr (Or.inl ⟨rfl, c10, by rw [e18, am_u_s]⟩)
            · rw [f19 o (by omega), w18 4 (by omega), w94]
            · rw [f19 o (by omega), w18 5 (by omega), w95]
            · rw [f19 o (by omega), w18 6 (by omega), w96]
      · rw [if_pos c] at ep'
        intro h6 f6 e4 e5' _
        rw [am_qI_s]
        exact ⟨Or.inl rfl, bO.bad (F5.trans f6.b) e4 e5' ep'⟩
  rw [k1]
  refine ⟨fun c => at47 (Or.inl c), fun c10 => ⟨fun c => at47 (Or.inr (Or.inl c)), fun c12 => ⟨fun c => at47 (Or.inr (Or.inr c)), fun c13 => failK (k := 1) hYT t1 g1 (by omega) (by split <;> rfl) ?_⟩⟩⟩
  intro h6 f6 e4 e5 _
  rw [am_qI_s]
  refine ⟨Or.inl rfl, bO.bad (F1.trans f6.b) e4 e5 ?_⟩
  unfold pDeed
  rw [if_neg (by omega)]
end

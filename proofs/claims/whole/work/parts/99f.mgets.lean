/-! the reference's search: gets -/
def untr (t : Int) : Int := sm (fun p => if hb t (p : Int) then 0 else 1) 8
theorem untr_le (t : Int) : 0 ≤ untr t ∧ untr t ≤ 8 := by
  have := sm_le (f := fun p : Nat => if hb t (p : Int) then (0 : Int) else 1) (c := 1) 8 fun q _ => by split <;> omega
  unfold untr
  omega
theorem untr_lt {t t' : Int} (h : ∀ p : Nat, p < 8 → hb t (p : Int) → hb t' (p : Int)) {p : Nat} (hp : p < 8) (a : hb t' (p : Int)) (b : ¬ hb t (p : Int)) : untr t' < untr t := by
  have le : ∀ q : Nat, q < 8 → (if hb t' (q : Int) then (0 : Int) else 1) ≤ (if hb t (q : Int) then 0 else 1) := by
    intro q hq
    by_cases z : hb t (q : Int)
    · rw [if_pos z, if_pos (h q hq z)]
      omega
    · rw [if_neg z]
      split <;> omega
  refine Int.not_le.mp fun n => ?_
  have := sm_tight (f := fun q : Nat => if hb t' (q : Int) then (0 : Int) else 1) (g := fun q : Nat => if hb t (q : Int) then (0 : Int) else 1) 8 le n p hp
  rw [if_pos a, if_neg b] at this
  omega
def lmS (g : am_H) (m : Nat) (A : Nat → Int) (mo : Int) : Prop := g (m + 2) = A ∧ g m 53 = mo ∧ lVal A mo (g (m + 24)) ∧ ∀ p : Nat, p < 8 → g (m + 25) p = lCnt (g (m + 24)) (p : Int) (A 2).toNat
def lmF (g g1 : am_H) (m : Nat) : Prop := (∀ q, q ≠ m → q ≠ m + 24 → q ≠ m + 25 → g1 q = g q) ∧ ∀ j, j ≠ 54 → g1 m j = g m j
/-- what gets leaves -/
def gQ (g g1 : am_H) (m : Nat) (A : Nat → Int) (mo : Int) (n : Nat) (v : Int) : Prop :=
  lmF g g1 m ∧ by8 (g1 m 54) ∧ (∀ p : Nat, p < 8 → hb (g m 54) (p : Int) → hb (g1 m 54) (p : Int)) ∧ lmS g1 m A mo ∧
  (∀ i, ¬ g (m + 26) i = -2 → g1 (m + 24) i = g (m + 24) i) ∧ (∀ p : Nat, p < 8 → hb (g m 54) (p : Int) → g1 (m + 25) p = g (m + 25) p) ∧
  (v = 1 ∧ 0 ≤ g1 (m + 24) n ∧ (∀ i : Nat, (i : Int) < A 2 → 0 ≤ g (m + 24) i → 0 ≤ g1 (m + 24) i) ∧ (∀ i : Nat, (i : Int) < A 2 → i ≠ n → g (m + 24) i = -1 → g1 (m + 24) i = -1) ∨
   v = 0 ∧ g1 (m + 24) = g (m + 24) ∧ g1 (m + 25) = g (m + 25) ∧ (∀ q : Nat, asked A (q : Int) (n : Int) → hb (g1 m 54) (q : Int)) ∧
    ∀ p : Nat, p < 8 → hb (g1 m 54) (p : Int) → ¬ hb (g m 54) (p : Int) → lCnt (g (m + 24)) (p : Int) (A 2).toNat = mo ∧ ∀ i : Nat, (i : Int) < A 2 → g (m + 26) i = -2 → g (m + 24) i = (p : Int) → ∀ q : Nat, asked A (q : Int) (i : Int) → hb (g1 m 54) (q : Int))
section
variable {g g1 g2 : am_H} {m : Nat} {A : Nat → Int} {mo : Int}
theorem lmF.refl : lmF g g m := ⟨fun _ _ _ _ => rfl, fun _ _ => rfl⟩
theorem lmF.trans (a : lmF g g1 m) (b : lmF g1 g2 m) : lmF g g2 m := ⟨fun q p1 p2 p3 => (b.1 q p1 p2 p3).trans (a.1 q p1 p2 p3), fun j p => (b.2 j p).trans (a.2 j p)⟩
theorem lmF.u {q j : Nat} {v : Int} (e : g1 = am_u g q j v) (h : q = m + 24 ∨ q = m + 25 ∨ q = m ∧ j = 54) : lmF g g1 m := by
  refine ⟨fun r p1 p2 p3 => by rw [e, am_u_n _ _ _ _ _ (by omega)], fun i p => ?_⟩
  by_cases z : q = m
  · rw [e, z, am_u_j (by omega)]
  · rw [e, am_u_o (fun w => z w.symm)]
theorem up_up (f : Nat → Int) (i : Nat) (v : Int) : up (up f i v) i (f i) = f := by
  funext j
  unfold up
  by_cases z : j = i
  · rw [if_pos z, z]
  · rw [if_neg z, if_neg z]
/-- a need changes hands -/
theorem lVal.up {f : Nat → Int} {n : Nat} {v : Int} (c : lVal A mo f) (hn : (n : Int) < A 2) (hv : v = -1 ∨ asked A v (n : Int)) (hl : ∀ p : Nat, p < 8 → (p : Int) = v → lCnt f (p : Int) (A 2).toNat - (if f n = (p : Int) then 1 else 0) + 1 ≤ mo) : lVal A mo (up f n v) := by
  refine ⟨fun i hi => ?_, fun p hp => ?_⟩
  · by_cases z : i = n
    · rw [z, upl_s]
      exact hv
    · rw [upl_n z]
      exact c.1 i hi
  · rw [lCnt_up (by omega)]
    by_cases z : v = (p : Int)
    · rw [if_pos z]
      exact hl p hp z.symm
    · rw [if_neg z]
      have := c.2 p hp
      split <;> omega
end
section
variable {Y : am_Y} {m d : Nat} {A : Nat → Int} {mo : Int}
theorem ac_m_gets (hM : am_at Y m am_L12) (w : wV A) (hmo : 0 ≤ mo ∧ mo ≤ 9) : ∀ (k : Nat) (g : am_H) (n : Nat), lmS g m A mo → (n : Int) < A 2 → g (m + 26) n = -2 → g (m + 24) n = -1 → by8 (g m 54) → untr (g m 54) < k → am_cI am_Md_gets (d + k + 1) Y [.inr (.inr m), .inl (n : Int)] g (fun v g1 => gQ g g1 m A mo n v)
  | 0, g, n, _, _, _, _, _, hu => by
    have := (untr_le (g m 54)).1
    omega
  | k + 1, g, n, cs, hn, Fn, fn, t8, hu => by
    have ih := ac_m_gets hM w hmo k
    have hz := w.1.z
    unfold rz at hz
    have w2 := wr_2 w.1
    obtain ⟨sA, sm53, sv, sl⟩ := cs
    -- a state in which nothing has been found yet
    let B : am_H → Prop := fun g1 => lmF g g1 m ∧ by8 (g1 m 54) ∧ (∀ p : Nat, p < 8 → hb (g m 54) (p : Int) → hb (g1 m 54) (p : Int)) ∧ g1 (m + 24) = g (m + 24) ∧ g1 (m + 25) = g (m + 25)
    let C : am_H → Nat → Prop := fun g1 p => lCnt (g (m + 24)) (p : Int) (A 2).toNat = mo ∧ ∀ i : Nat, (i : Int) < A 2 → g (m + 26) i = -2 → g (m + 24) i = (p : Int) → ∀ q : Nat, asked A (q : Int) (i : Int) → hb (g1 m 54) (q : Int)
    refine am_Met.of (by decide) rfl (Nat.le_of_ble_eq_true rfl) (ab_Md_gets_0 hM ?_)
    have lp : ∀ j : Int, ∀ g1 : am_H, 0 ≤ j → j ≤ A 1 → B g1 → (∀ q : Nat, (q : Int) < j → asked A (q : Int) (n : Int) → hb (g1 m 54) (q : Int)) → (∀ p : Nat, p < 8 → hb (g1 m 54) (p : Int) → ¬ hb (g m 54) (p : Int) → C g1 p) → aw_Md_gets_2 (d + (k + 1) + 1) Y m (n : Int) j g1 (am_qI fun v g1 => gQ g g1 m A mo n v) := by
      refine am_up (fun j => ∀ g1 : am_H, 0 ≤ j → j ≤ A 1 → B g1 → (∀ q : Nat, (q : Int) < j → asked A (q : Int) (n : Int) → hb (g1 m 54) (q : Int)) → (∀ p : Nat, p < 8 → hb (g1 m 54) (p : Int) → ¬ hb (g m 54) (p : Int) → C g1 p) → aw_Md_gets_2 (d + (k + 1) + 1) Y m (n : Int) j g1 (am_qI fun v g1 => gQ g g1 m A mo n v)) (A 1) ?_ ?_
      · rintro j hj g1 h0 h8 ⟨b1, b2, b3, b4, b5⟩ e1 e2
        have gA : g1 (m + 2) = A := by rw [b1.1 _ (by omega) (by omega) (by omega), sA]
        refine ab_Md_gets_2 hM (eK (ac_m_persons (d := 0) hM) (by omega) ?_)
        rw [gA]
        refine ⟨fun _ => ?_, fun z => by omega⟩
        rw [am_qI_s]
        refine ⟨b1, b2, b3, ⟨gA, by rw [b1.2 53 (by omega)]; exact sm53, by rw [b4]; exact sv, fun p hp => by rw [b4, b5]; exact sl p hp⟩, fun i _ => by rw [b4], fun p _ _ => by rw [b5], Or.inr ⟨rfl, b4, b5, fun q hq => e1 q (by have := hq.1; omega) hq, e2⟩⟩
      · rintro j hj jh g1 h0 h8 ⟨b1, b2, b3, b4, b5⟩ e1 e2
        have jj : ((j.toNat : Nat) : Int) = j := by omega
        have gA : g1 (m + 2) = A := by rw [b1.1 _ (by omega) (by omega) (by omega), sA]
        have gF : g1 (m + 26) = g (m + 26) := b1.1 _ (by omega) (by omega) (by omega)
        have next : (asked A j (n : Int) → hb (g1 m 54) j) → (am_ri (j + 1)) ∧ aw_Md_gets_2 (d + (k + 1) + 1) Y m (n : Int) (j + 1) g1 (am_qI fun v g1 => gQ g g1 m A mo n v) := by
          intro a
          refine ⟨by unfold am_ri; omega, jh g1 (by omega) (by omega) ⟨b1, b2, b3, b4, b5⟩ (fun q hq hq2 => ?_) e2⟩
          by_cases qj : (q : Int) = j
          · rw [qj] at hq2 ⊢
            exact a hq2
          · exact e1 q (by omega) hq2
        refine ab_Md_gets_2 hM (eK (ac_m_persons (d := 0) hM) (by omega) ?_)
        rw [gA]
        refine ⟨fun z => by omega, fun _ => eK (ac_m_canHelp (d := 0) hM gA w ⟨h0, hj⟩ ⟨by omega, hn⟩) (by omega) ?_⟩
        by_cases q : asked A j (n : Int)
        · rw [if_pos q]
          refine ⟨fun z => absurd z (by decide), fun _ => eK (ac_m_has (d := 0)) (by omega) ?_⟩
          by_cases tr : hb (g1 m 54) j
          · rw [if_pos tr]
            exact ⟨fun _ => next fun _ => tr, fun z => absurd z (by decide)⟩
          · rw [if_neg tr]
            refine ⟨fun z => absurd rfl z, fun _ => ⟨by omega, ?_⟩⟩
            rw [Int.toNat_natCast, gF, Fn]
            refine ⟨fun _ => ?_, fun z => absurd rfl z⟩
            -- p = j is tried now
            have tr0 : ¬ hb (g m 54) j := fun z => tr (by have := b3 j.toNat (by omega) (by rw [jj]; exact z); rw [jj] at this; exact this)
            have ev := ev_or (x := g1 m 54) (p := j) b2 (by omega)
            refine ab_Md_gets_54 hM fun h1 e54 => ⟨by omega, ?_⟩
            have n1 : ∀ r, r ≠ m → h1 r = g1 r := fun r hr => by rw [e54, am_u_n _ _ _ _ _ hr]
            have t1 : h1 m 54 = am_or (g1 m 54) (am_shl 1 j) := by rw [e54, am_u_s]
            have j1 : ∀ i, i ≠ 54 → h1 m i = g1 m i := fun i hi => by rw [e54, am_u_j hi]
            have f1 : lmF g h1 m := b1.trans (lmF.u e54 (by omega))
            have by1 : by8 (h1 m 54) := by rw [t1]; exact ⟨ev.1, ev.2.1⟩
            have bits : ∀ i : Nat, i < 8 → (hb (h1 m 54) (i : Int) ↔ ((i : Int) = j ∨ hb (g1 m 54) (i : Int))) := by rw [t1]; exact ev.2.2
            have tj : hb (h1 m 54) j := by
              have := (bits j.toNat (by omega)).mpr (Or.inl jj)
              rw [jj] at this
              exact this
            have mono1 : ∀ p : Nat, p < 8 → hb (g m 54) (p : Int) → hb (h1 m 54) (p : Int) := fun p hp z => (bits p hp).mpr (Or.inr (b3 p hp z))
            have h24 : h1 (m + 24) = g (m + 24) := by rw [n1 _ (by omega), b4]
            have h25 : h1 (m + 25) = g (m + 25) := by rw [n1 _ (by omega), b5]
            have lj : g (m + 25) j.toNat = lCnt (g (m + 24)) j (A 2).toNat := by rw [sl j.toNat (by omega), jj]
            have lm := sv.2 j.toNat (by omega)
            rw [jj] at lm
            have lge := (lCnt_rg (g (m + 24)) j (A 2).toNat).1
            rw [j1 53 (by omega), b1.2 53 (by omega), sm53, h25, lj]
            refine ⟨fun full => ?_, fun room => ?_⟩
            · -- full: each of its needs is tried elsewhere
              have lq : ∀ i : Int, ∀ g2 : am_H, 0 ≤ i → i ≤ A 2 → B g2 → (∀ p : Nat, p < 8 → hb (h1 m 54) (p : Int) → hb (g2 m 54) (p : Int)) → (∀ p : Nat, p < 8 → hb (g2 m 54) (p : Int) → ¬ hb (g m 54) (p : Int) → ¬ (p : Int) = j → C g2 p) → (∀ i' : Nat, (i' : Int) < i → g (m + 26) i' = -2 → g (m + 24) i' = j → ∀ q : Nat, asked A (q : Int) (i' : Int) → hb (g2 m 54) (q : Int)) → aw_Md_gets_100 (d + (k + 1) + 1) Y m (n : Int) j i g2 (am_qI fun v g1 => gQ g g1 m A mo n v) := by
                refine am_up (fun i => ∀ g2 : am_H, 0 ≤ i → i ≤ A 2 → B g2 → (∀ p : Nat, p < 8 → hb (h1 m 54) (p : Int) → hb (g2 m 54) (p : Int)) → (∀ p : Nat, p < 8 → hb (g2 m 54) (p : Int) → ¬ hb (g m 54) (p : Int) → ¬ (p : Int) = j → C g2 p) → (∀ i' : Nat, (i' : Int) < i → g (m + 26) i' = -2 → g (m + 24) i' = j → ∀ q : Nat, asked A (q : Int) (i' : Int) → hb (g2 m 54) (q : Int)) → aw_Md_gets_100 (d + (k + 1) + 1) Y m (n : Int) j i g2 (am_qI fun v g1 => gQ g g1 m A mo n v)) (A 2) ?_ ?_
                · rintro i hi g2 i0 i8 ⟨c1, c2, c3, c4, c5⟩ mo2 cl own
                  have gA2 : g2 (m + 2) = A := by rw [c1.1 _ (by omega) (by omega) (by omega), sA]
                  refine ab_Md_gets_100 hM ?_
                  rw [gA2]
                  refine ⟨fun _ => ⟨by unfold am_ri; omega, jh g2 (by omega) (by omega) ⟨c1, c2, c3, c4, c5⟩ (fun q hq hq2 => ?_) (fun p hp a b => ?_)⟩, fun z => by omega⟩
                  · have q8 : q < 8 := by omega
                    refine mo2 q q8 ((bits q q8).mpr ?_)
                    by_cases qj : (q : Int) = j
                    · exact Or.inl qj
                    · exact Or.inr (e1 q (by omega) hq2)
                  · by_cases pj : (p : Int) = j
                    · refine ⟨by rw [pj]; omega, fun i' hi' F' f' => own i' (by omega) F' (by rw [f', pj])⟩
                    · exact cl p hp a b pj
                · rintro i hi ih2 g2 i0 i8 ⟨c1, c2, c3, c4, c5⟩ mo2 cl own
                  have ii : ((i.toNat : Nat) : Int) = i := by omega
                  have gA2 : g2 (m + 2) = A := by rw [c1.1 _ (by omega) (by omega) (by omega), sA]
                  have gF2 : g2 (m + 26) = g (m + 26) := c1.1 _ (by omega) (by omega) (by omega)
                  have skip : ¬ (g (m + 26) i.toNat = -2 ∧ g (m + 24) i.toNat = j) → (am_ri (i + 1)) ∧ aw_Md_gets_100 (d + (k + 1) + 1) Y m (n : Int) j (i + 1) g2 (am_qI fun v g1 => gQ g g1 m A mo n v) := by
                    intro z
                    refine ⟨by unfold am_ri; omega, ih2 g2 (by omega) (by omega) ⟨c1, c2, c3, c4, c5⟩ mo2 cl fun i' hi' F' f' => ?_⟩
                    by_cases same : i' = i.toNat
                    · exact absurd ⟨by rw [← same]; exact F', by rw [← same]; exact f'⟩ z
                    · exact own i' (by omega) F' f'
                  refine ab_Md_gets_100 hM ?_
                  rw [gA2, gF2, c4]
                  refine ⟨fun z => by omega, fun _ => ⟨by omega, fun z => skip fun y => z y.2, fun fi => ⟨by omega, fun Fi => ⟨by omega, fun h3 e3 => ⟨by omega, ?_⟩⟩, fun z => skip fun y => z y.1⟩⟩⟩
                  have n3 : ∀ r, r ≠ m + 24 → h3 r = g2 r := fun r hr => by rw [e3, am_u_n _ _ _ _ _ hr]
                  have f3 : h3 (m + 24) = up (g (m + 24)) i.toNat (-1) := by rw [e3, am_u_up, c4]
                  rw [n3 (m + 25) (by omega), c5, lj]
                  have cpos := lCnt_pos (f := g (m + 24)) (p := j) (N := (A 2).toNat) (i := i.toNat) (by omega) fi
                  refine ⟨by unfold am_ri; omega, by omega, fun h4 e4 => ?_⟩
                  have n4 : ∀ r, r ≠ m + 24 → r ≠ m + 25 → h4 r = g2 r := fun r p1 p2 => by rw [e4, am_u_n _ _ _ _ _ p2, n3 r p1]
                  have f4 : h4 (m + 24) = up (g (m + 24)) i.toNat (-1) := by rw [e4, am_u_n _ _ _ _ _ (by omega), f3]
                  have l4 : h4 (m + 25) = up (g (m + 25)) j.toNat (lCnt (g (m + 24)) j (A 2).toNat - 1) := by rw [e4, am_u_up, n3 _ (by omega), c5]
                  have fr4 : lmF g h4 m := (c1.trans (lmF.u e3 (by omega))).trans (lmF.u e4 (by omega))
                  have tm4 : h4 m = g2 m := n4 m (by omega) (by omega)
                  have s4 : lmS h4 m A mo := by
                    refine ⟨by rw [n4 _ (by omega) (by omega), gA2], by rw [fr4.2 53 (by omega)]; exact sm53, ?_, fun p hp => ?_⟩
                    · rw [f4]
                      exact sv.up (by omega) (Or.inl rfl) fun p _ e => by omega
                    · rw [f4, l4, lCnt_up (by omega), fi]
                      by_cases pj : p = j.toNat
                      · rw [pj, upl_s, jj, if_pos rfl, if_neg (by omega)]
                        omega
                      · rw [upl_n pj, sl p hp, if_neg (by omega), if_neg (by omega)]
                        omega
                  have tj2 : hb (g2 m 54) j := by
                    have := mo2 j.toNat (by omega) (by rw [jj]; exact tj)
                    rw [jj] at this
                    exact this
                  have un4 : untr (h4 m 54) < k := by
                    have := untr_lt (t := g m 54) (t' := h4 m 54) (by rw [tm4]; exact c3) (p := j.toNat) (by omega) (by rw [tm4, jj]; exact tj2) (by rw [jj]; exact tr0)
                    omega
                  have ni : n ≠ i.toNat := fun e => by rw [e, fi] at fn; omega
                  have rcl := ih h4 i.toNat s4 (by omega) (by rw [n4 _ (by omega) (by omega), gF2]; exact Fi) (by rw [f4, upl_s]) (by rw [tm4]; exact c2) un4
                  rw [ii] at rcl
                  refine am_kI.of rcl (by omega) ?_
                  rintro v g5 - - ⟨r1, r2, r3, r4, r5, r6, r7⟩
                  have fr5 : lmF g g5 m := fr4.trans r1
                  have l5j : g5 (m + 25) j.toNat = lCnt (g (m + 24)) j (A 2).toNat - 1 := by
                    rw [r6 j.toNat (by omega) (by rw [tm4, jj]; exact tj2), l4, upl_s]
                  have mono5 : ∀ p : Nat, p < 8 → hb (g m 54) (p : Int) → hb (g5 m 54) (p : Int) := fun p hp z => r3 p hp (by rw [tm4]; exact c3 p hp z)
                  rw [l5j]
                  refine ⟨fun v0 => ⟨by omega, by unfold am_ri; omega, by omega, fun h6 e6 => ⟨by omega, fun h7 e7 => ⟨by unfold am_ri; omega, ?_⟩⟩⟩, fun v1 => ⟨by omega, by unfold am_ri; omega, by omega, fun h6 e6 => ⟨by omega, fun h7 e7 => ?_⟩⟩⟩
                  · -- it can't be tried elsewhere
                    rcases r7 with ⟨z, -⟩ | ⟨-, r7, r8, r9, r10⟩
                    · omega
                    have n7 : ∀ r, r ≠ m + 24 → r ≠ m + 25 → h7 r = g5 r := fun r p1 p2 => by rw [e7, am_u_n _ _ _ _ _ p1, e6, am_u_n _ _ _ _ _ p2]
                    have f7 : h7 (m + 24) = g (m + 24) := by
                      rw [e7, am_u_up, e6, am_u_n _ _ _ _ _ (by omega), r7, f4, ← fi]
                      exact up_up _ _ _
                    have l7 : h7 (m + 25) = g (m + 25) := by
                      rw [e7, am_u_n _ _ _ _ _ (by omega), e6, am_u_up, r8, l4, show lCnt (g (m + 24)) j (A 2).toNat - 1 + 1 = g (m + 25) j.toNat from by rw [lj]; omega]
                      exact up_up _ _ _
                    have m7 : h7 m = g5 m := n7 m (by omega) (by omega)
                    have fr7 : lmF g h7 m := (fr5.trans (lmF.u e6 (by omega))).trans (lmF.u e7 (by omega))
                    refine ih2 h7 (by omega) (by omega) ⟨fr7, by rw [m7]; exact r2, by rw [m7]; exact mono5, f7, l7⟩ (fun p hp z => by rw [m7]; exact r3 p hp (by rw [tm4]; exact mo2 p hp z)) (fun p hp a b pj => ?_) (fun i' hi' F' f' q hq => ?_)
                    · rw [m7] at a
                      by_cases old : hb (g2 m 54) (p : Int)
                      · obtain ⟨o1, o2⟩ := cl p hp old b pj
                        refine ⟨o1, fun i' hi' F' f' q hq => ?_⟩
                        have q8 : q < 8 := by have := hq.1; omega
                        rw [m7]
                        exact r3 q q8 (by rw [tm4]; exact o2 i' hi' F' f' q hq)
                      · obtain ⟨o1, o2⟩ := r10 p hp a (by rw [tm4]; exact old)
                        rw [f4, lCnt_up (by omega), fi, if_neg (by omega), if_neg (by omega)] at o1
                        refine ⟨by omega, fun i' hi' F' f' q hq => ?_⟩
                        rw [m7]
                        refine o2 i' hi' (by rw [n4 _ (by omega) (by omega), gF2]; exact F') ?_ q hq
                        rw [f4, upl_n fun e => pj (by rw [← f', e]; exact fi)]
                        exact f'
                    · rw [m7]
                      by_cases same : i' = i.toNat
                      · rw [same] at hq
                        exact r9 q hq
                      · have q8 : q < 8 := by have := hq.1; omega
                        exact r3 q q8 (by rw [tm4]; exact own i' (by omega) F' f' q hq)
                  · -- it goes elsewhere
                    rcases r7 with ⟨-, r7, r8, r9⟩ | ⟨z, -⟩
                    case inr => exact absurd z v1
                    have n7 : ∀ r, r ≠ m + 24 → r ≠ m + 25 → h7 r = g5 r := fun r p1 p2 => by rw [e7, am_u_n _ _ _ _ _ p1, e6, am_u_n _ _ _ _ _ p2]
                    have m7 : h7 m = g5 m := n7 m (by omega) (by omega)
                    have g5n : g5 (m + 24) n = -1 := r9 n hn ni (by rw [f4, upl_n ni]; exact fn)
                    have f7 : h7 (m + 24) = up (g5 (m + 24)) n j := by rw [e7, am_u_up, e6, am_u_n _ _ _ _ _ (by omega), Int.toNat_natCast]
                    have l7 : h7 (m + 25) = up (g5 (m + 25)) j.toNat (lCnt (g (m + 24)) j (A 2).toNat - 1 + 1) := by rw [e7, am_u_n _ _ _ _ _ (by omega), e6, am_u_up]
                    have fr7 : lmF g h7 m := (fr5.trans (lmF.u e6 (by omega))).trans (lmF.u e7 (by omega))
                    have cj5 : lCnt (g5 (m + 24)) j (A 2).toNat = lCnt (g (m + 24)) j (A 2).toNat - 1 := by
                      have := r4.2.2.2 j.toNat (by omega)
                      rw [jj, l5j] at this
                      exact this.symm
                    have jpos : ¬ (-1 : Int) = j := by omega
                    rw [am_qI_s]
                    refine ⟨fr7, by rw [m7]; exact r2, by rw [m7]; exact mono5, ⟨by rw [n7 _ (by omega) (by omega)]; exact r4.1, by rw [m7]; exact r4.2.1, ?_, fun p hp => ?_⟩, fun i' F' => ?_, fun p hp z => ?_, Or.inl ⟨rfl, ?_, fun i' hi' z => ?_, fun i' hi' ne z => ?_⟩⟩
                    · rw [f7]
                      refine r4.2.2.1.up hn (Or.inr q) fun p hp e => ?_
                      rw [e, cj5, g5n, if_neg jpos]
                      omega
                    · rw [f7, l7, lCnt_up (by omega), g5n, if_neg (by omega)]
                      by_cases pj : p = j.toNat
                      · rw [pj, upl_s, jj, if_pos rfl, cj5]
                        omega
                      · rw [upl_n pj, r4.2.2.2 p hp, if_neg (by omega)]
                        omega
                    · rw [f7, upl_n fun e => F' (by rw [e]; exact Fn), r5 i' (by rw [n4 _ (by omega) (by omega), gF2]; exact F'), f4, upl_n fun e => F' (by rw [e]; exact Fi)]
                    · have pj : p ≠ j.toNat := fun e => tr0 (by rw [← jj, ← e]; exact z)
                      rw [l7, upl_n pj, r6 p hp (by rw [tm4]; exact c3 p hp z), l4, upl_n pj]
                    · rw [f7, upl_s]
                      exact h0
                    · rw [f7]
                      by_cases e : i' = n
                      · rw [e, upl_s]
                        exact h0
                      · rw [upl_n e]
                        by_cases e2 : i' = i.toNat
                        · rw [e2]
                          exact r7
                        · exact r8 i' hi' (by rw [f4, upl_n e2]; exact z)
                    · rw [f7, upl_n ne]
                      have e2 : i' ≠ i.toNat := fun e => by rw [e, fi] at z; omega
                      exact r9 i' hi' e2 (by rw [f4, upl_n e2]; exact z)
              refine lq 0 h1 (by omega) (by omega) ⟨f1, by1, mono1, h24, h25⟩ (fun _ _ z => z) (fun p hp a b pj => ?_) (fun i' hi' => by omega)
              have a' : hb (g1 m 54) (p : Int) := ((bits p hp).mp a).resolve_left pj
              obtain ⟨o1, o2⟩ := e2 p hp a' b
              refine ⟨o1, fun i' hi' F' f' q hq => ?_⟩
              have q8 : q < 8 := by have := hq.1; omega
              exact (bits q q8).mpr (Or.inr (o2 i' hi' F' f' q hq))
            · -- room
              refine ⟨by omega, by unfold am_ri; omega, by omega, fun h2 e2' => ⟨by omega, fun h3 e3 => ?_⟩⟩
              have n3 : ∀ r, r ≠ m + 24 → r ≠ m + 25 → h3 r = h1 r := fun r p1 p2 => by rw [e3, am_u_n _ _ _ _ _ p1, e2', am_u_n _ _ _ _ _ p2]
              have m3 : h3 m = h1 m := n3 m (by omega) (by omega)
              have f3 : h3 (m + 24) = up (g (m + 24)) n j := by rw [e3, am_u_up, e2', am_u_n _ _ _ _ _ (by omega), h24, Int.toNat_natCast]
              have l3 : h3 (m + 25) = up (g (m + 25)) j.toNat (lCnt (g (m + 24)) j (A 2).toNat + 1) := by rw [e3, am_u_n _ _ _ _ _ (by omega), e2', am_u_up, h25]
              have jpos : ¬ (-1 : Int) = j := by omega
              rw [am_qI_s]
              refine ⟨(f1.trans (lmF.u e2' (by omega))).trans (lmF.u e3 (by omega)), by rw [m3]; exact by1, by rw [m3]; exact mono1, ⟨by rw [n3 _ (by omega) (by omega), n1 _ (by omega), gA], by rw [m3, f1.2 53 (by omega)]; exact sm53, ?_, fun p hp => ?_⟩, fun i' F' => ?_, fun p hp z => ?_, Or.inl ⟨rfl, ?_, fun i' hi' z => ?_, fun i' hi' ne z => ?_⟩⟩
              · rw [f3]
                refine sv.up hn (Or.inr q) fun p hp e => ?_
                rw [e, fn, if_neg jpos]
                omega
              · rw [f3, l3, lCnt_up (by omega), fn, if_neg (by omega)]
                by_cases pj : p = j.toNat
                · rw [pj, upl_s, jj, if_pos rfl]
                  omega
                · rw [upl_n pj, sl p hp, if_neg (by omega)]
                  omega
              · rw [f3, upl_n fun e => F' (by rw [e]; exact Fn)]
              · have pj : p ≠ j.toNat := fun e => tr0 (by rw [← jj, ← e]; exact z)
                rw [l3, upl_n pj]
              · rw [f3, upl_s]
                exact h0
              · rw [f3]
                by_cases e : i' = n
                · rw [e, upl_s]
                  exact h0
                · rw [upl_n e]
                  exact z
              · rw [f3, upl_n ne]
                exact z
        · rw [if_neg q]
          exact ⟨fun _ => next fun z => absurd z q, fun z => absurd rfl z⟩
    exact lp 0 g (by omega) (by omega) ⟨lmF.refl, t8, fun _ _ z => z, rfl, rfl⟩ (fun q hq => by omega) (fun p _ a b => absurd a b)
end

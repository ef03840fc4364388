/-! contracts: the class's readers of a village's lines: helps, ties, what is told once -/
def cS (h : am_H) (o : Nat) (P : Int) (S : VS) : Prop := TR h (o + 1) S.2.2 ∧ h (o + 1) 4 = 0 ∧ vR h (o + 5) P S.1 S.2.1 ∧ tE S.2.2
theorem tE.n1 {r : List TK} (h : tE r) : tE (nx r) := by
  obtain ⟨a, e, ha⟩ := h
  match r, e with
  | [], e => simp at e
  | [b], e => exact ⟨a, e, ha⟩
  | b :: c :: l, e => exact ⟨a, by rw [List.getLast?_cons_cons] at e; exact e, ha⟩
theorem tE.len {r : List TK} (h : tE r) (hk : (hd r).1 < 32) : (nx r).length + 1 = r.length := by
  obtain ⟨a, e, ha⟩ := h
  match r, e with
  | [], e => simp at e
  | [b], e =>
    simp at e
    subst e
    have : (hd [b]).1 = b.1 := rfl
    omega
  | b :: c :: l, e => rfl
def cF (h h1 : am_H) (o : Nat) : Prop := (∀ q, (q < o ∨ o + 16 ≤ q) → h1 q = h q) ∧ h1 (o + 5) 0 = h (o + 5) 0
theorem cF.trans {h h1 h2 : am_H} {o : Nat} (a : cF h h1 o) (b : cF h1 h2 o) : cF h h2 o := ⟨fun q hq => (b.1 q hq).trans (a.1 q hq), b.2.trans a.2⟩
theorem fr4.c {h h1 : am_H} {o : Nat} (f : fr4 h h1 (o + 1)) : cF h h1 o := ⟨fun q hq => f q (by omega), by rw [f (o + 5) (by omega)]⟩
theorem cF.u {h : am_H} {o q j : Nat} {x : Int} (hq : o ≤ q ∧ q < o + 16) (hj : q = o + 5 → j ≠ 0) : cF h (am_u h q j x) o := ⟨fun q hq => am_u_n _ _ _ _ q (by omega), by
  by_cases e : q = o + 5
  · subst e; exact am_u_j (Ne.symm (hj rfl))
  · exact am_u_o (Ne.symm e)⟩
def cL (h : am_H) (o : Nat) (e : PE VS) (x : Int) (h1 : am_H) : Prop := cF h h1 o ∧ h1 o = h o ∧ tro h1 (o + 1) x e (fun S => cS h1 o (S.1 1) S)
theorem cL.bad {h h1 : am_H} {o : Nat} {e : PE VS} {r : List TK} {k : Int} (f : cF h h1 o) (g : h1 o = h o) (e4 : h1 (o + 1) 4 = (pq r k).1) (e5 : h1 (o + 1) 5 = (pq r k).2) (he : e = pb r k) : cL h o e 0 h1 := by
  subst he
  exact ⟨f, g, rfl, e4, e5⟩
theorem TR.of4 {h h1 : am_H} {T : Nat} {r : List TK} (ht : TR h T r) (f : ∀ q, T ≤ q → q < T + 4 → h1 q = h q) : TR h1 T r := ht.but (fun j _ => by rw [f T (by omega) (by omega)]) (fun q a b => f q (by omega) b)
theorem pNew_w {S : VS} {slot : Int} : pNew S slot = pbd (pNw S.1 S.2.1 S.2.2) fun _ => .inr (S.1, up S.2.1 slot.toNat (hd S.2.2).2.2, nx S.2.2) := by
  unfold pNew pNw
  split
  · split <;> rfl
  · rfl
theorem pNw_no {R N : Nat → Int} {r : List TK} (e : pNw R N r = .inr ()) : fnd N (hd r).2.2 0 (R 0).toNat = -1 ∧ fnd N (hd r).2.2 6 (R 1).toNat = -1 := by
  unfold pNw at e
  split at e
  · split at e
    · next h =>
      unfold pF at h
      have := fnd_rg N (hd r).2.2 6 (R 1).toNat
      split at h
      · next h0 =>
        split at h
        · next h1 => exact ⟨h0, h1⟩
        · omega
      · next h0 => exact absurd h h0
    · cases e
  · cases e
/-- a help is told -/
theorem vR.help {h h1 : am_H} {v : Nat} {R N : Nat → Int} {w a b : Int} (c : vR h v (R 1) R N) (h0 : 0 ≤ R 0 ∧ R 0 < 6) (hn : ∀ p : Nat, (p : Int) < R 1 → N (6 + p) ≠ w)
    (f : ∀ j, j ≠ 0 → j ≠ 1 → h1 v j = h v j) (f1 : h1 v 1 = R 0 + 1) (g1 : h1 (v + 1) = up (h (v + 1)) (R 0).toNat w) (g2 : h1 (v + 2) = up (h (v + 2)) (R 0).toNat a) (g3 : h1 (v + 3) = up (h (v + 3)) (R 0).toNat b) (g : ∀ q, v + 4 ≤ q → q < v + 11 → h1 q = h q) :
    vR h1 v (R 1) (up (up (up R (10 + 2 * R 0).toNat a) (10 + 2 * R 0 + 1).toNat b) 0 (R 0 + 1)) (up N (R 0).toNat w) := by
  obtain ⟨⟨c1, c2, c3, c4, c5, c6⟩, cA, cB, cC, cD, cE, cZ, cN⟩ := c
  generalize hR' : up (up (up R (10 + 2 * R 0).toNat a) (10 + 2 * R 0 + 1).toNat b) 0 (R 0 + 1) = R'
  have eR : ∀ q, q ≠ 0 → q ≠ (10 + 2 * R 0).toNat → q ≠ (10 + 2 * R 0 + 1).toNat → R' q = R q := fun q q0 q1 q2 => by rw [← hR', up_n q0, up_n q2, up_n q1]
  have e0 : R' 0 = R 0 + 1 := by rw [← hR', up_s]
  have ea : R' (10 + 2 * (R 0).toNat) = a := by rw [← hR', up_n (by omega), up_n (by omega), show 10 + 2 * (R 0).toNat = (10 + 2 * R 0).toNat by omega, up_s]
  have eb : R' (11 + 2 * (R 0).toNat) = b := by rw [← hR', up_n (by omega), show 11 + 2 * (R 0).toNat = (10 + 2 * R 0 + 1).toNat by omega, up_s]
  refine ⟨⟨by rw [f1, e0], by rw [f 2 (by omega) (by omega), c2], by rw [f 3 (by omega) (by omega), c3, eR 2 (by omega) (by omega) (by omega)], by rw [f 4 (by omega) (by omega), c4, eR 3 (by omega) (by omega) (by omega)], by rw [f 5 (by omega) (by omega), c5, eR 4 (by omega) (by omega) (by omega)], by rw [f 6 (by omega) (by omega), c6, eR 5 (by omega) (by omega) (by omega)]⟩, fun k hk => ?_, fun p hp => ?_, fun i hi => ?_, fun i hi => ?_, fun n hn => ?_, ⟨fun p k hp hk hh => ?_, fun p q hp hq hh => ?_⟩, fun k p hk hp => ?_⟩
  · rw [e0] at hk
    rw [g1, g2, g3]
    by_cases e : k = (R 0).toNat
    · subst e
      rw [up_s, up_s, up_s, up_s, ea, eb]
      exact ⟨rfl, rfl, rfl⟩
    · rw [up_n e, up_n e, up_n e, up_n e, eR _ (by omega) (by omega) (by omega), eR _ (by omega) (by omega) (by omega)]
      exact cA k (by omega)
  · rw [g _ (by omega) (by omega), g _ (by omega) (by omega), eR _ (by omega) (by omega) (by omega), up_n (by omega)]
    exact cB p hp
  · rw [g _ (by omega) (by omega), eR _ (by omega) (by omega) (by omega)]
    exact cC i hi
  · rw [g _ (by omega) (by omega), g _ (by omega) (by omega), eR _ (by omega) (by omega) (by omega), eR _ (by omega) (by omega) (by omega)]
    exact cD i hi
  · rw [eR 2 (by omega) (by omega) (by omega)] at hn
    rw [g _ (by omega) (by omega), g _ (by omega) (by omega), eR _ (by omega) (by omega) (by omega), eR _ (by omega) (by omega) (by omega)]
    exact cE n hn
  · rw [e0] at hh
    rw [eR _ (by omega) (by omega) (by omega)]
    exact cZ.1 p k hp hk (by omega)
  · rw [eR _ (by omega) (by omega) (by omega), eR _ (by omega) (by omega) (by omega)]
    exact cZ.2 p q hp hq hh
  · rw [e0] at hk
    rw [up_n (show 6 + p ≠ (R 0).toNat by omega)]
    by_cases e : k = (R 0).toNat
    · subst e
      rw [up_s]
      exact (hn p hp).symm
    · rw [up_n e]
      exact cN k p (by omega) hp
/-- a cell of the draft and the one of the row beside it are set -/
theorem vR.cell {h h1 : am_H} {v : Nat} {P x : Int} {R N : Nat → Int} {i b q : Nat} (c : vR h v P R N) (hs : R 0 ≤ 6 ∧ P ≤ 8 ∧ R 2 ≤ 48) (hb : b = 35 ∧ q = v + 6 ∧ i < 48 ∨ b = 95 ∧ q = v + 7 ∧ i < 64 ∨ b = 160 ∧ q = v + 8 ∧ i < 64) (hz : zV (up R (b + i) x) P)
    (e : h1 = am_u h q i x) : vR h1 v P (up R (b + i) x) N := by
  obtain ⟨⟨c1, c2, c3, c4, c5, c6⟩, cA, cB, cC, cD, cE, cZ, cN⟩ := c
  have eq : ∀ z, z ≠ q → h1 z = h z := fun z hz => by rw [e, am_u_n _ _ _ _ z hz]
  have e1 : h1 q = up (h q) i x := by rw [e, am_u_up]
  refine ⟨by rw [eq v (by omega), up_n (by omega), up_n (by omega), up_n (by omega), up_n (by omega), up_n (by omega)]; exact ⟨c1, c2, c3, c4, c5, c6⟩, fun k hk => ?_, fun p hp => ?_, fun j hj => ?_, fun j hj => ?_, fun n hn => ?_, hz, fun k p hk hp => ?_⟩
  · rw [up_n (by omega)] at hk
    rw [eq _ (by omega), eq _ (by omega), eq _ (by omega), up_n (by omega), up_n (by omega)]
    exact cA k hk
  · rw [eq _ (by omega), eq _ (by omega), up_n (by omega)]
    exact cB p hp
  · rcases hb with ⟨rfl, rfl, hi⟩ | ⟨rfl, rfl, hi⟩ | ⟨rfl, rfl, hi⟩
    · rw [e1]
      by_cases z : j = i
      · rw [z, up_s, up_s]
      · rw [up_n z, up_n (by omega)]
        exact cC j hj
    · rw [eq _ (by omega), up_n (by omega)]
      exact cC j hj
    · rw [eq _ (by omega), up_n (by omega)]
      exact cC j hj
  · rcases hb with ⟨rfl, rfl, hi⟩ | ⟨rfl, rfl, hi⟩ | ⟨rfl, rfl, hi⟩
    · rw [eq _ (by omega), eq _ (by omega), up_n (by omega), up_n (by omega)]
      exact cD j hj
    · rw [e1, eq (v + 8) (by omega), up_n (show 160 + j ≠ 95 + i by omega)]
      by_cases z : j = i
      · rw [z, up_s, up_s]
        exact ⟨rfl, (cD i hi).2⟩
      · rw [up_n z, up_n (by omega)]
        exact cD j hj
    · rw [e1, eq (v + 7) (by omega), up_n (show 95 + j ≠ 160 + i by omega)]
      by_cases z : j = i
      · rw [z, up_s, up_s]
        exact ⟨(cD i hi).1, rfl⟩
      · rw [up_n z, up_n (by omega)]
        exact cD j hj
  · rw [up_n (by omega)] at hn
    rw [eq _ (by omega), eq _ (by omega), up_n (by omega), up_n (by omega)]
    exact cE n hn
  · rw [up_n (by omega)] at hk
    exact cN k p hk hp
/-- a number of the draft's own is set -/
theorem vR.one {h h1 : am_H} {v : Nat} {P x : Int} {R N : Nat → Int} {j : Nat} (c : vR h v P R N) (hj : 3 ≤ j ∧ j ≤ 5) (e : h1 = am_u h v (j + 1) x) : vR h1 v P (up R j x) N := by
  obtain ⟨⟨c1, c2, c3, c4, c5, c6⟩, cA, cB, cC, cD, cE, cZ, cN⟩ := c
  have eq : ∀ z, z ≠ v → h1 z = h z := fun z hz => by rw [e, am_u_n _ _ _ _ z hz]
  have ev : ∀ i, h1 v i = if i = j + 1 then x else h v i := fun i => by rw [e, am_u_up]; rfl
  have eR : ∀ i, up R j x i = if i = j then x else R i := fun i => rfl
  refine ⟨⟨?_, ?_, ?_, ?_, ?_, ?_⟩, fun k hk => ?_, fun p hp => ?_, fun j hj => ?_, fun j hj => ?_, fun n hn => ?_, ⟨fun p k hp hk hh => ?_, fun p q hp hq hh => ?_⟩, fun k p hk hp => ?_⟩
  · rw [ev, eR, if_neg (by omega), if_neg (by omega), c1]
  · rw [ev, if_neg (by omega), c2]
  · rw [ev, eR, if_neg (by omega), if_neg (by omega), c3]
  · rw [ev, eR]
    by_cases z : 3 = j
    · rw [if_pos (by omega), if_pos z]
    · rw [if_neg (by omega), if_neg z, c4]
  · rw [ev, eR]
    by_cases z : 4 = j
    · rw [if_pos (by omega), if_pos z]
    · rw [if_neg (by omega), if_neg z, c5]
  · rw [ev, eR]
    by_cases z : 5 = j
    · rw [if_pos (by omega), if_pos z]
    · rw [if_neg (by omega), if_neg z, c6]
  · rw [up_n (by omega)] at hk
    rw [eq _ (by omega), eq _ (by omega), eq _ (by omega), up_n (by omega), up_n (by omega)]
    exact cA k hk
  · rw [eq _ (by omega), eq _ (by omega), up_n (by omega)]
    exact cB p hp
  · rw [eq _ (by omega), up_n (by omega)]
    exact cC _ hj
  · rw [eq _ (by omega), eq _ (by omega), up_n (by omega), up_n (by omega)]
    exact cD _ hj
  · rw [up_n (by omega)] at hn
    rw [eq _ (by omega), eq _ (by omega), up_n (by omega), up_n (by omega)]
    exact cE n hn
  · rw [up_n (by omega)] at hh
    rw [up_n (by omega)]
    exact cZ.1 p k hp hk hh
  · rw [up_n (by omega), up_n (by omega)]
    exact cZ.2 p q hp hq hh
  · rw [up_n (by omega)] at hk
    exact cN k p hk hp
section
variable {d : Nat} {Y : am_Y} {h : am_H} {o : Nat} {S : VS}
theorem ac_readHelp (hY : am_at Y o am_L10) (hS : cS h o (S.1 1) S) (w : wr S.1) (hk : (hd S.2.2).1 < 32) : am_cI am_VillageText_readHelp (d + 5) Y [.inr (.inr o)] h (cL h o (pHelp S)) := by
  have hYT : am_at Y (o + 1) am_L8 := hY.sub 1 rfl
  obtain ⟨ht, h4, hv, te⟩ := hS
  have hz := w.z
  have hz' := hz
  unfold rz at hz'
  have hv1 : h (o + 5) 1 = S.1 0 := hv.1.1
  refine am_Met.of (by decide) rfl (Nat.le_of_ble_eq_true rfl) (ab_VillageText_readHelp_0 hY ?_)
  rw [hv1]
  refine ⟨fun c => advK hYT ht (by omega) ?_, fun c => failK (k := 4) hYT ht h4 (by omega) ?_ ?_⟩
  · intro h1 t1 f1 j1
    have v1 := hv.but f1.v
    refine newNameK hY v1 hz t1 ((j1 4 (by omega) (by omega) (by omega) (by omega)).trans h4) (by omega) ?_
    intro x h2 f2 o2
    have ep : pHelp S = pbd (pNew (S.1, S.2.1, nx S.2.2) (S.1 0)) fun A => pbd (pNum A 1 99 (10 + 2 * S.1 0)) fun B => pbd (pNum B 0 99 (10 + 2 * S.1 0 + 1)) fun C => .inr (up C.1 0 (C.1 0 + 1), C.2) := by
      unfold pHelp
      rw [if_neg (by omega)]
    rw [pNew_w] at ep
    cases hA : pNw S.1 S.2.1 (nx S.2.2) with
    | inl q =>
      rw [hA] at o2 ep
      obtain ⟨rfl, e4, e5⟩ := o2
      refine ⟨fun z => absurd rfl z, fun _ => ?_⟩
      rw [am_qI_s, ep]
      exact ⟨f1.c.trans f2.c, by rw [f2 o (by omega), f1 o (by omega)], rfl, e4, e5⟩
    | inr u =>
      rw [hA] at o2 ep
      obtain ⟨rfl, e2⟩ := o2
      rw [e2]
      have nn := pNw_no hA
      refine ⟨fun _ => ⟨⟨by omega, by omega⟩, fun h5 e5 => ?_⟩, fun z => absurd z (by decide)⟩
      have v51 : h5 (o + 5) 1 = S.1 0 := by rw [e5, am_u_o (by omega)]; exact v1.1.1
      rw [v51]
      refine ⟨⟨by omega, by omega⟩, fun h6 e6 => ?_⟩
      have s6 : ∀ q, q ≠ o + 5 → q ≠ o + 6 → h6 q = h1 q := fun q a b => by rw [e6, am_u_n _ _ _ _ q a, e5, am_u_n _ _ _ _ q b]
      refine advK hYT (t1.of4 fun q a b => s6 q (by omega) (by omega)) (by omega) ?_
      intro h7 t7 f7 j7
      have h74 : h7 (o + 1) 4 = 0 := by rw [j7 4 (by omega) (by omega) (by omega) (by omega), s6 (o + 1) (by omega) (by omega), j1 4 (by omega) (by omega) (by omega) (by omega), h4]
      have F6 : cF h h6 o := f1.c.trans ((cF.u (h := h1) (o := o) (q := o + 6) (by omega) (by omega)).trans (e5 ▸ e6 ▸ cF.u (by omega) (by omega)))
      have F7 := F6.trans f7.c
      refine cnumK hYT t7 h74 (by omega) ?_
      intro x8 h8 f8 o8
      have F8 := F7.trans f8.c
      have O8 : h8 o = h o := by rw [f8 o (by omega), f7 o (by omega), s6 o (by omega) (by omega), f1 o (by omega)]
      cases hB : pN (nx (nx S.2.2)) 1 99 with
      | inl q =>
        rw [hB] at o8
        obtain ⟨rfl, e84, e85⟩ := o8
        refine ⟨fun z => absurd rfl z, fun _ => ?_⟩
        have ep2 : pHelp S = .inl q := by
          rw [ep]
          show pbd (pNum (S.1, up S.2.1 (S.1 0).toNat (hd (nx S.2.2)).2.2, nx (nx S.2.2)) 1 99 (10 + 2 * S.1 0)) _ = _
          rw [pNum_l hB]
          rfl
        rw [am_qI_s, ep2]
        exact ⟨F8, O8, rfl, e84, e85⟩
      | inr B =>
        rw [hB] at o8
        obtain ⟨rfl, b3, t8, b4⟩ := o8
        refine ⟨fun _ => ⟨⟨by omega, by omega⟩, fun h9 e9 => ?_⟩, fun z => absurd z (by decide)⟩
        have s9 : ∀ q, q ≠ o + 7 → h9 q = h8 q := fun q a => by rw [e9, am_u_n _ _ _ _ q a]
        have F9 : cF h h9 o := F8.trans (e9 ▸ cF.u (by omega) (by omega))
        refine cnumK hYT (t8.of4 fun q a b => s9 q (by omega)) (by rw [s9 _ (by omega)]; exact b4) (by omega) ?_
        intro x10 h10 f10 o10
        have F10 := F9.trans f10.c
        have O10 : h10 o = h o := by rw [f10 o (by omega), s9 o (by omega), O8]
        cases hC : pN B.2 0 99 with
        | inl q =>
          rw [hC] at o10
          obtain ⟨rfl, e84, e85⟩ := o10
          refine ⟨fun z => absurd rfl z, fun _ => ?_⟩
          have ep2 : pHelp S = .inl q := by
            rw [ep]
            show pbd (pNum (S.1, up S.2.1 (S.1 0).toNat (hd (nx S.2.2)).2.2, nx (nx S.2.2)) 1 99 (10 + 2 * S.1 0)) _ = _
            rw [pNum_r hB]
            show pbd (pNum _ 0 99 (10 + 2 * S.1 0 + 1)) _ = _
            rw [pNum_l (by exact hC)]
            rfl
          rw [am_qI_s, ep2]
          exact ⟨F10, O10, rfl, e84, e85⟩
        | inr C =>
          rw [hC] at o10
          obtain ⟨rfl, c3, t10, c4⟩ := o10
          refine ⟨fun _ => ⟨⟨by omega, by omega⟩, fun h12 e12 => ?_⟩, fun z => absurd z (by decide)⟩
          have ep2 : pHelp S = .inr (up (up (up S.1 (10 + 2 * S.1 0).toNat B.1) (10 + 2 * S.1 0 + 1).toNat C.1) 0 (S.1 0 + 1), up S.2.1 (S.1 0).toNat (hd (nx S.2.2)).2.2, C.2) := by
            rw [ep]
            show pbd (pNum (S.1, up S.2.1 (S.1 0).toNat (hd (nx S.2.2)).2.2, nx (nx S.2.2)) 1 99 (10 + 2 * S.1 0)) _ = _
            rw [pNum_r hB]
            show pbd (pNum _ 0 99 (10 + 2 * S.1 0 + 1)) _ = _
            rw [pNum_r (by exact hC)]
            show Sum.inr _ = _
            dsimp only
            rw [up_n (show 0 ≠ (10 + 2 * S.1 0 + 1).toNat by omega), up_n (show 0 ≠ (10 + 2 * S.1 0).toNat by omega)]
          have s12 : ∀ q, q ≠ o + 8 → h12 q = h10 q := fun q a => by rw [e12, am_u_n _ _ _ _ q a]
          rw [am_qI_s, ep2]
          refine ⟨F10.trans (e12 ▸ cF.u (by omega) (by omega)), by rw [s12 o (by omega)]; exact O10, rfl, t10.of4 fun q a b => s12 q (by omega), by rw [s12 _ (by omega)]; exact c4, ?_, by rw [show C.2 = nx B.2 from (pN_r hC).1, (pN_r hB).1]; exact te.n1.n1.n1.n1⟩
          have q2 : h1 (o + 1) 2 = (hd (nx S.2.2)).2.2 := t1.hd.2.2
          have e10 : ∀ q, o + 5 ≤ q → h10 q = h9 q := fun q a => f10 q (by omega)
          have e8 : ∀ q, o + 5 ≤ q → h8 q = h6 q := fun q a => by rw [f8 q (by omega), f7 q (by omega)]
          have e1 : ∀ q, o + 5 ≤ q → h1 q = h q := fun q a => f1 q (by omega)
          show vR h12 (o + 5) (up (up (up S.1 (10 + 2 * S.1 0).toNat B.1) (10 + 2 * S.1 0 + 1).toNat C.1) 0 (S.1 0 + 1) 1) _ _
          dsimp only
          have e11 : up (up (up S.1 (10 + 2 * S.1 0).toNat B.1) (10 + 2 * S.1 0 + 1).toNat C.1) 0 (S.1 0 + 1) 1 = S.1 1 := by rw [up_n (by omega), up_n (by omega), up_n (by omega)]
          rw [e11]
          refine vR.help (h := h) hv ⟨by omega, c⟩ (fun p hp => ?_) (fun j j0 j1 => ?_) ?_ ?_ ?_ ?_ (fun q a b => ?_)
          · have := (fnd_no S.2.1 (hd (nx S.2.2)).2.2 6 (S.1 1).toNat).mp nn.2 p (by omega)
            exact this
          · rw [s12 _ (by omega), e10 _ (by omega), s9 _ (by omega), e8 _ (by omega), e6, am_u_j j1, e5, am_u_n _ _ _ _ _ (by omega), e1 _ (by omega)]
          · rw [s12 _ (by omega), e10 _ (by omega), s9 _ (by omega), e8 _ (by omega), e6, am_u_s]
          · rw [s12 _ (by omega), e10 _ (by omega), s9 _ (by omega), e8 _ (by omega), e6, am_u_n _ _ _ _ _ (by omega), e5, am_u_up, e1 _ (by omega), q2]
          · rw [s12 _ (by omega), e10 _ (by omega), e9, am_u_up, e8 _ (by omega), s6 _ (by omega) (by omega), e1 _ (by omega), b3]
          · rw [e12, am_u_up, e10 _ (by omega), s9 _ (by omega), e8 _ (by omega), s6 _ (by omega) (by omega), e1 _ (by omega), c3]
          · rw [s12 _ (by omega), e10 _ (by omega), s9 _ (by omega), e8 _ (by omega), s6 _ (by omega) (by omega), e1 _ (by omega)]
  · rw [if_neg (by omega)]
  · intro h1 f1 e4 e5 _
    rw [am_qI_s]
    refine ⟨Or.inl rfl, cL.bad f1.c (by rw [f1 o (by omega)]) e4 e5 ?_⟩
    unfold pHelp
    rw [if_pos (by omega)]
end

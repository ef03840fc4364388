/-! the class's bonds beside the reference's -/
abbrev nA (R : Nat → Int) (n : Nat) : Int := R (225 + 2 * n)
abbrev nB (R : Nat → Int) (n : Nat) : Int := R (226 + 2 * n)
abbrev nb (R : Nat → Int) (p n : Nat) : Nat := jb (p : Int) (R (225 + 2 * n)) (R (226 + 2 * n))
def bdR (h : am_H) (b : Nat) (R : Nat → Int) (J : am_H) (y : Int) : Prop :=
  (∀ p n : Nat, p < 8 → (n : Int) < R 2 → h (b + 2) (48 * p + n) = J 2 (nb R p n) ∧ (∀ z, y ≤ z → ((h (b + 1) (48 * p + n) < z ∧ z ≤ h (b + 2) (48 * p + n)) ↔ (¬ J 8 (nb R p n) = 0 ∧ z = y ∨ J 1 (nb R p n) ≤ z ∧ z ≤ J 2 (nb R p n)))) ∧ (¬ h (b + 2) (48 * p + n) = -1 → hb (h b 2) (p : Int))) ∧
  (∀ p n : Nat, p < 8 → R 2 ≤ n → n < 48 → h (b + 2) (48 * p + n) = -1) ∧
  (∀ p q k : Nat, p < 8 → q < 8 → k < 6 → (∀ n : Nat, (n : Int) < R 2 → ¬ (R (225 + 2 * n) = q ∧ R (226 + 2 * n) = k)) → J 2 (jb p q k) = -1 ∧ J 8 (jb p q k) = 0) ∧
  h b 2 = J 0 3 ∧ 0 ≤ h b 2 ∧ h b 2 < 256 ∧ ∀ j, j < 384 → h (b + 1) j ≤ y
theorem ev_t : ∀ x : Fin 256, ∀ p : Fin 8, 0 ≤ am_or (x.val : Int) (am_shl 1 (p.val : Int)) ∧ am_or (x.val : Int) (am_shl 1 (p.val : Int)) < 256 ∧ ∀ j : Fin 8, (hb (am_or (x.val : Int) (am_shl 1 (p.val : Int))) (j.val : Int) ↔ (j = p ∨ hb (x.val : Int) (j.val : Int))) := by decide +kernel
theorem ev_or {x p : Int} (hx : 0 ≤ x ∧ x < 256) (hp : 0 ≤ p ∧ p < 8) : 0 ≤ am_or x (am_shl 1 p) ∧ am_or x (am_shl 1 p) < 256 ∧ ∀ j : Nat, j < 8 → (hb (am_or x (am_shl 1 p)) (j : Int) ↔ ((j : Int) = p ∨ hb x (j : Int))) := by
  have t := ev_t ⟨x.toNat, by omega⟩ ⟨p.toNat, by omega⟩
  simp only [show ((x.toNat : Nat) : Int) = x by omega, show ((p.toNat : Nat) : Int) = p by omega] at t
  obtain ⟨t1, t2, t3⟩ := t
  refine ⟨t1, t2, fun j hj => ?_⟩
  have := t3 ⟨j, hj⟩
  simp only [Fin.mk.injEq] at this
  rw [this]
  refine or_congr ⟨fun e => by omega, fun e => by omega⟩ Iff.rfl
section
variable {h h1 : am_H} {b : Nat} {R : Nat → Int} {J J' : am_H} {y : Int}
theorem need_rg (c : co R (R 1)) (hz : rz R) {n : Nat} (hn : (n : Int) < R 2) : 0 ≤ nA R n ∧ nA R n < R 1 ∧ 0 ≤ nB R n ∧ nB R n < R 0 ∧ nA R n < 8 ∧ nB R n < 6 := by
  have := c.2.1 n hn
  unfold rz at hz
  simp only [nA, nB]
  omega
theorem nb_n (c : co R (R 1)) (hz : rz R) {p n : Nat} (hn : (n : Int) < R 2) : nb R p n = 48 * p + 6 * (nA R n).toNat + (nB R n).toNat := by
  have := need_rg c hz hn
  simp only [nA, nB] at this ⊢
  unfold nb jb
  omega
theorem nb_inj (c : co R (R 1)) (hz : rz R) {p n p' n' : Nat} (hn : (n : Int) < R 2) (hn' : (n' : Int) < R 2) (e : nb R p n = nb R p' n') : p = p' ∧ n = n' := by
  rw [nb_n c hz hn, nb_n c hz hn'] at e
  have a := need_rg c hz hn
  have a' := need_rg c hz hn'
  have ep : p = p' := by omega
  refine ⟨ep, ?_⟩
  have e1 : nA R n = nA R n' := by omega
  have e2 : nB R n = nB R n' := by omega
  rcases Nat.lt_trichotomy n n' with l | l | l
  · exact absurd ⟨e1, e2⟩ (c.2.2.2 n n' l hn')
  · exact l
  · exact absurd ⟨e1.symm, e2.symm⟩ (c.2.2.2 n' n l hn)
theorem bdR.but (c : bdR h b R J y) (e : ∀ q, b ≤ q → q < b + 3 → h1 q = h q) : bdR h1 b R J y := by
  unfold bdR
  rw [e b (by omega) (by omega), e (b + 1) (by omega) (by omega), e (b + 2) (by omega) (by omega)]
  exact c
theorem bdR.sameJ (c : bdR h b R J y) (e1 : J' 1 = J 1) (e2 : J' 2 = J 2) (e8 : J' 8 = J 8) (e3 : J' 0 3 = J 0 3) : bdR h b R J' y := by
  unfold bdR
  rw [e1, e2, e8, e3]
  exact c
theorem bdR.due (c : bdR h b R J y) {p n : Nat} (hp : p < 8) (hn : (n : Int) < R 2) (hy : J 0 4 = y) : (h (b + 1) (48 * p + n) < y ∧ y ≤ h (b + 2) (48 * p + n)) ↔ (¬ J 8 (nb R p n) = 0 ∨ J 1 (nb R p n) ≤ J 0 4 ∧ J 0 4 ≤ J 2 (nb R p n)) := by
  have := (c.1 p n hp hn).2.1 y (Int.le_refl _)
  rw [this, hy]
  refine or_congr ⟨fun z => z.1, fun z => ⟨z, rfl⟩⟩ Iff.rfl
theorem bdR.standing (c : bdR h b R J y) (hc : co R (R 1)) (hz : rz R) (h2 : 0 ≤ R 2 ∧ R 2 ≤ 48) {p : Nat} (hp : p < 8) {z : Int} (hz0 : 0 ≤ z) : bdS h b p z = jCnt R J p z := by
  have hz' := hz
  unfold rz at hz'
  have hns := need_sum hc hz (fun q k => if z ≤ J 2 (jb p q k) then 1 else 0) (fun q k hq hk hno => by
    have := c.2.2.1 p q k hp (by omega) (by omega) hno
    rw [this.1, if_neg (by omega)])
  unfold jCnt
  rw [hns]
  unfold bdS
  have e48 := sm_more (f := fun n => if z ≤ h (b + 2) (48 * p + n) then (1 : Int) else 0) (n := (R 2).toNat) (48 - (R 2).toNat) fun q a b => by
    rw [c.2.1 p q hp (by omega) (by omega), if_neg (by omega)]
  rw [show (R 2).toNat + (48 - (R 2).toNat) = 48 by omega] at e48
  rw [e48]
  refine sm_congr _ fun n hn => ?_
  have a := need_rg hc hz (n := n) (by omega)
  have := (c.1 p n hp (by omega)).1
  rw [this]
  simp only [nA, nB] at a
  rw [show ((R (225 + 2 * n)).toNat : Int) = R (225 + 2 * n) by omega, show ((R (226 + 2 * n)).toNat : Int) = R (226 + 2 * n) by omega]
theorem bdR.made (c : bdR h b R J y) {p n : Nat} (hp : p < 8) (hn : n < 48) : h (b + 1) (48 * p + n) ≤ y := c.2.2.2.2.2.2 _ (by omega)
/-- thanks bind -/
theorem bdR.bind {p n : Nat} (c : bdR h b R J y) (hc : co R (R 1)) (hz : rz R) (h2 : R 2 ≤ 48) (hp : p < 8) (hn : (n : Int) < R 2) (hy : 0 ≤ y) (ht : 1 ≤ R 3) (B : bdB h h1 b (48 * p + n) p y (R 3))
    (e8 : J' 8 = up (J 8) (nb R p n) (if h (b + 1) (48 * p + n) < y ∧ y ≤ h (b + 2) (48 * p + n) then 1 else 0)) (e1 : J' 1 = up (J 1) (nb R p n) (y + 1)) (e2 : J' 2 = up (J 2) (nb R p n) (y + R 3)) (e3 : J' 0 3 = am_or (J 0 3) (am_shl 1 p)) : bdR h1 b R J' y := by
  obtain ⟨c1, c2, c3, c4, c5, c6, c7⟩ := c
  obtain ⟨B1, B2, B3, -⟩ := B
  have ev := ev_or (x := h b 2) (p := (p : Int)) ⟨c5, c6⟩ ⟨by omega, by omega⟩
  have e32 : h1 b 2 = am_or (h b 2) (am_shl 1 p) := by rw [B3, up_s]
  refine ⟨fun p' n' hp' hn' => ?_, fun p' n' hp' hn' h48 => ?_, fun p' q k hp' hq hk hno => ?_, ?_, ?_, ?_, fun j hj => ?_⟩
  · obtain ⟨a1, a2, a3⟩ := c1 p' n' hp' hn'
    rw [B2, e1, e2, e8, e32]
    by_cases e : p' = p ∧ n' = n
    · obtain ⟨rfl, rfl⟩ := e
      rw [up_s, up_s, up_s, up_s]
      refine ⟨rfl, fun z hzy => ?_, fun _ => (ev.2.2 p' hp').mpr (Or.inl rfl)⟩
      by_cases u : h (b + 1) (48 * p' + n') < y ∧ y ≤ h (b + 2) (48 * p' + n')
      · rw [B1, if_pos u, if_pos u]
        constructor
        · intro w
          by_cases ez : z = y
          · exact Or.inl ⟨by decide, ez⟩
          · exact Or.inr ⟨by omega, w.2⟩
        · rintro (w | w)
          · exact ⟨by omega, by omega⟩
          · exact ⟨by omega, w.2⟩
      · rw [B1, if_neg u, if_neg u, up_s]
        constructor
        · intro w
          exact Or.inr ⟨by omega, w.2⟩
        · rintro (w | w)
          · exact absurd rfl w.1
          · exact ⟨by omega, w.2⟩
    · have ne : 48 * p' + n' ≠ 48 * p + n := fun z => e ⟨by omega, by omega⟩
      have nb' : nb R p' n' ≠ nb R p n := fun z => e (nb_inj hc hz hn' hn z)
      rw [up_n ne, up_n nb', up_n nb', up_n nb']
      have eB : h1 (b + 1) (48 * p' + n') = h (b + 1) (48 * p' + n') := by
        rw [B1]
        split
        · rfl
        · exact up_n ne
      rw [eB]
      exact ⟨a1, a2, fun w => (ev.2.2 p' hp').mpr (Or.inr (a3 w))⟩
  · rw [B2, up_n (by omega)]
    exact c2 p' n' hp' hn' h48
  · have := c3 p' q k hp' hq hk hno
    have ne : jb p' q k ≠ nb R p n := by
      rw [nb_n hc hz hn, jb_n]
      have a := need_rg hc hz hn
      intro z
      exact hno n hn ⟨by simp only [nA] at *; omega, by simp only [nB] at *; omega⟩
    rw [e2, e8, up_n ne, up_n ne]
    exact this
  · rw [e32, e3, c4]
  · rw [e32]; exact ev.1
  · rw [e32]; exact ev.2.1
  · rw [B1]
    split
    · exact c7 j hj
    · unfold up
      split
      · omega
      · exact c7 j hj
/-- who leaves is bound no more -/
theorem bdR.drop {p n : Nat} (c : bdR h b R J y) (hc : co R (R 1)) (hz : rz R) (h2 : R 2 ≤ 48) (hp : p < 8) (hn : (n : Int) < R 2) (hy : 0 ≤ y) (e : h1 = am_u h (b + 2) (48 * p + n) (-1))
    (e8 : J' 8 = up (J 8) (nb R p n) 0) (e1 : J' 1 = up (J 1) (nb R p n) 0) (e2 : J' 2 = up (J 2) (nb R p n) (-1)) (e3 : J' 0 3 = J 0 3) : bdR h1 b R J' y := by
  obtain ⟨c1, c2, c3, c4, c5, c6, c7⟩ := c
  have B2 : h1 (b + 2) = up (h (b + 2)) (48 * p + n) (-1) := by rw [e, am_u_up]
  have B1 : h1 (b + 1) = h (b + 1) := by rw [e, am_u_n _ _ _ _ _ (by omega)]
  have B0 : h1 b = h b := by rw [e, am_u_n _ _ _ _ _ (by omega)]
  refine ⟨fun p' n' hp' hn' => ?_, fun p' n' hp' hn' h48 => ?_, fun p' q k hp' hq hk hno => ?_, ?_, ?_, ?_, fun j hj => ?_⟩
  · obtain ⟨a1, a2, a3⟩ := c1 p' n' hp' hn'
    rw [B2, B1, B0, e1, e2, e8]
    by_cases e : p' = p ∧ n' = n
    · obtain ⟨rfl, rfl⟩ := e
      rw [up_s, up_s, up_s, up_s]
      refine ⟨rfl, fun z hzy => ⟨fun w => by omega, fun w => ?_⟩, fun w => absurd rfl w⟩
      rcases w with w | w
      · exact absurd rfl w.1
      · omega
    · have ne : 48 * p' + n' ≠ 48 * p + n := fun z => e ⟨by omega, by omega⟩
      have nb' : nb R p' n' ≠ nb R p n := fun z => e (nb_inj hc hz hn' hn z)
      rw [up_n ne, up_n nb', up_n nb', up_n nb']
      exact ⟨a1, a2, a3⟩
  · rw [B2, up_n (by omega)]
    exact c2 p' n' hp' hn' h48
  · have := c3 p' q k hp' hq hk hno
    have ne : jb p' q k ≠ nb R p n := by
      rw [nb_n hc hz hn, jb_n]
      have a := need_rg hc hz hn
      intro z
      exact hno n hn ⟨by simp only [nA] at *; omega, by simp only [nB] at *; omega⟩
    rw [e2, e8, up_n ne, up_n ne]
    exact this
  · rw [B0, e3, c4]
  · rw [B0]; exact c5
  · rw [B0]; exact c6
  · rw [B1]; exact c7 j hj
/-- a year is over -/
theorem bdR.year (c : bdR h b R J y) (hc : co R (R 1)) (hz : rz R) (e1 : J' 1 = J 1) (e2 : J' 2 = J 2) (e3 : J' 0 3 = J 0 3) (e8 : ∀ i, J' 8 i = J 8 i ∨ J' 8 i = 0) (e80 : ∀ p n : Nat, p < 8 → (n : Int) < R 2 → J' 8 (nb R p n) = 0 ∨ J 2 (nb R p n) = -1) (hy : 0 ≤ y) : bdR h b R J' (y + 1) := by
  obtain ⟨c1, c2, c3, c4, c5, c6, c7⟩ := c
  refine ⟨fun p' n' hp' hn' => ?_, c2, fun p' q k hp' hq hk hno => ?_, by rw [e3]; exact c4, c5, c6, fun j hj => by have := c7 j hj; omega⟩
  · obtain ⟨a1, a2, a3⟩ := c1 p' n' hp' hn'
    rw [e1, e2]
    refine ⟨a1, fun z hzy => ?_, a3⟩
    rw [a2 z (by omega)]
    have no1 : ¬ (¬ J 8 (nb R p' n') = 0 ∧ z = y) := fun w => by omega
    have no2 : ¬ (¬ J' 8 (nb R p' n') = 0 ∧ z = y + 1) ∨ J 2 (nb R p' n') = -1 := by
      rcases e80 p' n' hp' hn' with w | w
      · exact Or.inl fun u => u.1 w
      · exact Or.inr w
    rcases no2 with no2 | no2
    · exact ⟨fun w => w.elim (fun u => absurd u no1) Or.inr, fun w => w.elim (fun u => absurd u no2) Or.inr⟩
    · have z8 : J' 8 (nb R p' n') = 0 := by
        have h8 : J 8 (nb R p' n') = 0 := by
          refine Classical.byContradiction fun w => ?_
          have := (a2 y (Int.le_refl _)).mpr (Or.inl ⟨w, rfl⟩)
          omega
        rcases e8 (nb R p' n') with u | u
        · rw [u]; exact h8
        · exact u
      exact ⟨fun w => w.elim (fun u => absurd u no1) Or.inr, fun w => w.elim (fun u => absurd z8 u.1) Or.inr⟩
  · have := c3 p' q k hp' hq hk hno
    rw [e2]
    refine ⟨this.1, ?_⟩
    rcases e8 (jb p' q k) with u | u
    · rw [u]; exact this.2
    · exact u
/-- without bonds -/
theorem bdR.none (hc : co R (R 1)) (hz : rz R) (h2 : R 2 ≤ 48) (e : ∀ j, j < 384 → h (b + 1) j = -1 ∧ h (b + 2) j = -1) (e0 : h b 2 = 0) (e1 : ∀ j, j < 384 → J 1 j = 0 ∧ J 2 j = -1 ∧ J 8 j = 0) (e3 : J 0 3 = 0) (hy : 0 ≤ y) : bdR h b R J y := by
  refine ⟨fun p n hp hn => ?_, fun p n hp hn h48 => (e _ (by omega)).2, fun p q k hp hq hk hno => ?_, by rw [e0, e3], by omega, by omega, fun j hj => by have := (e j hj).1; omega⟩
  · have a := need_rg hc hz hn
    have ei := e (48 * p + n) (by omega)
    have ej := e1 (nb R p n) (by rw [nb_n hc hz hn]; omega)
    rw [ei.1, ei.2, ej.1, ej.2.1, ej.2.2]
    refine ⟨rfl, fun z hzy => ⟨fun w => by omega, fun w => ?_⟩, fun w => absurd rfl w⟩
    rcases w with w | w
    · exact absurd rfl w.1
    · omega
  · have ej := e1 (jb p q k) (by rw [jb_n]; omega)
    exact ⟨ej.2.1, ej.2.2⟩
end

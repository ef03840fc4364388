/-! contracts: the class's book: a year's end, years, lines -/
theorem sm_add {f g : Nat → Int} : ∀ n, sm (fun i => f i + g i) n = sm f n + sm g n
  | 0 => rfl
  | n + 1 => by
    have := sm_add (f := f) (g := g) n
    show sm (fun i => f i + g i) n + (f n + g n) = sm f n + f n + (sm g n + g n)
    omega
theorem sm_cut {t : Nat → Int} {P : Int} (hP : 0 ≤ P ∧ P ≤ 8) : sm (fun i => if (i : Int) < P then t i else 0) 8 = sm t P.toNat := by
  have e8 := sm_more (f := fun i => if (i : Int) < P then t i else 0) (n := P.toNat) (8 - P.toNat) fun q a b => by
    rw [if_neg (by omega)]
  rw [show P.toNat + (8 - P.toNat) = 8 by omega] at e8
  rw [e8]
  exact sm_congr _ fun q hq => by rw [if_pos (by omega)]
/-- bonds of p broken at the end of year y, as the class counts them -/
def cbk (h : am_H) (b p : Nat) (y : Int) (n : Nat) : Int := if (h (b + 6) (48 * p + n) < y ∧ y ≤ h (b + 7) (48 * p + n)) ∧ ¬ h (b + 8) n = p then 1 else 0
theorem cbk_n (h : am_H) (b p : Nat) (y : Int) (n : Nat) : 0 ≤ sm (cbk h b p y) n ∧ sm (cbk h b p y) n ≤ n :=
  sm_01 n fun k _ => by unfold cbk; split <;> omega
section
variable {d : Nat} {Y : am_Y} {h : am_H} {b v : Nat} {R N : Nat → Int} {J : am_H} {i : Nat} {y : Int} {Q : Option am_V → am_H → Prop}
theorem cbk_is (c : bkR h b R J i y) (hV : wV R) {p : Nat} (hp : (p : Int) < R 1) : sm (cbk h b p y) (R 2).toNat = sm (fun q => sm (fun k => brk J p q k) (R 0).toNat) (R 1).toNat := by
  have hz := hV.1.z
  have hz' := hz
  unfold rz at hz'
  have hco := hV.2
  obtain ⟨⟨k1, k2, k3⟩, k4, k5, k6, k7, k8, k9, kA, kB, kC, kD⟩ := c
  subst kB
  rw [need_sum hco hz (fun q k => brk J p q k) (fun q k hq hk hno => by
    have := k9.2.2.1 p q k (by omega) (by omega) (by omega) hno
    unfold brk
    rw [if_neg]
    intro z
    rw [this.1, this.2] at z
    rcases z.1 with w | w
    · exact w rfl
    · omega)]
  refine sm_congr _ fun n hn => ?_
  have a := need_rg hco hz (n := n) (by omega)
  have due := k9.due (p := p) (n := n) (by omega) (by omega) rfl
  have eO : 6 * (R (225 + 2 * n)).toNat + (R (226 + 2 * n)).toNat = nO R n := by
    simp only [nA, nB] at a
    unfold nO
    omega
  have eB : jb (p : Int) ((R (225 + 2 * n)).toNat : Int) ((R (226 + 2 * n)).toNat : Int) = nb R p n := by
    simp only [nA, nB] at a
    unfold nb
    rw [show ((R (225 + 2 * n)).toNat : Int) = R (225 + 2 * n) by omega, show ((R (226 + 2 * n)).toNat : Int) = R (226 + 2 * n) by omega]
  have dn : ¬ h (b + 8) n = p ↔ ¬ hb (J 3 (nO R n)) p := by
    rcases k8.1 n (by omega) with w | w
    · rw [w.1, w.2]
      exact ⟨fun _ => sh_0 ⟨by omega, by omega⟩, fun _ => by omega⟩
    · rw [w.2.2, sh_hb ⟨w.1, w.2.1⟩ ⟨by omega, by omega⟩]
      exact ⟨fun z w => z w.symm, fun z w => z w.symm⟩
  have due' : (h (b + 6) (48 * p + n) < J 0 4 ∧ J 0 4 ≤ h (b + 7) (48 * p + n)) ↔ (¬ J 8 (nb R p n) = 0 ∨ J 1 (nb R p n) ≤ J 0 4 ∧ J 0 4 ≤ J 2 (nb R p n)) := due
  unfold cbk brk
  rw [eO, eB]
  simp only [due', dn]
theorem cbk_no (c : bkR h b R J i y) {p : Nat} (hp : (p : Int) < 8) (he : ¬ hb (h (b + 5) 2) p) : sm (cbk h b p y) (R 2).toNat = 0 := by
  obtain ⟨⟨k1, k2, k3⟩, k4, k5, k6, k7, k8, k9, kA, kB, kC, kD⟩ := c
  refine sm_zero _ fun n hn => ?_
  unfold cbk
  rw [if_neg]
  intro z
  have := (k9.1 p n (by omega) (by omega)).2.2
  exact he (this (by
    have e : h (b + 5 + 2) (48 * p + n) = h (b + 7) (48 * p + n) := rfl
    rw [e]
    omega))
theorem ac_Book_endYear (hY : am_at Y b am_L2) (hYv : am_at Y v am_L9) (hd : v + 11 ≤ b ∨ b + 9 ≤ v) (cv : vR h v (R 1) R N) (hV : wV R) (c : bkR h b R J i y) :
    am_cV am_Book_endYear (d + 3) Y [.inr (.inr b), .inr (.inr v), .inl y] h (fun h1 => (∀ p, p < 8 → h1 (b + 4) p = jEnd R J 6 p) ∧ ∀ q, q ≠ b + 4 → h1 q = h q) := by
  have hz := hV.1.z
  have hz' := hz
  unfold rz at hz'
  have hYb : am_at Y (b + 5) am_L1 := hY.sub 5 rfl
  have h2 := wr_2 hV.1
  have kC := c.2.2.2.2.2.2.2.2.2.1
  have kD := c.2.2.2.2.2.2.2.2.2.2
  have k5 := c.2.2.1
  have ev : h v 2 = R 1 := cv.1.2.1
  have en : h v 3 = R 2 := cv.1.2.2.1
  have eE := (jEnd_is (R := R) (J := J) hz).2.2.1
  refine am_Met.of (by decide) rfl (Nat.le_of_ble_eq_true rfl) (ab_Book_endYear_0 hY hYv ?_)
  have outer : ∀ p : Nat, p ≤ (R 1).toNat → ∀ h1, (∀ j, j < 8 → h1 (b + 4) j = if j < p then jEnd R J 6 j else J 6 j) → (∀ q, q ≠ b + 4 → h1 q = h q) → aw_Book_endYear_2 (d + 3) Y b v y p h1 (am_qV (fun h1 => (∀ p, p < 8 → h1 (b + 4) p = jEnd R J 6 p) ∧ ∀ q, q ≠ b + 4 → h1 q = h q)) := by
    refine am_upN _ (R 1).toNat ?_ ?_
    · intro h1 g4 F
      refine ab_Book_endYear_2 hY hYv ?_
      rw [F v (by omega), ev]
      refine ⟨fun _ => ?_, fun w => by omega⟩
      rw [am_qV_s]
      refine ⟨fun p hp => ?_, F⟩
      rw [g4 p hp]
      by_cases e : p < (R 1).toNat
      · rw [if_pos e]
      · rw [if_neg e, eE p, if_neg (by omega), Int.add_zero]
    · intro p hp ih h1 g4 F
      have tb := cbk_is c hV (p := p) (by omega)
      -- behind the needs of p
      have nxt : ∀ h2, h2 (b + 4) p = J 6 p + sm (cbk h b p y) (R 2).toNat → (∀ j, j ≠ p → h2 (b + 4) j = h1 (b + 4) j) → (∀ q, q ≠ b + 4 → h2 q = h1 q) → aw_Book_endYear_2 (d + 3) Y b v y ((p : Int) + 1) h2 (am_qV (fun h1 => (∀ p, p < 8 → h1 (b + 4) p = jEnd R J 6 p) ∧ ∀ q, q ≠ b + 4 → h1 q = h q)) := by
        intro h2 a1 a2 a3
        refine ih h2 (fun j hj => ?_) (fun q hq => (a3 q hq).trans (F q hq))
        by_cases e : j = p
        · subst e
          rw [a1, if_pos (by omega), eE j, if_pos (by omega), tb]
        · rw [a2 j e, g4 j hj]
          by_cases e2 : j < p
          · rw [if_pos e2, if_pos (by omega)]
          · rw [if_neg e2, if_neg (by omega)]
      have g6 := kC.1 p (by omega)
      have e4 : h1 (b + 4) p = J 6 p := by rw [g4 p (by omega), if_neg (by omega)]
      refine ab_Book_endYear_2 hY hYv ?_
      rw [F v (by omega), ev, F (b + 5) (by omega)]
      refine ⟨fun w => by omega, fun _ => ⟨fun w => ?_, fun w => ?_⟩⟩
      · refine ab_Book_endYear_35 hY hYv ⟨fun _ => ⟨⟨by omega, by omega⟩, nxt h1 ?_ (fun _ _ => rfl) (fun _ _ => rfl)⟩, fun z => absurd rfl z⟩
        rw [e4, cbk_no c (by omega) w, Int.add_zero]
      · have inner : ∀ n : Nat, n ≤ (R 2).toNat → ∀ h2, h2 (b + 4) p = J 6 p + sm (cbk h b p y) n → (∀ j, j ≠ p → h2 (b + 4) j = h1 (b + 4) j) → (∀ q, q ≠ b + 4 → h2 q = h1 q) → aw_Book_endYear_35 (d + 3) Y b v y p 1 n h2 (am_qV (fun h1 => (∀ p, p < 8 → h1 (b + 4) p = jEnd R J 6 p) ∧ ∀ q, q ≠ b + 4 → h1 q = h q)) := by
          refine am_upN _ (R 2).toNat ?_ ?_
          · intro h2 a1 a2 a3
            refine ab_Book_endYear_35 hY hYv ?_
            rw [a3 v (by omega), F v (by omega), en]
            exact ⟨fun z => absurd z (by decide), fun _ => ⟨fun _ => ⟨⟨by omega, by omega⟩, nxt h2 a1 a2 a3⟩, fun z => by omega⟩⟩
          · intro n hn ihn h2 a1 a2 a3
            refine ab_Book_endYear_35 hY hYv ?_
            rw [a3 v (by omega), F v (by omega), en]
            refine ⟨fun z => absurd z (by decide), fun _ => ⟨fun z => by omega, fun _ => isDueK hYb ⟨by omega, by omega⟩ ⟨by omega, by omega⟩ (by omega) ?_⟩⟩
            have E : ∀ q, q ≠ b + 4 → h2 q = h q := fun q hq => (a3 q hq).trans (F q hq)
            rw [E (b + 5 + 1) (by omega), E (b + 5 + 2) (by omega), show ((p : Int) * 48 + (n : Int)).toNat = 48 * p + n by omega]
            have bn := cbk_n h b p y n
            have E8 : h2 (b + 8) = h (b + 8) := E _ (by omega)
            have step : ∀ h3 (x : Int), x = cbk h b p y n → h3 (b + 4) p = h2 (b + 4) p + x → (∀ j, j ≠ p → h3 (b + 4) j = h2 (b + 4) j) → (∀ q, q ≠ b + 4 → h3 q = h2 q) → aw_Book_endYear_35 (d + 3) Y b v y p 1 ((n : Int) + 1) h3 (am_qV (fun h1 => (∀ p, p < 8 → h1 (b + 4) p = jEnd R J 6 p) ∧ ∀ q, q ≠ b + 4 → h1 q = h q)) := by
              intro h3 x ex x1 x2 x3
              refine ihn h3 ?_ (fun j hj => (x2 j hj).trans (a2 j hj)) (fun q hq => (x3 q hq).trans (a3 q hq))
              rw [x1, a1, ex]
              show _ = J 6 p + (sm (cbk h b p y) n + cbk h b p y n)
              omega
            have ec : cbk h b p y n = if (h (b + 5 + 1) (48 * p + n) < y ∧ y ≤ h (b + 5 + 2) (48 * p + n)) ∧ ¬ h (b + 8) n = p then 1 else 0 := rfl
            by_cases u : h (b + 5 + 1) (48 * p + n) < y ∧ y ≤ h (b + 5 + 2) (48 * p + n)
            · rw [if_pos u, E8]
              refine ⟨fun z => absurd z (by decide), fun _ => ⟨⟨by omega, by omega⟩, ?_⟩⟩
              rw [Int.toNat_natCast]
              refine ⟨fun z => ⟨⟨by omega, by omega⟩, step h2 0 ?_ (by omega) (fun _ _ => rfl) (fun _ _ => rfl)⟩, fun z => ⟨⟨by omega, by omega⟩, ?_⟩⟩
              · rw [ec, if_neg (fun w => w.2 z)]
              · rw [Int.toNat_natCast, a1]
                refine ⟨⟨by omega, by omega⟩, ⟨by omega, by omega⟩, fun h3 e3 => ⟨⟨by omega, by omega⟩, step h3 1 ?_ ?_ (fun j hj => ?_) (fun q hq => ?_)⟩⟩
                · rw [ec, if_pos ⟨u, z⟩]
                · rw [e3, am_u_s, a1]
                · rw [e3, am_u_j hj]
                · rw [e3, am_u_n _ _ _ _ q hq]
            · rw [if_neg u]
              refine ⟨fun _ => ⟨⟨by omega, by omega⟩, step h2 0 ?_ (by omega) (fun _ _ => rfl) (fun _ _ => rfl)⟩, fun z => absurd rfl z⟩
              rw [ec, if_neg (fun w => u w.1)]
        exact inner 0 (by omega) h1 (by rw [e4]; simp [sm]) (fun _ _ => rfl) (fun _ _ => rfl)
  exact outer 0 (by omega) h (fun j hj => by rw [if_neg (by omega)]; exact (k5 j hj).2.2) (fun _ _ => rfl)
end

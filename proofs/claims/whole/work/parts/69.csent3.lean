/-! contracts: the class's readers of a sentence: one; all together -/
section
variable {Y : am_Y} {h h0 h1 : am_H} {o : Nat} {P : Int} {F : Nat → Int → Int} {fr : Nat → Prop} {S : SS}
theorem sR0 {k : Nat} (hY : am_at Y o am_L6) (i0 : sT0 Y o P F fr k) (i3 : sT3 Y o P F fr k) : sT0 Y o P F fr (k + 1) := by
  intro w S h D hw hk p hD
  have hYT : am_at Y (o + 1) am_L8 := hY.sub 1 rfl
  have pp := p
  obtain ⟨ht, h4, h1n, lk, te, ok, q0, q20⟩ := pp
  have k0 := ht.hd.1
  have len := fun z : (hd S.2.2).1 < 32 => te.len z
  -- behind what may begin it
  have at65 : ∀ s0 : Int, ((hd S.2.2).1 = 30 ∨ 16 ≤ (hd S.2.2).1 ∧ (hd S.2.2).1 ≤ 23) → (s0 = 0 ∧ ¬ (19 ≤ (hd S.2.2).1 ∧ (hd S.2.2).1 ≤ 23) ∨ s0 = 1 ∧ 19 ≤ (hd S.2.2).1 ∧ (hd S.2.2).1 ≤ 23) → aw_SentenceText_readOne_65 D Y o ((w : Int) + 1) (hd S.2.2).1 s0 h (am_qI (sO h o P F fr (sP (k + 1) 0 (w : Int) 0 S))) := by
    intro s0 ck hs0
    have many : ¬ ¬ (S.2.1 = 20 ∨ (w : Int) = 8) → ∀ h1, fr4 h h1 (o + 1) → h1 (o + 1) 4 = (pq S.2.2 4).1 → h1 (o + 1) 5 = (pq S.2.2 4).2 → sO h o P F fr (sP (k + 1) 0 (w : Int) 0 S) 0 h1 := by
      intro z h1 f1 e4 e5
      refine sO.bad (sfr.t f1) e4 e5 (by omega) ?_
      rw [sP, if_pos rfl, if_neg (by omega), if_pos (by omega)]
    refine ab_SentenceText_readOne_65 hY ⟨fun z => failK (k := 4) hYT ht h4 (by omega) (by rw [if_neg (by omega)]) ?_, fun z => ⟨fun z2 => ⟨⟨by omega, by omega⟩, fun ha ea => ?_⟩, fun z2 => failK (k := 4) hYT ht h4 (by omega) (by rw [if_neg (by omega)]) ?_⟩⟩
    · intro h1 f1 e4 e5 _
      rw [am_qI_s]
      exact many (by omega) h1 f1 e4 e5
    · have sa : sfr h ha o := sfr.u ea
      have ta : TR ha (o + 1) S.2.2 := ht.of4 fun q a b => by rw [ea, am_u_n _ _ _ _ q (by omega)]
      refine advK hYT ta (by omega) ?_
      intro h5 t5 f5 j5
      have s5 : sfr h h5 o := sa.trans (sfr.t f5)
      have ln := len (by omega)
      have g5 : h5 (o + 1) 4 = 0 := by
        rw [j5 4 (by omega) (by omega) (by omega) (by omega), ea, am_u_n _ _ _ _ _ (by omega)]
        exact h4
      have n5 : h5 o 1 = S.2.1 + 1 := by
        rw [f5 o (by omega), ea, am_u_s, h1n]
      have p5 : sPre h5 o P F fr (S.1, S.2.1 + 1, nx S.2.2) := p.nx t5 s5 g5 n5 (by omega)
      have lk5 := lk.of s5
      have cw : ((w : Int) + 1) = ((w + 1 : Nat) : Int) := by omega
      refine ⟨fun n16 => ⟨fun n30 => ⟨fun zs => ⟨fun n17 => ?_, fun c17 => ?_⟩, fun zs => ⟨⟨by omega, by omega⟩, ?_⟩⟩, fun c30 => ⟨⟨by omega, by omega⟩, ?_⟩⟩, fun c16 => ⟨⟨by omega, by omega⟩, ?_⟩⟩
      · -- free
        have ep : sP (k + 1) 0 (w : Int) 0 S = .inr (slay (S.1, S.2.1 + 1, nx S.2.2) (5, 0, 0, 0)) := by
          rw [sP, if_pos rfl, if_neg (by omega), if_neg (by omega), if_neg (by omega), if_neg (by omega), if_neg (by omega), if_pos (by omega)]
        rw [am_qI_s, ep]
        refine ⟨s5, t5, g5, n5, ?_⟩
        refine sBits.leaf ok (sOK_add ok ⟨by decide, by decide⟩ (fun z => absurd z (by decide)) (fun z => absurd z (by decide)) (fun z => absurd z (by decide))) lk5.2.2.2.2.1 (by decide) ?_
        intro p hp
        rw [lk5.2.2.2.2.2 p hp]
        dsimp only
        constructor
        · intro q; exact ⟨q.1, Or.inr (Or.inl ⟨rfl, q.2⟩)⟩
        · rintro ⟨q, q2⟩
          rcases q2 with q2 | q2 | q2
          · exact absurd q2.1 (by decide)
          · exact ⟨q, q2.2⟩
          · exact absurd q2.1 (by decide)
      · -- bound
        have ep : sP (k + 1) 0 (w : Int) 0 S = .inr (slay (S.1, S.2.1 + 1, nx S.2.2) (4, 0, 0, 0)) := by
          rw [sP, if_pos rfl, if_neg (by omega), if_neg (by omega), if_neg (by omega), if_neg (by omega), if_pos (by omega)]
        rw [am_qI_s, ep]
        refine ⟨s5, t5, g5, n5, ?_⟩
        refine sBits.leaf ok (sOK_add ok ⟨by decide, by decide⟩ (fun z => absurd z (by decide)) (fun z => absurd z (by decide)) (fun z => absurd z (by decide))) lk5.2.2.2.1.1 (by decide) ?_
        intro p hp
        rw [lk5.2.2.2.1.2 p hp]
        dsimp only
        constructor
        · intro q; exact ⟨q.1, Or.inl ⟨rfl, q.2⟩⟩
        · rintro ⟨q, q2⟩
          rcases q2 with q2 | q2 | q2
          · exact ⟨q, q2.2⟩
          · exact absurd q2.1 (by decide)
          · exact absurd q2.1 (by decide)
      · -- a figure
        have ep : sP (k + 1) 0 (w : Int) 0 S = sCmp ((hd S.2.2).1 - 19) (S.1, S.2.1 + 1, nx S.2.2) := by
          rw [sP, if_pos rfl, if_neg (by omega), if_neg (by omega), if_neg (by omega), if_neg (by omega), if_neg (by omega), if_neg (by omega)]
        have cf : (hd S.2.2).1 - 19 = (((hd S.2.2).1 - 19).toNat : Int) := by omega
        rw [ep, cf]
        refine am_kI.of (ac_readFigure (d := 0) hY (by omega) lk5 ok t5 g5 n5) (by omega) ?_
        intro x h6 _ _ c
        rw [am_qI_s]
        exact ⟨s5.trans c.1, c.2⟩
      · -- a bracket
        have ep : sP (k + 1) 0 (w : Int) 0 S = pbd (sP k 3 ((w : Int) + 1) 0 (S.1, S.2.1 + 1, nx S.2.2)) fun T => if (hd T.1.2.2).1 = 31 then .inr ((T.1.1, T.1.2.1, nx T.1.2.2), T.2) else pb T.1.2.2 1 := by
          rw [sP, if_pos rfl, if_neg (by omega), if_neg (by omega), if_pos c30]
        rw [ep, cw]
        refine ⟨D - 1, by omega, am_Met.of (by decide) rfl (Nat.le_of_ble_eq_true rfl) (ab_SentenceText_readBracket_0 hY ?_)⟩
        refine am_kI.of (i3 (w + 1) (S.1, S.2.1 + 1, nx S.2.2) h5 (D - 2) (by omega) (by show 6 * (nx S.2.2).length + 3 ≤ k; omega) p5 (by omega)) (by omega) ?_
        intro x h6 _ _ c
        have s6 := s5.trans c.1
        cases e2 : sP k 3 ((w + 1 : Nat) : Int) 0 (S.1, S.2.1 + 1, nx S.2.2) with
        | inl q =>
          rw [e2] at c
          rw [pbd_l rfl]
          have c4 : ¬ h6 (o + 1) 4 = 0 := by rw [c.2.1]; exact c.2.2.2
          refine ⟨fun _ => ?_, fun z => absurd z c4⟩
          rw [am_qI_s, am_qI_s]
          exact ⟨s6, c.2⟩
        | inr T =>
          rw [e2] at c
          rw [pbd_r rfl]
          obtain ⟨-, t6, g6, n6, b6⟩ := c
          refine ⟨fun z => absurd g6 z, fun _ => ?_⟩
          obtain ⟨a, l, er, -⟩ := t6.head
          refine am_kI.of (ac_take (d := 0) hYT t6 er g6) (by omega) ?_
          intro v h7 _ _ c7
          have eh : hd T.1.2.2 = a := by rw [er]; rfl
          rw [am_qI_s, am_qI_s]
          rcases c7 with ⟨a1, -, g7⟩ | ⟨a1, -, g7⟩
          · rw [if_pos (by rw [eh]; exact a1)]
            refine ⟨s6.trans (sfr.t g7.2.1), g7.1, g7.2.2.1.trans g6, ?_, b6⟩
            rw [g7.2.1 o (by omega)]
            exact n6
          · rw [if_neg (by rw [eh]; exact a1)]
            refine ⟨s6.trans (sfr.t g7.2.2), ?_, ?_, pq_ne (by omega)⟩
            · rw [g7.1]
              unfold pq
              dsimp only
              split <;> rfl
            · rw [g7.2.1, t6.hd.2.1]
              rfl
      · -- not
        have ep : sP (k + 1) 0 (w : Int) 0 S = pbd (sP k 0 ((w : Int) + 1) 0 (S.1, S.2.1 + 1, nx S.2.2)) fun T => .inr (slay T.1 (1, T.2, 0, 0)) := by
          rw [sP, if_pos rfl, if_neg (by omega), if_neg (by omega), if_neg (by omega), if_pos c16]
        rw [ep, cw]
        refine ⟨D - 1, by omega, am_Met.of (by decide) rfl (Nat.le_of_ble_eq_true rfl) (ab_SentenceText_readNot_0 hY ?_)⟩
        refine am_kI.of (i0 (w + 1) (S.1, S.2.1 + 1, nx S.2.2) h5 (D - 2) (by omega) (by show 6 * (nx S.2.2).length ≤ k; omega) p5 (by omega)) (by omega) ?_
        intro x h6 _ _ c
        have s6 := s5.trans c.1
        rw [am_qI_s, am_qI_s]
        cases e2 : sP k 0 ((w + 1 : Nat) : Int) 0 (S.1, S.2.1 + 1, nx S.2.2) with
        | inl q =>
          rw [e2] at c
          rw [pbd_l rfl]
          exact ⟨s6, c.2⟩
        | inr T =>
          rw [e2] at c
          rw [pbd_r rfl]
          have i := sP_i k 0 ((w + 1 : Nat) : Int) 0 (S.1, S.2.1 + 1, nx S.2.2) T (by omega) (by show 6 * (nx S.2.2).length + 0 ≤ k; omega) p5.2.2.2.2.1 ok (by show S.2.1 + 1 ≤ 20; omega) (by omega) e2
          obtain ⟨-, t6, g6, n6, b6⟩ := c
          refine ⟨s6, t6, g6, n6, ?_⟩
          rw [lk5.1]
          exact b6.no i.2.1 lk5.2.1 i.2.2.1 i.2.2.2.1
    · intro h1 f1 e4 e5 _
      rw [am_qI_s]
      exact many (by omega) h1 f1 e4 e5
  have at25 : ∀ s0 : Int, (s0 = 0 ∧ ¬ (19 ≤ (hd S.2.2).1 ∧ (hd S.2.2).1 ≤ 23) ∨ s0 = 1 ∧ 19 ≤ (hd S.2.2).1 ∧ (hd S.2.2).1 ≤ 23) → aw_SentenceText_readOne_25 D Y o ((w : Int) + 1) (hd S.2.2).1 s0 h (am_qI (sO h o P F fr (sP (k + 1) 0 (w : Int) 0 S))) := by
    intro s0 hs0
    refine ab_SentenceText_readOne_25 hY ⟨fun c => at65 s0 (by omega) hs0, fun c1 => ⟨fun c => at65 s0 (by omega) hs0, fun c2 => ⟨fun c => at65 s0 (by omega) hs0, fun c3 => ⟨fun c => at65 s0 (by omega) hs0, fun c4 => ⟨fun c => at65 s0 (by omega) hs0, fun c5 => failK (k := 1) hYT ht h4 (by omega) (by split <;> rfl) ?_⟩⟩⟩⟩⟩
    intro h1 f1 e4 e5 _
    rw [am_qI_s]
    refine sO.bad (sfr.t f1) e4 e5 (by omega) ?_
    rw [sP, if_pos rfl, if_pos (by omega)]
  refine am_Met.of (by decide) rfl (Nat.le_of_ble_eq_true rfl) (ab_SentenceText_readOne_0 hY ?_)
  rw [k0]
  exact ⟨fun c => at25 0 (by omega), fun c1 => ⟨fun c => at25 0 (by omega), fun c2 => at25 1 (by omega)⟩⟩
theorem sR {Y : am_Y} {o : Nat} {P : Int} {F : Nat → Int → Int} {fr : Nat → Prop} (hY : am_at Y o am_L6) : ∀ k : Nat, sT0 Y o P F fr k ∧ sT1 Y o P F fr k ∧ sT2 Y o P F fr k ∧ sT3 Y o P F fr k ∧ sT4 Y o P F fr k
  | 0 => by
    refine ⟨fun w S h D hw hk p => ?_, fun w S h D hw hk p => ?_, fun w S h h0 D a B y3 hw hk p => ?_, fun w S h D hw hk p => ?_, fun w S h h0 D a B y3 hw hk p => ?_⟩
    all_goals
      have := p.1.ne
      omega
  | k + 1 => by
    obtain ⟨i0, i1, i2, i3, i4⟩ := sR hY k
    exact ⟨sR0 hY i0 i3, sR1 hY i0 i2, sR2 hY i0 i2, sR3 hY i1 i4, sR4 hY i1 i4⟩
end

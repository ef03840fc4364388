/-! contracts: the reference's sentence, whole; what it says of one -/
/-- nodes, as a row keeps them -/
def sNA (A : Nat → Int) (nl : List LN) : Prop := ∀ (j : Nat) (n : LN), nl[j]? = some n → A (600 + 4 * j) = n.1 ∧ A (600 + 4 * j + 1) = n.2.1 ∧ A (600 + 4 * j + 2) = n.2.2.1 ∧ A (600 + 4 * j + 3) = n.2.2.2
def msF (h h1 : am_H) (m : Nat) : Prop := h1 m 0 = 0 ∧ h1 m 2 = 0 ∧ h1 m 22 = 1 ∧ (∀ q, q ≠ m → q ≠ m + 2 → q ≠ m + 30 → h1 q = h q) ∧ ∀ j, 13 < j → j ≠ 22 → j ≠ 61 → j ≠ 62 → j ≠ 63 → j ≠ 64 → h1 m j = h m j
def msO (h h1 : am_H) (m : Nat) (x : Int) (e : PE (SS × Int)) : Prop := match e with
  | .inl q => x = -1 - q.2 ∧ h1 m 10 = q.1 ∧ h1 (m + 2) = lai h m
  | .inr T => x = T.1.2.1 ∧ h1 m 10 = 0 ∧ h1 (m + 2) 590 = 1 ∧ h1 (m + 2) 591 = T.2 ∧ sNA (h1 (m + 2)) T.1.1 ∧ T.1.1.length ≤ 40 ∧ ∀ i, i ≠ 590 → i ≠ 591 → (i < 600 ∨ 840 ≤ i) → h1 (m + 2) i = lai h m i
section
variable {d : Nat} {Y : am_Y} {h : am_H} {m : Nat} {s : Nat → Int} {n : Nat}
theorem ac_m_sentence (hY : am_at Y m am_L12) (hb : h m 22 = 0 ∨ h m 22 = 1) (h2 : h m 2 = (n : Int)) (hn : n ≤ 940) (hs : su s (h (m + 1)) n) : am_cI am_Md_sentence (d + 41) Y [.inr (.inr m)] h (fun x h1 => msF h h1 m ∧ msO h h1 m x (pSen (lxs s n 200 0))) := by
  refine am_Met.of (by decide) rfl (Nat.le_of_ble_eq_true rfl) (ab_Md_sentence_0 hY (am_kV.of (ac_m_begin (d := 0) (lim := 200) hY hb h2 hn hs) (by omega) ?_))
  rintro h1 - ⟨b0, b2, b10, bc, br, bn, b22, bq, bj⟩
  intro h2' x2 h3 x3 h4 x4
  have s4 : mFs h1 h4 m := ((mFs.u x2 (by omega)).trans (mFs.u x3 (by omega))).trans (mFs.u x4 (by omega))
  have q4 : ∀ q, q ≠ m → h4 q = h1 q := fun q hq => by rw [x4, am_u_n _ _ _ _ q hq, x3, am_u_n _ _ _ _ q hq, x2, am_u_n _ _ _ _ q hq]
  have j4 : ∀ j, j ≠ 61 → j ≠ 62 → j ≠ 63 → h4 m j = h1 m j := fun j a b c => by rw [x4, am_u_j c, x3, am_u_j b, x2, am_u_j a]
  have len : (lxs s n 200 0).length ≤ 1000 := by
    have := lxS_len s n 200 (min n 200 - 0) 0
    unfold lxs
    omega
  have te : tE (lxs s n 200 0) := tE_lxS _ _ _ _ _
  have ok0 : sOK ([] : List LN) := fun i n e => by simp at e
  have p4 : mPre h4 m s n 200 ((0 : Nat) : Int) ([], 0, lxs s n 200 0) := by
    refine ⟨bc.st s4, br.but fun j a b _ _ => j4 j (by omega) (by omega) (by omega), ⟨?_, fun j n e => by simp at e⟩, ?_, ?_, te, ok0, by show (0 : Int) ≤ 0 ∧ (0 : Int) ≤ 20; omega, by show (0 : Int) ≤ 2 * 0; omega⟩
    · rw [x4, am_u_j (by omega), x3, am_u_j (by omega), x2, am_u_s]; rfl
    · rw [x4, am_u_j (by omega), x3, am_u_s]
    · rw [x4, am_u_s]; rfl
  have rd := (mR (s := s) (n := n) (lim := 200) hY 6009).2.2.2.1 0 ([], 0, lxs s n 200 0) h4 40 (by omega) (by show 6 * (lxs s n 200 0).length + 3 ≤ 6009; omega) p4 (by omega)
  have fr : ∀ h9, mFs h4 h9 m → h9 m 0 = 0 ∧ h9 m 2 = 0 ∧ h9 m 22 = 1 ∧ (∀ q, q ≠ m → q ≠ m + 2 → q ≠ m + 30 → h9 q = h q) ∧ (∀ j, 13 < j → j ≠ 22 → j ≠ 61 → j ≠ 62 → j ≠ 63 → j ≠ 64 → h9 m j = h m j) ∧ h9 (m + 2) = lai h m := fun h9 F => ⟨by rw [F.2 0 (by omega), j4 0 (by omega) (by omega) (by omega), b0], by rw [F.2 2 (by omega), j4 2 (by omega) (by omega) (by omega), b2], by rw [F.2 22 (by omega), j4 22 (by omega) (by omega) (by omega), b22], fun q q0 q2 q3 => by rw [F.1 q q0 q3, q4 q q0, bq q q0 q2], fun j a b c e f g => by rw [F.2 j (by omega), j4 j c e f, bj j (by omega) b], by rw [F.1 _ (by omega) (by omega), q4 _ (by omega), bn]⟩
  have c0 : ((0 : Nat) : Int) = 0 := rfl
  refine am_kI.of rd (by omega) ?_
  intro x h5 ok5 _ c
  rw [c0] at c
  unfold pSen
  cases e : sP 6009 3 0 0 ([], 0, lxs s n 200 0) with
  | inl q =>
    rw [e] at c
    rw [pbd_l rfl]
    obtain ⟨F, -, rfl, e10, e11⟩ := c
    have v := fr h5 F
    refine ⟨fun z => absurd rfl z, fun _ => ⟨?_, ?_⟩⟩
    · have hri : am_ri (h5 m 11) := (ok5 m _ (hY 0 _ rfl) 11).1 (by decide)
      unfold am_ri at hri ⊢
      omega
    · rw [am_qI_s]
      exact ⟨⟨v.1, v.2.1, v.2.2.1, v.2.2.2.1, v.2.2.2.2.1⟩, by rw [e11], e10, v.2.2.2.2.2⟩
  | inr T =>
    rw [e] at c
    rw [pbd_r rfl]
    obtain ⟨F, f3, rfl, r5, n5, o5, t5⟩ := c
    have i := sP_i 6009 3 0 0 ([], 0, lxs s n 200 0) T (by omega) (by show 6 * (lxs s n 200 0).length + 3 ≤ 6009; omega) te ok0 (by show (0 : Int) ≤ 20; omega) (by omega) e
    have v := fr h5 F
    have k7 := (mK_7 r5.hd.1).2.2.2.1
    refine ⟨fun _ => ⟨fun z => ?_, fun z => ?_⟩, fun z => absurd z (by decide)⟩
    · intro h7 x7 h8 x8
      rw [if_pos (k7.mp z)]
      have i5 := i.2.2.2.2.1
      have i7 := i.2.2.2.2.2.2.1
      rw [if_neg (by omega)] at i7
      have i7' : 2 * 0 - ((([] : List LN).length : Nat) : Int) + 1 ≤ 2 * T.1.2.1 - T.1.1.length := i7
      have l0 : (([] : List LN).length : Int) = 0 := rfl
      rw [l0] at i7'
      have q8 : ∀ q, q ≠ m + 2 → h8 q = h5 q := fun q hq => by rw [x8, am_u_n _ _ _ _ q hq, x7, am_u_n _ _ _ _ q hq]
      have top8 : h8 (m + 2) 591 = T.2 := by rw [x8, am_u_s, x7, am_u_n _ _ _ _ _ (by omega), t5]
      have has8 : h8 (m + 2) 590 = 1 := by rw [x8, am_u_j (by omega), x7, am_u_s]
      have o8 : ∀ j, j ≠ 590 → j ≠ 591 → h8 (m + 2) j = lai h m j := fun j a b => by rw [x8, am_u_j b, x7, am_u_j a, v.2.2.2.2.2]
      have key : ∀ k : Nat, k ≤ 240 → ∀ h9, (∀ q, q ≠ m + 2 → h9 q = h5 q) → (∀ j, h9 (m + 2) j = if 600 ≤ j ∧ j < 600 + k then h5 (m + 30) (j - 600) else h8 (m + 2) j) → aw_Md_sentence_79 (d + 41) Y m (k : Int) h9 (am_qI (fun x h1 => msF h h1 m ∧ msO h h1 m x (.inr T))) := by
        refine am_upN _ 240 ?_ ?_
        · intro h9 Q9 R9
          refine ab_Md_sentence_79 hY ⟨fun _ => ?_, fun z => by omega⟩
          have m9 : h9 m = h5 m := Q9 m (by omega)
          rw [am_qI_s, m9, o5]
          refine ⟨⟨by rw [m9]; exact v.1, by rw [m9]; exact v.2.1, by rw [m9]; exact v.2.2.1, fun q q0 q2 q3 => by rw [Q9 q q2, v.2.2.2.1 q q0 q2 q3], fun j a b c e f g => by rw [m9]; exact v.2.2.2.2.1 j a b c e f g⟩, rfl, by rw [m9]; exact r5.2, ?_, ?_, fun j nd en => ?_, by omega, fun i i0 i1 hi => ?_⟩
          · rw [R9, if_neg (by omega)]; exact has8
          · rw [R9, if_neg (by omega)]; exact top8
          · have lt := (List.getElem?_eq_some_iff.mp en).1
            have := n5.2 j nd en
            rw [R9, R9, R9, R9, if_pos (by omega), if_pos (by omega), if_pos (by omega), if_pos (by omega), show 600 + 4 * j - 600 = 4 * j by omega, show 600 + 4 * j + 1 - 600 = 4 * j + 1 by omega, show 600 + 4 * j + 2 - 600 = 4 * j + 2 by omega, show 600 + 4 * j + 3 - 600 = 4 * j + 3 by omega]
            exact this
          · rw [R9, if_neg (by omega)]; exact o8 i i0 i1
        · intro k hk ih h9 Q9 R9
          refine ab_Md_sentence_79 hY ⟨fun z => by omega, fun _ => ⟨⟨by omega, by omega⟩, ⟨by omega, by omega⟩, ⟨by omega, by omega⟩, fun h10 x10 => ⟨⟨by omega, by omega⟩, ?_⟩⟩⟩
          rw [Int.toNat_natCast, show (600 + (k : Int)).toNat = 600 + k by omega] at x10
          refine ih h10 (fun q hq => by rw [x10, am_u_n _ _ _ _ q hq, Q9 q hq]) (fun j => ?_)
          rw [x10, am_u_up, Q9 (m + 30) (by omega)]
          unfold up
          by_cases ej : j = 600 + k
          · rw [if_pos ej, if_pos (by omega), ej, show 600 + k - 600 = k by omega]
          · rw [if_neg ej, R9]
            by_cases c2 : 600 ≤ j ∧ j < 600 + k
            · rw [if_pos c2, if_pos (by omega)]
            · rw [if_neg c2, if_neg (by omega)]
      exact key 0 (by omega) h8 q8 (fun j => by rw [if_neg (by omega)])
    · rw [if_neg fun w => z (k7.mpr w)]
      refine am_kI.of (ac_m_bad (d := 0) hY r5.hd.1) (by omega) ?_
      rintro x h9 ok9 - ⟨rfl, b⟩
      have f9 := b.n
      have v9 := fr h9 (F.trans f9.s)
      refine ⟨?_, ?_⟩
      · have hri : am_ri (h9 m 11) := (ok9 m _ (hY 0 _ rfl) 11).1 (by decide)
        unfold am_ri at hri ⊢
        omega
      · rw [am_qI_s]
        refine ⟨⟨v9.1, v9.2.1, v9.2.2.1, v9.2.2.2.1, v9.2.2.2.2.1⟩, ?_, b.1, v9.2.2.2.2.2⟩
        rw [b.2.1, r5.hd.2]
        rfl
end

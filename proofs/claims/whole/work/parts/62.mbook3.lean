/-! contracts: the reference reads a whole book -/
theorem pBks_s {R N : Nat → Int} {n : Nat} {f : Nat → LN} {c : Nat} {y : Int} {r : List TK} (h : ¬ (hd r).1 = 32) : pBks R N (n + 1) f c y r = pbd (pbd (pBLn R N c y r) fun A => pbd (pBkSem A.2) fun r' => .inr (A.1, r')) fun B => pBks R N n (updL f c B.1) (c + 1) (if B.1.1 = 0 then B.1.2.1 else y) B.2 := by
  have e : pBks R N (n + 1) f c y r = pbd (pBLn R N c y r) fun A => pbd (pBkSem A.2) fun r' => pBks R N n (updL f c A.1) (c + 1) (if A.1.1 = 0 then A.1.2.1 else y) r' := if_neg h
  rw [e]
  cases pBLn R N c y r with
  | inl q => rfl
  | inr A =>
    show pbd (pBkSem A.2) _ = pbd (pbd (pBkSem A.2) _) _
    cases pBkSem A.2 <;> rfl
theorem lnT_i {R N : Nat → Int} {c : Nat} {y : Int} {r : List TK} {B : LN × List TK} (e : (pbd (pBLn R N c y r) fun A => pbd (pBkSem A.2) fun r' => (.inr (A.1, r') : PE (LN × List TK))) = .inr B) : ∃ A, pBLn R N c y r = .inr A ∧ A.1 = B.1 ∧ (hd A.2).1 = 26 ∧ B.2 = nx A.2 := by
  cases hA : pBLn R N c y r with
  | inl q => rw [hA] at e; cases e
  | inr A =>
    rw [hA] at e
    have e' : (pbd (pBkSem A.2) fun r' => (.inr (A.1, r') : PE (LN × List TK))) = .inr B := e
    cases hS : pBkSem A.2 with
    | inl q => rw [hS] at e'; cases e'
    | inr r' =>
      rw [hS] at e'
      cases e'
      have := pBkSem_i hS
      exact ⟨A, rfl, rfl, this.1, this.2⟩
section
variable {d : Nat} {Y : am_Y} {h : am_H} {m : Nat} {s : Nat → Int} {n lim : Nat} {r : List TK}
theorem loopM14 {h0 : am_H} {E : PE ((Nat → LN) × Nat)} {Q : Option am_V → am_H → Prop} (hY : am_at Y m am_L12) (hc : MC h0 m s n lim) (hz : rz (h0 (m + 2)))
    (hbad : ∀ h1 (q : Int × Int), E = .inl q → mFb h0 h1 m → h1 m 10 = q.1 → h1 m 11 = q.2 → Q (some (.inl (-1 - q.2))) h1)
    (hend : ∀ h1 (f : Nat → LN) (c : Nat), E = .inr (f, c) → mFb h0 h1 m → h1 m 10 = 0 → h1 m 24 = (c : Int) → c ≤ 60 → (∀ j, j < c → lnM (f j) (lnL (h1 (m + 4)) j)) → aw_Md_book_71 (d + 7) Y m 0 h1 Q) :
    ∀ (k : Nat) (h : am_H) (f : Nat → LN) (c : Nat) (y : Int) (r : List TK), r.length ≤ k → c ≤ 60 → (c = 0 → y = 0) → 0 ≤ y ∧ y ≤ 99 → M0 h m s n lim r → h m 24 = (c : Int) → mFb h0 h m → (∀ j, j < c → lnM (f j) (lnL (h (m + 4)) j)) → E = pBks (h0 (m + 2)) (h0 (m + 6)) k f c y r → aw_Md_book_14 (d + 7) Y m y h Q
  | 0, h, f, c, y, r, hl, _, _, _, hr, _, _, _, _ => by
    obtain ⟨⟨a, l, e, -⟩, -⟩ := hr
    rw [e] at hl
    simp at hl
  | k + 1, h, f, c, y, r, hl, hc60, hcy, hy, hr, hk, F, hM, hE => by
    have h7 := mK_7 hr.hd.1
    have A0 : h (m + 2) = h0 (m + 2) := F.1 _ (by omega) (by omega)
    have N0 : h (m + 6) = h0 (m + 6) := F.1 _ (by omega) (by omega)
    refine ab_Md_book_14 hY ⟨fun z => ?_, fun z => ?_⟩
    · have k32 := h7.2.2.2.1.mp z
      exact hend h f c (by rw [hE]; exact if_pos k32) F hr.2 hk hc60 hM
    · have k32 : ¬ (hd r).1 = 32 := fun w => z (h7.2.2.2.1.mpr w)
      rw [pBks_s k32] at hE
      refine am_kI.of (ac_m_readBookLine (d := d) hY (hc.bk F) hr (by rw [A0]; exact hz) hk hc60 hy) (by omega) ?_
      rintro x h1 ho - ⟨f1, o1⟩
      rw [A0, N0] at o1
      have F1 := F.trans f1
      cases hT : (pbd (pBLn (h0 (m + 2)) (h0 (m + 6)) c y r) fun A => pbd (pBkSem A.2) fun r' => (.inr (A.1, r') : PE (LN × List TK))) with
      | inl q =>
        rw [hT] at o1 hE
        obtain ⟨rfl, o2, o3⟩ := o1
        refine ⟨fun z => absurd rfl z, fun _ => ⟨?_, ?_⟩⟩
        · have hri : am_ri (h1 m 11) := (ho m _ (hY 0 _ rfl) 11).1 (by decide)
          unfold am_ri at hri ⊢
          omega
        · rw [o3]
          exact hbad h1 q hE F1 o2 o3
      | inr B =>
        rw [hT] at o1 hE
        obtain ⟨rfl, k1, r1, lm, lo⟩ := o1
        obtain ⟨A, hA, eA, a26, eB⟩ := lnT_i hT
        have inv := pBLn_i hz hy hcy hc60 hA
        rw [eA] at inv
        have hE' : E = pBks (h0 (m + 2)) (h0 (m + 6)) k (updL f c B.1) (c + 1) (if B.1.1 = 0 then B.1.2.1 else y) B.2 := hE
        have len := MR_len hr inv.2.2.2.1
        have len2 := nx_le A.2
        have nxt : ∀ y' : Int, y' = (if B.1.1 = 0 then B.1.2.1 else y) → aw_Md_book_14 (d + 7) Y m y' h1 Q := by
          intro y' ey
          rw [← ey] at hE'
          have hy' : 0 ≤ y' ∧ y' ≤ 99 := by
            rw [ey]
            by_cases z0 : B.1.1 = 0
            · rw [if_pos z0]
              have := inv.2.1 z0
              omega
            · rw [if_neg z0]
              exact hy
          refine loopM14 hY hc hz hbad hend k h1 (updL f c B.1) (c + 1) y' B.2 (by rw [eB]; omega) (by omega) (fun w => by omega) hy' r1 k1 F1 (fun j hj => ?_) hE'
          by_cases e : j = c
          · subst e
            rw [show updL f j B.1 j = B.1 from if_pos rfl]
            exact lm
          · rw [show updL f c B.1 j = f j from if_neg e]
            have e4 : lnL (h1 (m + 4)) j = lnL (h (m + 4)) j := by
              unfold lnL
              rw [lo _ (by omega), lo _ (by omega), lo _ (by omega), lo _ (by omega)]
            rw [e4]
            exact hM j (by omega)
        have l0 : h1 (m + 4) (4 * c) = B.1.1 := lm.1.symm
        have l1 : h1 (m + 4) (4 * c + 1) = B.1.2.1 := lm.2.1.symm
        rw [k1, show (4 * (((c + 1 : Nat) : Int)) - 4).toNat = 4 * c by omega, show (4 * (((c + 1 : Nat) : Int)) - 3).toNat = 4 * c + 1 by omega, l0, l1]
        refine ⟨fun _ => ⟨⟨by omega, by omega⟩, ⟨by omega, by omega⟩, ⟨by omega, by omega⟩, fun z0 => nxt y (by rw [if_neg z0]), fun z0 => ⟨⟨by omega, by omega⟩, ⟨by omega, by omega⟩, ⟨by omega, by omega⟩, nxt _ (by rw [if_pos z0])⟩⟩, fun z => absurd z (by decide)⟩
def mbF (h h1 : am_H) (m : Nat) : Prop := h1 m 0 = 0 ∧ h1 m 2 = 0 ∧ h1 m 22 = 1 ∧ (∀ q, q ≠ m → q ≠ m + 2 → q ≠ m + 4 → h1 q = h q) ∧ ∀ j, 13 < j → j ≠ 22 → j ≠ 24 → h1 m j = h m j
def mbO (h h1 : am_H) (m : Nat) (x : Int) (e : PE ((Nat → LN) × Nat)) : Prop := match e with
  | .inl q => x = -1 - q.2 ∧ h1 m 10 = q.1 ∧ h1 (m + 2) = lai h m
  | .inr A => x = A.2 ∧ h1 m 10 = 0 ∧ h1 (m + 2) 341 = A.2 ∧ (∀ i, i ≠ 341 → (i < 342 ∨ 582 ≤ i) → h1 (m + 2) i = lai h m i) ∧ A.2 ≤ 60 ∧ ∀ j, j < A.2 → lnM (A.1 j) (lnA (h1 (m + 2)) j)
theorem ac_m_book (hY : am_at Y m am_L12) (hb : h m 22 = 0 ∨ h m 22 = 1) (h2 : h m 2 = (n : Int)) (hn : n ≤ 940) (hs : su s (h (m + 1)) n) (hz : rz (lai h m)) : am_cI am_Md_book (d + 7) Y [.inr (.inr m)] h (fun x h1 => mbF h h1 m ∧ mbO h h1 m x (pBks (lai h m) (h (m + 6)) 1000 (fun _ => (0, 0, 0, 0)) 0 0 (lxs s n 700 0))) := by
  refine am_Met.of (by decide) rfl (Nat.le_of_ble_eq_true rfl) (ab_Md_book_0 hY (am_kV.of (ac_m_begin (d := 0) (lim := 700) hY hb h2 hn hs) (by omega) ?_))
  rintro h1 - ⟨b0, b2, b10, bc, br, bn, b22, bq, bj⟩
  intro h3 x3
  have s3 : ∀ q, q ≠ m → h3 q = h1 q := fun q hq => by rw [x3, am_u_n _ _ _ _ q hq]
  have j3 : ∀ j, j ≠ 24 → h3 m j = h1 m j := fun j hj => by rw [x3, am_u_j hj]
  have f3 : mFb h1 h3 m := mFb.c x3
  have A3 : h3 (m + 2) = lai h m := (s3 _ (by omega)).trans bn
  have N3 : h3 (m + 6) = h (m + 6) := (s3 _ (by omega)).trans (bq _ (by omega) (by omega))
  have len : (lxs s n 700 0).length ≤ 1000 := by
    have := lxS_len s n 700 (min n 700 - 0) 0
    unfold lxs
    omega
  have fr : ∀ h9, mFb h3 h9 m → h9 m 0 = 0 ∧ h9 m 2 = 0 ∧ h9 m 22 = 1 ∧ (∀ q, q ≠ m → q ≠ m + 2 → q ≠ m + 4 → h9 q = h q) ∧ ∀ j, 13 < j → j ≠ 22 → j ≠ 24 → h9 m j = h m j := fun h9 F => ⟨by rw [F.2 0 (by omega), j3 0 (by omega), b0], by rw [F.2 2 (by omega), j3 2 (by omega), b2], by rw [F.2 22 (by omega), j3 22 (by omega), b22], fun q q0 q2 q4 => by rw [F.1 q q0 q4, s3 q q0, bq q q0 q2], fun j a b c => by rw [F.2 j (by omega), j3 j c, bj j (by omega) b]⟩
  refine loopM14 (h0 := h3) (E := pBks (lai h m) (h (m + 6)) 1000 (fun _ => (0, 0, 0, 0)) 0 0 (lxs s n 700 0)) (d := d) hY (bc.bk f3) (by rw [A3]; exact hz) ?_ ?_ 1000 h3 (fun _ => (0, 0, 0, 0)) 0 0 (lxs s n 700 0) len (by omega) (fun _ => rfl) (by omega) (br.but fun j a b _ _ => j3 j (by omega)) (by rw [x3, am_u_s]; rfl) ⟨fun _ _ _ => rfl, fun _ _ => rfl⟩ (fun j hj => by omega) (by rw [A3, N3])
  · intro h9 q hE F o10 o11
    rw [am_qI_s, hE]
    exact ⟨fr h9 F, rfl, o10, (F.1 _ (by omega) (by omega)).trans A3⟩
  · intro h9 f c hE F o10 k24 hc60 hM
    have v := fr h9 F
    have A9 : h9 (m + 2) = lai h m := (F.1 _ (by omega) (by omega)).trans A3
    have key : ∀ i : Nat, i ≤ 4 * c → ∀ h8, (∀ q, q ≠ m + 2 → h8 q = h9 q) → (∀ j, h8 (m + 2) j = if 342 ≤ j ∧ j < 342 + i then h9 (m + 4) (j - 342) else lai h m j) → aw_Md_book_71 (d + 7) Y m i h8 (am_qI (fun x h1 => mbF h h1 m ∧ mbO h h1 m x (pBks (lai h m) (h (m + 6)) 1000 (fun _ => (0, 0, 0, 0)) 0 0 (lxs s n 700 0)))) := by
      refine am_upN _ (4 * c) ?_ ?_
      · intro h8 G8 R8
        have k8 : h8 m 24 = c := by rw [G8 m (by omega)]; exact k24
        refine ab_Md_book_71 hY ?_
        rw [k8]
        refine ⟨⟨by omega, by omega⟩, fun _ h6 x6 => ?_, fun w => by omega⟩
        rw [am_qI_s, hE]
        have s6 : ∀ q, q ≠ m + 2 → h6 q = h9 q := fun q hq => by rw [x6, am_u_n _ _ _ _ q hq, G8 q hq]
        have m6 : h6 m = h9 m := s6 m (by omega)
        refine ⟨⟨by rw [m6]; exact v.1, by rw [m6]; exact v.2.1, by rw [m6]; exact v.2.2.1, fun q q0 q2 q4 => by rw [s6 q q2, v.2.2.2.1 q q0 q2 q4], fun j a b c => by rw [m6]; exact v.2.2.2.2 j a b c⟩, by rw [m6]; exact k24, by rw [m6]; exact o10, by rw [x6, am_u_s], fun i i1 hi => ?_, hc60, fun j hj => ?_⟩
        · rw [x6, am_u_j i1, R8, if_neg (by omega)]
        · have e : ∀ a, 342 ≤ a → a < 342 + 4 * c → h6 (m + 2) a = h9 (m + 4) (a - 342) := fun a a1 a2 => by rw [x6, am_u_j (by omega), R8, if_pos ⟨a1, a2⟩]
          have eln : lnA (h6 (m + 2)) j = lnL (h9 (m + 4)) j := by
            unfold lnA lnL
            rw [e _ (by omega) (by omega), e _ (by omega) (by omega), e _ (by omega) (by omega), e _ (by omega) (by omega), show 342 + 4 * j - 342 = 4 * j by omega, show 343 + 4 * j - 342 = 4 * j + 1 by omega, show 344 + 4 * j - 342 = 4 * j + 2 by omega, show 345 + 4 * j - 342 = 4 * j + 3 by omega]
          rw [eln]
          exact hM j hj
      · intro i hi ih h8 G8 R8
        have k8 : h8 m 24 = c := by rw [G8 m (by omega)]; exact k24
        refine ab_Md_book_71 hY ?_
        rw [k8, Int.toNat_natCast, show (342 + (i : Int)).toNat = 342 + i by omega]
        refine ⟨⟨by omega, by omega⟩, fun w => by omega, fun _ => ⟨⟨by omega, by omega⟩, ⟨by omega, by omega⟩, ⟨by omega, by omega⟩, fun h6 x6 => ⟨⟨by omega, by omega⟩, ih h6 (fun q hq => by rw [x6, am_u_n _ _ _ _ q hq, G8 q hq]) (fun j => ?_)⟩⟩⟩
        rw [x6, am_u_up, G8 (m + 4) (by omega)]
        unfold up
        by_cases e : j = 342 + i
        · rw [if_pos e, if_pos (by omega), e, show 342 + i - 342 = i by omega]
        · rw [if_neg e, R8]
          by_cases c2 : 342 ≤ j ∧ j < 342 + i
          · rw [if_pos c2, if_pos (by omega)]
          · rw [if_neg c2, if_neg (by omega)]
    exact key 0 (by omega) h9 (fun _ _ => rfl) (fun j => by rw [if_neg (by omega), A9])
end

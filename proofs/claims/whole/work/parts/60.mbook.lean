/-! contracts: the reference's reader of a book's line -/
def mFb (h h1 : am_H) (m : Nat) : Prop := (∀ q, q ≠ m → q ≠ m + 4 → h1 q = h q) ∧ ∀ j, j < 5 ∨ 13 < j ∧ j ≠ 24 → h1 m j = h m j
theorem mFb.trans {h h1 h2 : am_H} {m : Nat} (a : mFb h h1 m) (b : mFb h1 h2 m) : mFb h h2 m := ⟨fun q q0 q4 => (b.1 q q0 q4).trans (a.1 q q0 q4), fun j hj => (b.2 j hj).trans (a.2 j hj)⟩
theorem mFn.bk {h h1 : am_H} {m : Nat} (a : mFn h h1 m) : mFb h h1 m := ⟨fun q q0 _ => a.1 q q0, fun j hj => a.2 j (by omega)⟩
theorem mFb.l {h h1 : am_H} {m j : Nat} {x : Int} (e : h1 = am_u h (m + 4) j x) : mFb h h1 m := by
  subst e
  exact ⟨fun q _ h4 => am_u_n _ _ _ _ q h4, fun j hj => am_u_o (by omega)⟩
theorem mFb.c {h h1 : am_H} {m : Nat} {x : Int} (e : h1 = am_u h m 24 x) : mFb h h1 m := by
  subst e
  exact ⟨fun q h0 _ => am_u_n _ _ _ _ q h0, fun j hj => am_u_j (by omega)⟩
theorem mW9 {k : Int} (h : 9 ≤ k ∧ k ≤ 23) : ((mW.getD k.toNat 23 : Nat) : Int) = k := by
  have t : ∀ i : Nat, i < 24 → 9 ≤ i → mW.getD i 23 = i := by decide
  rw [t k.toNat (by omega) (by omega)]
  omega
/-- a line as it is kept, and as it is told -/
def lnM (a b : LN) : Prop := a.1 = b.1 ∧ a.2.1 = b.2.1 ∧ (¬ a.1 = 0 → a.2.2 = b.2.2)
def lnL (L : Nat → Int) (i : Nat) : LN := (L (4 * i), L (4 * i + 1), L (4 * i + 2), L (4 * i + 3))
section
variable {d : Nat} {Y : am_Y} {h : am_H} {m : Nat} {s : Nat → Int} {n lim : Nat} {r : List TK}
theorem MC.bk {h1 : am_H} (c : MC h m s n lim) (f : mFb h h1 m) : MC h1 m s n lim := by
  obtain ⟨c1, c2, c3, c4⟩ := c
  refine ⟨(f.2 3 (by omega)).trans c1, (f.2 4 (by omega)).trans c2, c3, ?_⟩
  rw [f.1 (m + 1) (by omega) (by omega)]
  exact c4
theorem ac_m_named {x k : Int} (hY : am_at Y m am_L12) (hr : M0 h m s n lim r) (hx : 0 ≤ x ∧ 0 ≤ k ∧ x + k ≤ 14) : am_cI am_Md_named (d + 3) Y [.inr (.inr m), .inl x, .inl k] h (fun y h1 => h1 = h ∧ y = if (hd r).1 = 24 then fnd (h (m + 6)) (hd r).2.2 x.toNat k.toNat else -2) := by
  refine am_Met.of (by decide) rfl (Nat.le_of_ble_eq_true rfl) (ab_Md_named_0 hY (nameK hY hr (by omega) ?_))
  by_cases c : (hd r).1 = 24
  · rw [if_pos c]
    refine ⟨fun _ => ?_, fun z => absurd z (by decide)⟩
    have ew : h m 12 = (hd r).2.2 := (hr.hd.1.2.2.1 (by omega)).2.1
    rw [if_pos c]
    refine am_up (fun i => 0 ≤ i → (∀ j : Nat, (j : Int) < i → h (m + 6) (x.toNat + j) ≠ (hd r).2.2) → am_wp am_Md_named (d + 3) Y 12 [some (.inr (.inr m)), some (.inl x), some (.inl k), some (.inl i)] [] h (am_qI _)) k ?_ ?_ 0 (by omega) (fun j hj => by omega)
    · intro i hi i0 hn
      refine ab_Md_named_12 hY ⟨fun _ => ?_, fun w => by omega⟩
      rw [am_qI_s]
      exact ⟨rfl, ((fnd_no _ _ _ _).mpr fun j hj => hn j (by omega)).symm⟩
    · intro i hi ih i0 hn
      have ei : (x + i).toNat = x.toNat + i.toNat := by omega
      have nx' : h (m + 6) (x.toNat + i.toNat) ≠ (hd r).2.2 → ∀ j : Nat, (j : Int) < i + 1 → h (m + 6) (x.toNat + j) ≠ (hd r).2.2 := fun hne j hj => by
        by_cases e : (j : Int) = i
        · rw [show j = i.toNat by omega]; exact hne
        · exact hn j (by omega)
      refine ab_Md_named_12 hY ⟨fun w => by omega, fun _ => ⟨⟨by omega, by omega⟩, ⟨by omega, by omega⟩, ?_⟩⟩
      rw [ei, ew]
      refine ⟨fun w => ⟨⟨by omega, by omega⟩, ih (by omega) (nx' (by omega))⟩, fun w => ?_, fun w => ⟨⟨by omega, by omega⟩, ih (by omega) (nx' (by omega))⟩⟩
      rw [am_qI_s]
      refine ⟨rfl, ?_⟩
      have := fnd_is (h (m + 6)) (hd r).2.2 x.toNat k.toNat i.toNat (by omega) w (fun j hj => hn j (by omega))
      rw [this]
      omega
  · rw [if_neg c]
    refine ⟨fun z => absurd rfl z, fun _ => ?_⟩
    rw [am_qI_s, if_neg c]
    exact ⟨rfl, rfl⟩
theorem namedK {x k : Int} {K : Int → am_H → Prop} (hY : am_at Y m am_L12) (hr : M0 h m s n lim r) (hx : 0 ≤ x ∧ 0 ≤ k ∧ x + k ≤ 14) (hd2 : 3 < d) (hK : K (if (hd r).1 = 24 then fnd (h (m + 6)) (hd r).2.2 x.toNat k.toNat else -2) h) : am_kI am_Md_named d Y [.inr (.inr m), .inl x, .inl k] h K :=
  am_kI.of (ac_m_named (d := 0) hY hr hx) hd2 (by rintro x h1 - - ⟨rfl, rfl⟩; exact hK)
theorem readNamedK {x k bar : Int} {K : Int → am_H → Prop} (hY : am_at Y m am_L12) (hc : MC h m s n lim) (hr : M0 h m s n lim r) (hx : 0 ≤ x ∧ 0 ≤ k ∧ x + k ≤ 14) (hd2 : 4 < d)
    (hK : ∀ y h1, mFn h h1 m → ro h1 m y (pbd (pAt r (fnd (h (m + 6)) (hd r).2.2 x.toNat k.toNat)) fun a => if a = bar then pb r 3 else .inr a) (fun a => h1 m 13 = a ∧ M0 h1 m s n lim (nx r)) → K y h1) : am_kI am_Md_readNamed d Y [.inr (.inr m), .inl x, .inl k, .inl bar] h K := by
  refine ⟨4, hd2, am_Met.of (by decide) rfl (Nat.le_of_ble_eq_true rfl) (ab_Md_readNamed_0 hY (namedK hY hr hx (by omega) ?_))⟩
  have hf := fnd_rg (h (m + 6)) (hd r).2.2 x.toNat k.toNat
  unfold pAt at hK
  by_cases c : (hd r).1 = 24
  · rw [if_pos c] at hK ⊢
    generalize fnd (h (m + 6)) (hd r).2.2 x.toNat k.toNat = i at hf hK ⊢
    refine ⟨fun w => ?_, fun w => ⟨fun w2 h3 e3 => ?_, fun w2 => ?_⟩⟩
    · rw [if_pos w] at hK
      refine ab_Md_readNamed_19 hY ⟨fun _ => badK hY hr (by omega) ?_, fun z => by omega⟩
      intro h1 f1 e10 e11
      exact hK 0 h1 f1 ⟨rfl, e10, e11⟩
    · rw [if_neg (by omega)] at hK
      refine goK (s := s) (n := n) (lim := lim) (r := r) hY ?_ ?_ (by omega) ?_
      · rw [e3]; exact hc.fr mFn.u.r
      · rw [e3]; exact hr.but fun j _ _ _ _ => am_u_j (by omega)
      · intro h4 f4 g4 r4
        rw [am_qI_s]
        refine hK 1 h4 (by rw [e3] at f4; exact mFn.u.trans f4) ?_
        show ro h4 m 1 (if i = bar then pb r 3 else .inr i) _
        rw [if_neg w2]
        refine ⟨rfl, ?_, r4⟩
        rw [g4 13 (by omega), e3, am_u_s]
    · rw [if_neg (by omega)] at hK
      refine ab_Md_readNamed_19 hY ⟨fun _ => badK hY hr (by omega) ?_, fun z => by omega⟩
      intro h1 f1 e10 e11
      refine hK 0 h1 f1 ?_
      show ro h1 m 0 (if i = bar then pb r 3 else .inr i) _
      rw [if_pos w2]
      exact ⟨rfl, e10, e11⟩
  · rw [if_neg c] at hK ⊢
    refine ⟨fun w => ab_Md_readNamed_19 hY ⟨fun z => absurd rfl z, fun _ => badK hY hr (by omega) ?_⟩, fun w => by omega⟩
    intro h1 f1 e10 e11
    exact hK 0 h1 f1 ⟨rfl, e10, e11⟩
/-- what the reader of a line leaves -/
def mBO (h : am_H) (m : Nat) (s : Nat → Int) (n lim : Nat) (c : Nat) (e : PE (LN × List TK)) (x : Int) (h1 : am_H) : Prop := mFb h h1 m ∧ ro h1 m x (pbd e fun A => pbd (pBkSem A.2) fun r' => .inr (A.1, r')) (fun B => h1 m 24 = ((c + 1 : Nat) : Int) ∧ M0 h1 m s n lim B.2 ∧ lnM B.1 (lnL (h1 (m + 4)) c) ∧ ∀ i, i < 4 * c → h1 (m + 4) i = h (m + 4) i)
/-- the end of a line, once it is counted -/
theorem lineEnd {h0 : am_H} {c : Nat} {e : PE (LN × List TK)} {A : LN × List TK} (hY : am_at Y m am_L12) (hc : MC h0 m s n lim) (F : mFb h0 h m) (hr : M0 h m s n lim A.2) (hk : h m 24 = ((c + 1 : Nat) : Int)) (hl : lnM A.1 (lnL (h (m + 4)) c)) (hL : ∀ i, i < 4 * c → h (m + 4) i = h0 (m + 4) i) (he : e = .inr A) (hd2 : 2 < d) : am_kI am_Md_readEnd d Y [.inr (.inr m)] h (fun v h1 => (v = 0 ∨ v = 1) ∧ am_qI (mBO h0 m s n lim c e) (some (.inl v)) h1) := by
  refine am_kI.of (ac_m_readEnd (d := 0) hY (hc.bk F) hr) hd2 ?_
  rintro x h1 - - ⟨f1, o1⟩
  rw [am_qI_s, he]
  have F1 := F.trans f1.bk
  by_cases c26 : (hd A.2).1 = 26
  · rw [if_pos c26] at o1
    obtain ⟨rfl, r1⟩ := o1
    have ep : (pbd (Sum.inr A : PE (LN × List TK)) fun A => pbd (pBkSem A.2) fun r' => (.inr (A.1, r') : PE (LN × List TK))) = .inr (A.1, nx A.2) := by
      show pbd (pBkSem A.2) _ = _
      unfold pBkSem
      rw [if_pos c26]
      rfl
    refine ⟨Or.inr rfl, F1, ?_⟩
    rw [ep]
    have e4 : h1 (m + 4) = h (m + 4) := f1.1 _ (by omega)
    exact ⟨rfl, (f1.2 24 (by omega)).trans hk, r1, by rw [e4]; exact hl, fun i hi => by rw [e4]; exact hL i hi⟩
  · rw [if_neg c26] at o1
    obtain ⟨rfl, e10, e11⟩ := o1
    have ep : (pbd (Sum.inr A : PE (LN × List TK)) fun A => pbd (pBkSem A.2) fun r' => (.inr (A.1, r') : PE (LN × List TK))) = pb A.2 1 := by
      show pbd (pBkSem A.2) _ = _
      unfold pBkSem
      rw [if_neg c26]
      rfl
    refine ⟨Or.inl rfl, F1, ?_⟩
    rw [ep]
    exact ⟨rfl, e10, e11⟩
theorem mBO.bad {h1 : am_H} {c : Nat} {e : PE (LN × List TK)} {k : Int} {q : List TK} (F : mFb h h1 m) (e10 : h1 m 10 = (pq q k).1) (e11 : h1 m 11 = (pq q k).2) (he : e = pb q k) : mBO h m s n lim c e 0 h1 := by
  subst he
  exact ⟨F, rfl, e10, e11⟩
end

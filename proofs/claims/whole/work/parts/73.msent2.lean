/-! contracts: the reference's readers of a sentence, one within the other -/
def mPre (h : am_H) (m : Nat) (s : Nat → Int) (n lim : Nat) (w : Int) (S : SS) : Prop := MC h m s n lim ∧ M0 h m s n lim S.2.2 ∧ mNd h m S.1 ∧ h m 62 = S.2.1 ∧ h m 63 = w ∧ tE S.2.2 ∧ sOK S.1 ∧ (0 ≤ S.2.1 ∧ S.2.1 ≤ 20) ∧ (S.1.length : Int) ≤ 2 * S.2.1
def mT0 (Y : am_Y) (m : Nat) (s : Nat → Int) (n lim k : Nat) : Prop := ∀ (w : Nat) (S : SS) (h : am_H) (D : Nat), w ≤ 8 → 6 * S.2.2.length ≤ k → mPre h m s n lim w S → 4 * (8 - w) + 6 ≤ D → am_cI am_Md_readOne D Y [.inr (.inr m)] h (mSO h m s n lim w (sP k 0 (w : Int) 0 S))
def mT1 (Y : am_Y) (m : Nat) (s : Nat → Int) (n lim k : Nat) : Prop := ∀ (w : Nat) (S : SS) (h : am_H) (D : Nat), w ≤ 8 → 6 * S.2.2.length + 1 ≤ k → mPre h m s n lim w S → 4 * (8 - w) + 7 ≤ D → am_cI am_Md_readAnd D Y [.inr (.inr m)] h (mSO h m s n lim w (sP k 1 (w : Int) 0 S))
def mT2 (Y : am_Y) (m : Nat) (s : Nat → Int) (n lim k : Nat) : Prop := ∀ (w : Nat) (S : SS) (h h0 : am_H) (D : Nat) (a : Int), w ≤ 8 → 6 * S.2.2.length + 2 ≤ k → mPre h m s n lim w S → mFs h0 h m → 0 ≤ a → a < S.1.length → 4 * (8 - w) + 7 ≤ D → aw_Md_readAnd_14 D Y m a h (am_qI (mSO h0 m s n lim w (sP k 2 (w : Int) a S)))
def mT3 (Y : am_Y) (m : Nat) (s : Nat → Int) (n lim k : Nat) : Prop := ∀ (w : Nat) (S : SS) (h : am_H) (D : Nat), w ≤ 8 → 6 * S.2.2.length + 3 ≤ k → mPre h m s n lim w S → 4 * (8 - w) + 8 ≤ D → am_cI am_Md_readOr D Y [.inr (.inr m)] h (mSO h m s n lim w (sP k 3 (w : Int) 0 S))
def mT4 (Y : am_Y) (m : Nat) (s : Nat → Int) (n lim k : Nat) : Prop := ∀ (w : Nat) (S : SS) (h h0 : am_H) (D : Nat) (a : Int), w ≤ 8 → 6 * S.2.2.length + 4 ≤ k → mPre h m s n lim w S → mFs h0 h m → 0 ≤ a → a < S.1.length → 4 * (8 - w) + 8 ≤ D → aw_Md_readOr_14 D Y m a h (am_qI (mSO h0 m s n lim w (sP k 4 (w : Int) a S)))
section
variable {Y : am_Y} {h h0 h1 : am_H} {m : Nat} {s : Nat → Int} {n lim : Nat} {S : SS}
/-- from what has been read on -/
theorem mPre.on {t : Nat} {T : SS × Int} {w x : Int} (c : MC h m s n lim) (p : mSO h m s n lim w (.inr T) x h1) (i : sPo t S T) (h0 : 0 ≤ S.2.1) (hl : (S.1.length : Int) ≤ 2 * S.2.1) : mPre h1 m s n lim w T.1 := by
  obtain ⟨f, f3, -, r1, n1, o1, -⟩ := p
  obtain ⟨-, i2, -, -, i5, i6, i7, -, i9⟩ := i
  refine ⟨c.st f, r1, n1, o1, f3, i9, i2, ⟨by omega, i5⟩, ?_⟩
  split at i7 <;> omega
theorem mPre.nx {w : Int} (p : mPre h m s n lim w S) (r1 : M0 h1 m s n lim (nx S.2.2)) (f : mFn h h1 m) : mPre h1 m s n lim w (S.1, S.2.1, nx S.2.2) :=
  ⟨p.1.st f.s, r1, p.2.2.1.fn f, (f.2 62 (by omega)).trans p.2.2.2.1, (f.2 63 (by omega)).trans p.2.2.2.2.1, p.2.2.2.2.2.1.n1, p.2.2.2.2.2.2⟩
theorem mR1 {k : Nat} (hY : am_at Y m am_L12) (i0 : mT0 Y m s n lim k) (i2 : mT2 Y m s n lim k) : mT1 Y m s n lim (k + 1) := by
  intro w S h D hw hk p hD
  have ep : sP (k + 1) 1 (w : Int) 0 S = pbd (sP k 0 (w : Int) 0 S) fun T => sP k 2 (w : Int) T.2 T.1 := by
    rw [sP, if_neg (by omega), if_pos rfl]
  rw [ep]
  refine am_Met.of (by decide) rfl (Nat.le_of_ble_eq_true rfl) (ab_Md_readAnd_0 hY ?_)
  refine am_kI.of (i0 w S h (D - 1) hw (by omega) p (by omega)) (by omega) ?_
  intro x h1 _ _ c
  obtain ⟨hc, hr, nd, h62, h63, te, ok, q0, ql⟩ := p
  cases e : sP k 0 (w : Int) 0 S with
  | inl q =>
    rw [e] at c
    rw [pbd_l rfl]
    obtain ⟨f, f3, rfl, e10, e11⟩ := c
    refine ⟨fun z => absurd rfl z, fun _ => ?_⟩
    rw [am_qI_s]
    exact ⟨f, f3, rfl, e10, e11⟩
  | inr T =>
    rw [e] at c
    rw [pbd_r rfl]
    have i := sP_i k 0 (w : Int) 0 S T (by omega) (by omega) te ok q0.2 (by omega) e
    have pn := mPre.on hc c i q0.1 ql
    obtain ⟨f, f3, rfl, r1, n1, o1, t1⟩ := c
    refine ⟨fun _ => ?_, fun z => absurd z (by decide)⟩
    rw [t1]
    exact i2 w T.1 h1 h D T.2 hw (by have := i.2.2.2.2.2.2.2.1; rw [if_neg (by omega)] at this; omega) pn f i.2.2.1 i.2.2.2.1 hD
theorem mR3 {k : Nat} (hY : am_at Y m am_L12) (i1 : mT1 Y m s n lim k) (i4 : mT4 Y m s n lim k) : mT3 Y m s n lim (k + 1) := by
  intro w S h D hw hk p hD
  have ep : sP (k + 1) 3 (w : Int) 0 S = pbd (sP k 1 (w : Int) 0 S) fun T => sP k 4 (w : Int) T.2 T.1 := by
    rw [sP, if_neg (by omega), if_neg (by omega), if_neg (by omega), if_pos rfl]
  rw [ep]
  refine am_Met.of (by decide) rfl (Nat.le_of_ble_eq_true rfl) (ab_Md_readOr_0 hY ?_)
  refine am_kI.of (i1 w S h (D - 1) hw (by omega) p (by omega)) (by omega) ?_
  intro x h1 _ _ c
  obtain ⟨hc, hr, nd, h62, h63, te, ok, q0, ql⟩ := p
  cases e : sP k 1 (w : Int) 0 S with
  | inl q =>
    rw [e] at c
    rw [pbd_l rfl]
    obtain ⟨f, f3, rfl, e10, e11⟩ := c
    refine ⟨fun z => absurd rfl z, fun _ => ?_⟩
    rw [am_qI_s]
    exact ⟨f, f3, rfl, e10, e11⟩
  | inr T =>
    rw [e] at c
    rw [pbd_r rfl]
    have i := sP_i k 1 (w : Int) 0 S T (by omega) (by omega) te ok q0.2 (by omega) e
    have pn := mPre.on hc c i q0.1 ql
    obtain ⟨f, f3, rfl, r1, n1, o1, t1⟩ := c
    refine ⟨fun _ => ?_, fun z => absurd z (by decide)⟩
    rw [t1]
    exact i4 w T.1 h1 h D T.2 hw (by have := i.2.2.2.2.2.2.2.1; rw [if_neg (by omega)] at this; omega) pn f i.2.2.1 i.2.2.2.1 hD
theorem mR2 {k : Nat} (hY : am_at Y m am_L12) (i0 : mT0 Y m s n lim k) (i2 : mT2 Y m s n lim k) : mT2 Y m s n lim (k + 1) := by
  intro w S h h0 D a hw hk p F a0 a1 hD
  have pp := p
  obtain ⟨hc, hr, nd, h62, h63, te, ok, q0, ql⟩ := pp
  refine ab_Md_readAnd_14 hY (wordSK (k := 15) hY hr (by omega) (by omega) ?_)
  by_cases c15 : (hd S.2.2).1 = 15
  · have ep : sP (k + 1) 2 (w : Int) a S = pbd (sP k 0 (w : Int) 0 (S.1, S.2.1, nx S.2.2)) fun T => sP k 2 (w : Int) (slay T.1 (2, a, T.2, 0)).2 (slay T.1 (2, a, T.2, 0)).1 := by
      rw [sP, if_neg (by omega), if_neg (by omega), if_pos rfl, if_pos c15]
    rw [ep, if_pos (by exact c15)]
    refine ⟨fun z => absurd z (by decide), fun _ => goK hY hc hr (by omega) ?_⟩
    intro h2 f2 g2 r2
    have len := te.len (by omega)
    have p2 := p.nx r2 f2
    refine am_kI.of (i0 w (S.1, S.2.1, nx S.2.2) h2 (D - 1) hw (by show 6 * (nx S.2.2).length ≤ k; omega) p2 (by omega)) (by omega) ?_
    intro x h3 _ _ c
    cases e2 : sP k 0 (w : Int) 0 (S.1, S.2.1, nx S.2.2) with
    | inl q =>
      rw [e2] at c
      rw [pbd_l rfl]
      obtain ⟨f, f3, rfl, e10, e11⟩ := c
      refine ⟨fun z => absurd rfl z, fun _ => ?_⟩
      rw [am_qI_s]
      exact ⟨(F.trans f2.s).trans f, f3, rfl, e10, e11⟩
    | inr T =>
      rw [e2] at c
      rw [pbd_r rfl]
      have i := sP_i k 0 (w : Int) 0 (S.1, S.2.1, nx S.2.2) T (by omega) (by show 6 * (nx S.2.2).length + 0 ≤ k; omega) te.n1 ok q0.2 (by omega) e2
      have pn := mPre.on p2.1 c i q0.1 ql
      obtain ⟨f, f3, rfl, r3, n3, o3, t3⟩ := c
      obtain ⟨⟨l, j1⟩, j2', j3, j4, j5, j6, j7, j8, j9⟩ := i
      rw [if_neg (by omega)] at j7 j8
      dsimp only at j1 j6 j7 j8
      have jl : (S.1.length : Int) ≤ T.1.1.length := by rw [j1, List.length_append]; omega
      refine ⟨fun _ => ?_, fun z => absurd z (by decide)⟩
      rw [t3]
      refine laysK hY n3 (by omega) (by omega) ?_
      intro h4 n4 q4 u4
      obtain ⟨m1, m2, m3, m4, m5, m6, m7, m8, m9⟩ := pn
      have f4 : mFs h3 h4 m := ⟨q4, fun j hj => u4 j (by omega)⟩
      exact i2 w (slay T.1 (2, a, T.2, 0)).1 h4 h0 D (T.1.1.length : Int) hw (by show 6 * T.1.2.2.length + 2 ≤ k; omega) ⟨m1.st f4, m2.but fun j a b _ _ => u4 j (by omega), n4, (u4 62 (by omega)).trans m4, (u4 63 (by omega)).trans m5, m6, sOK_two j2' (by omega) a0 (by omega) j3 j4, m8, by rw [slay_len]; show _ ≤ 2 * T.1.2.1; omega⟩ (((F.trans f2.s).trans f).trans f4) (by omega) (by rw [slay_len]; omega) hD
  · have ep : sP (k + 1) 2 (w : Int) a S = .inr (S, a) := by
      rw [sP, if_neg (by omega), if_neg (by omega), if_pos rfl, if_neg c15]
    rw [ep, if_neg (by exact c15)]
    refine ⟨fun _ h3 e3 => ?_, fun z => absurd rfl z⟩
    rw [am_qI_s]
    have j3 : ∀ j, j ≠ 64 → h3 m j = h m j := fun j hj => by rw [e3, am_u_j hj]
    exact ⟨F.trans (mFs.u e3 (by omega)), (j3 63 (by omega)).trans h63, rfl, hr.but fun j a b _ _ => j3 j (by omega), nd.of (j3 61 (by omega)) (by rw [e3, am_u_n _ _ _ _ _ (by omega)]), (j3 62 (by omega)).trans h62, by rw [e3, am_u_s]⟩
theorem mR4 {k : Nat} (hY : am_at Y m am_L12) (i1 : mT1 Y m s n lim k) (i4 : mT4 Y m s n lim k) : mT4 Y m s n lim (k + 1) := by
  intro w S h h0 D a hw hk p F a0 a1 hD
  have pp := p
  obtain ⟨hc, hr, nd, h62, h63, te, ok, q0, ql⟩ := pp
  refine ab_Md_readOr_14 hY (wordSK (k := 14) hY hr (by omega) (by omega) ?_)
  by_cases c14 : (hd S.2.2).1 = 14
  · have ep : sP (k + 1) 4 (w : Int) a S = pbd (sP k 1 (w : Int) 0 (S.1, S.2.1, nx S.2.2)) fun T => sP k 4 (w : Int) (slay T.1 (3, a, T.2, 0)).2 (slay T.1 (3, a, T.2, 0)).1 := by
      rw [sP, if_neg (by omega), if_neg (by omega), if_neg (by omega), if_neg (by omega), if_pos c14]
    rw [ep, if_pos (by exact c14)]
    refine ⟨fun z => absurd z (by decide), fun _ => goK hY hc hr (by omega) ?_⟩
    intro h2 f2 g2 r2
    have len := te.len (by omega)
    have p2 := p.nx r2 f2
    refine am_kI.of (i1 w (S.1, S.2.1, nx S.2.2) h2 (D - 1) hw (by show 6 * (nx S.2.2).length + 1 ≤ k; omega) p2 (by omega)) (by omega) ?_
    intro x h3 _ _ c
    cases e2 : sP k 1 (w : Int) 0 (S.1, S.2.1, nx S.2.2) with
    | inl q =>
      rw [e2] at c
      rw [pbd_l rfl]
      obtain ⟨f, f3, rfl, e10, e11⟩ := c
      refine ⟨fun z => absurd rfl z, fun _ => ?_⟩
      rw [am_qI_s]
      exact ⟨(F.trans f2.s).trans f, f3, rfl, e10, e11⟩
    | inr T =>
      rw [e2] at c
      rw [pbd_r rfl]
      have i := sP_i k 1 (w : Int) 0 (S.1, S.2.1, nx S.2.2) T (by omega) (by show 6 * (nx S.2.2).length + 1 ≤ k; omega) te.n1 ok q0.2 (by omega) e2
      have pn := mPre.on p2.1 c i q0.1 ql
      obtain ⟨f, f3, rfl, r3, n3, o3, t3⟩ := c
      obtain ⟨⟨l, j1⟩, j2', j3, j4, j5, j6, j7, j8, j9⟩ := i
      rw [if_neg (by omega)] at j7 j8
      dsimp only at j1 j6 j7 j8
      have jl : (S.1.length : Int) ≤ T.1.1.length := by rw [j1, List.length_append]; omega
      refine ⟨fun _ => ?_, fun z => absurd z (by decide)⟩
      rw [t3]
      refine laysK hY n3 (by omega) (by omega) ?_
      intro h4 n4 q4 u4
      obtain ⟨m1, m2, m3, m4, m5, m6, m7, m8, m9⟩ := pn
      have f4 : mFs h3 h4 m := ⟨q4, fun j hj => u4 j (by omega)⟩
      exact i4 w (slay T.1 (3, a, T.2, 0)).1 h4 h0 D (T.1.1.length : Int) hw (by show 6 * T.1.2.2.length + 4 ≤ k; omega) ⟨m1.st f4, m2.but fun j a b _ _ => u4 j (by omega), n4, (u4 62 (by omega)).trans m4, (u4 63 (by omega)).trans m5, m6, sOK_two j2' (by omega) a0 (by omega) j3 j4, m8, by rw [slay_len]; show _ ≤ 2 * T.1.2.1; omega⟩ (((F.trans f2.s).trans f).trans f4) (by omega) (by rw [slay_len]; omega) hD
  · have ep : sP (k + 1) 4 (w : Int) a S = .inr (S, a) := by
      rw [sP, if_neg (by omega), if_neg (by omega), if_neg (by omega), if_neg (by omega), if_neg c14]
    rw [ep, if_neg (by exact c14)]
    refine ⟨fun _ h3 e3 => ?_, fun z => absurd rfl z⟩
    rw [am_qI_s]
    have j3 : ∀ j, j ≠ 64 → h3 m j = h m j := fun j hj => by rw [e3, am_u_j hj]
    exact ⟨F.trans (mFs.u e3 (by omega)), (j3 63 (by omega)).trans h63, rfl, hr.but fun j a b _ _ => j3 j (by omega), nd.of (j3 61 (by omega)) (by rw [e3, am_u_n _ _ _ _ _ (by omega)]), (j3 62 (by omega)).trans h62, by rw [e3, am_u_s]⟩
end

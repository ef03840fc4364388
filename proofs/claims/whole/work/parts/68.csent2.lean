/-! contracts: the class's readers of a sentence, one within the other -/
theorem pbd_l {α β : Type} {e : PE α} {f : α → PE β} {q : Int × Int} (h : e = .inl q) : pbd e f = .inl q := by rw [h]; rfl
theorem pbd_r {α β : Type} {e : PE α} {f : α → PE β} {a : α} (h : e = .inr a) : pbd e f = f a := by rw [h]; rfl
def sPre (h : am_H) (o : Nat) (P : Int) (F : Nat → Int → Int) (fr : Nat → Prop) (S : SS) : Prop :=
  TR h (o + 1) S.2.2 ∧ h (o + 1) 4 = 0 ∧ h o 1 = S.2.1 ∧ sLk h o P F fr ∧ tE S.2.2 ∧ sOK S.1 ∧ 0 ≤ S.2.1 ∧ S.2.1 ≤ 20
def sT0 (Y : am_Y) (o : Nat) (P : Int) (F : Nat → Int → Int) (fr : Nat → Prop) (k : Nat) : Prop := ∀ (w : Nat) (S : SS) (h : am_H) (D : Nat), w ≤ 8 → 6 * S.2.2.length ≤ k → sPre h o P F fr S → 4 * (8 - w) + 6 ≤ D → am_cI am_SentenceText_readOne D Y [.inr (.inr o), .inl ((w : Int) + 1)] h (sO h o P F fr (sP k 0 (w : Int) 0 S))
def sT1 (Y : am_Y) (o : Nat) (P : Int) (F : Nat → Int → Int) (fr : Nat → Prop) (k : Nat) : Prop := ∀ (w : Nat) (S : SS) (h : am_H) (D : Nat), w ≤ 8 → 6 * S.2.2.length + 1 ≤ k → sPre h o P F fr S → 4 * (8 - w) + 7 ≤ D → am_cI am_SentenceText_readAnds D Y [.inr (.inr o), .inl ((w : Int) + 1)] h (sO h o P F fr (sP k 1 (w : Int) 0 S))
def sT2 (Y : am_Y) (o : Nat) (P : Int) (F : Nat → Int → Int) (fr : Nat → Prop) (k : Nat) : Prop := ∀ (w : Nat) (S : SS) (h h0 : am_H) (D : Nat) (a B y3 : Int), w ≤ 8 → 6 * S.2.2.length + 2 ≤ k → sPre h o P F fr S → sfr h0 h o → 0 ≤ a → a < S.1.length → sBits B P F fr S.1 a → 0 ≤ y3 → y3 + 1 ≤ S.2.1 → 4 * (8 - w) + 7 ≤ D → aw_SentenceText_readAnds_8 D Y o ((w : Int) + 1) B y3 h (am_qI (sO h0 o P F fr (sP k 2 (w : Int) a S)))
def sT3 (Y : am_Y) (o : Nat) (P : Int) (F : Nat → Int → Int) (fr : Nat → Prop) (k : Nat) : Prop := ∀ (w : Nat) (S : SS) (h : am_H) (D : Nat), w ≤ 8 → 6 * S.2.2.length + 3 ≤ k → sPre h o P F fr S → 4 * (8 - w) + 8 ≤ D → am_cI am_SentenceText_readCond D Y [.inr (.inr o), .inl ((w : Int) + 1)] h (sO h o P F fr (sP k 3 (w : Int) 0 S))
def sT4 (Y : am_Y) (o : Nat) (P : Int) (F : Nat → Int → Int) (fr : Nat → Prop) (k : Nat) : Prop := ∀ (w : Nat) (S : SS) (h h0 : am_H) (D : Nat) (a B y3 : Int), w ≤ 8 → 6 * S.2.2.length + 4 ≤ k → sPre h o P F fr S → sfr h0 h o → 0 ≤ a → a < S.1.length → sBits B P F fr S.1 a → 0 ≤ y3 → y3 + 1 ≤ S.2.1 → 4 * (8 - w) + 8 ≤ D → aw_SentenceText_readCond_8 D Y o ((w : Int) + 1) B y3 h (am_qI (sO h0 o P F fr (sP k 4 (w : Int) a S)))
section
variable {Y : am_Y} {h h0 h1 : am_H} {o : Nat} {P : Int} {F : Nat → Int → Int} {fr : Nat → Prop} {S : SS}
theorem goesOnK {D : Nat} {x : Int} {K : Int → am_H → Prop} (hY : am_at Y o am_L6) (hD : 0 < D) (hK : ∀ v, v = (if h (o + 1) 4 = 0 ∧ h (o + 1) 0 = x then 1 else 0) → K v h) : am_kI am_SentenceText_goesOn D Y [.inr (.inr o), .inl x] h K := by
  refine ⟨0, hD, am_Met.of (by decide) rfl (Nat.le_of_ble_eq_true rfl) (ab_SentenceText_goesOn_0 hY ⟨fun c => ?_, fun c => ⟨fun z => ?_, fun z => ?_⟩⟩)⟩
  all_goals rw [am_qI_s]
  · exact hK 0 (by rw [if_neg fun w => c w.1])
  · exact hK 0 (by rw [if_neg fun w => z w.2])
  · exact hK 1 (by rw [if_pos ⟨c, z⟩])
/-- a fault told, all goes back -/
theorem andsBad {D : Nat} {w B y3 : Int} {q : Int × Int} (hY : am_at Y o am_L6) (hD : 0 < D) (s : sfr h0 h o) (g4 : h (o + 1) 4 = q.1) (g5 : h (o + 1) 5 = q.2) (hq : q.1 ≠ 0) : aw_SentenceText_readAnds_8 D Y o w B y3 h (am_qI (sO h0 o P F fr (.inl q))) := by
  refine ab_SentenceText_readAnds_8 hY ⟨fun _ => ?_, fun _ => goesOnK hY hD fun v e => ?_⟩
  · rw [am_qI_s]; exact ⟨s, g4, g5, hq⟩
  · rw [if_neg (by omega)] at e
    refine ⟨fun _ => ?_, fun z => absurd e z⟩
    rw [am_qI_s]; exact ⟨s, g4, g5, hq⟩
theorem condBad {D : Nat} {w B y3 : Int} {q : Int × Int} (hY : am_at Y o am_L6) (hD : 0 < D) (s : sfr h0 h o) (g4 : h (o + 1) 4 = q.1) (g5 : h (o + 1) 5 = q.2) (hq : q.1 ≠ 0) : aw_SentenceText_readCond_8 D Y o w B y3 h (am_qI (sO h0 o P F fr (.inl q))) := by
  refine ab_SentenceText_readCond_8 hY ⟨fun _ => ?_, fun _ => goesOnK hY hD fun v e => ?_⟩
  · rw [am_qI_s]; exact ⟨s, g4, g5, hq⟩
  · rw [if_neg (by omega)] at e
    refine ⟨fun _ => ?_, fun z => absurd e z⟩
    rw [am_qI_s]; exact ⟨s, g4, g5, hq⟩
/-- from what has been read on -/
theorem sPre.on {t : Nat} {T : SS × Int} {x : Int} (l : sLk h o P F fr) (p : sO h o P F fr (.inr T) x h1) (i : sPo t S T) (h0 : 0 ≤ S.2.1) : sPre h1 o P F fr T.1 := by
  obtain ⟨s, t1, g1, n1, -⟩ := p
  obtain ⟨-, i2, -, -, i5, i6, -, -, i9⟩ := i
  exact ⟨t1, g1, n1, l.of s, i9, i2, by omega, i5⟩
/-- a token on -/
theorem sPre.nx {n : Int} (p : sPre h o P F fr S) (t : TR h1 (o + 1) (nx S.2.2)) (s : sfr h h1 o) (g : h1 (o + 1) 4 = 0) (hn : h1 o 1 = n) (n0 : 0 ≤ n ∧ n ≤ 20) : sPre h1 o P F fr (S.1, n, nx S.2.2) :=
  ⟨t, g, hn, p.2.2.2.1.of s, p.2.2.2.2.1.n1, p.2.2.2.2.2.1, n0⟩
theorem sR1 {k : Nat} (hY : am_at Y o am_L6) (i0 : sT0 Y o P F fr k) (i2 : sT2 Y o P F fr k) : sT1 Y o P F fr (k + 1) := by
  intro w S h D hw hk p hD
  have ep : sP (k + 1) 1 (w : Int) 0 S = pbd (sP k 0 (w : Int) 0 S) fun T => sP k 2 (w : Int) T.2 T.1 := by
    rw [sP, if_neg (by omega), if_pos rfl]
  rw [ep]
  refine am_Met.of (by decide) rfl (Nat.le_of_ble_eq_true rfl) (ab_SentenceText_readAnds_0 hY ?_)
  refine am_kI.of (i0 w S h (D - 1) hw (by omega) p (by omega)) (by omega) ?_
  intro x h1 _ _ c
  cases e : sP k 0 (w : Int) 0 S with
  | inl q =>
    rw [e] at c
    rw [pbd_l rfl]
    exact andsBad hY (by omega) c.1 c.2.1 c.2.2.1 c.2.2.2
  | inr T =>
    rw [e] at c
    rw [pbd_r rfl]
    have i := sP_i k 0 (w : Int) 0 S T (by omega) (by omega) p.2.2.2.2.1 p.2.2.2.2.2.1 p.2.2.2.2.2.2.2 (by omega) e
    have ip := i
    obtain ⟨⟨l, j1⟩, j2, j3, j4, j5, j6, j7, j8, j9⟩ := i
    rw [if_neg (by omega)] at j7 j8
    have jl : (S.1.length : Int) ≤ T.1.1.length := by rw [j1, List.length_append]; omega
    have q0 := p.2.2.2.2.2.2.1
    exact i2 w T.1 h1 h D T.2 x 0 hw (by omega) (sPre.on p.2.2.2.1 c ip q0) c.1 j3 j4 c.2.2.2.2 (by omega) (by omega) hD
theorem sR3 {k : Nat} (hY : am_at Y o am_L6) (i1 : sT1 Y o P F fr k) (i4 : sT4 Y o P F fr k) : sT3 Y o P F fr (k + 1) := by
  intro w S h D hw hk p hD
  have ep : sP (k + 1) 3 (w : Int) 0 S = pbd (sP k 1 (w : Int) 0 S) fun T => sP k 4 (w : Int) T.2 T.1 := by
    rw [sP, if_neg (by omega), if_neg (by omega), if_neg (by omega), if_pos rfl]
  rw [ep]
  refine am_Met.of (by decide) rfl (Nat.le_of_ble_eq_true rfl) (ab_SentenceText_readCond_0 hY ?_)
  refine am_kI.of (i1 w S h (D - 1) hw (by omega) p (by omega)) (by omega) ?_
  intro x h1 _ _ c
  cases e : sP k 1 (w : Int) 0 S with
  | inl q =>
    rw [e] at c
    rw [pbd_l rfl]
    exact condBad hY (by omega) c.1 c.2.1 c.2.2.1 c.2.2.2
  | inr T =>
    rw [e] at c
    rw [pbd_r rfl]
    have i := sP_i k 1 (w : Int) 0 S T (by omega) (by omega) p.2.2.2.2.1 p.2.2.2.2.2.1 p.2.2.2.2.2.2.2 (by omega) e
    have ip := i
    obtain ⟨⟨l, j1⟩, j2, j3, j4, j5, j6, j7, j8, j9⟩ := i
    rw [if_neg (by omega)] at j7 j8
    have jl : (S.1.length : Int) ≤ T.1.1.length := by rw [j1, List.length_append]; omega
    have q0 := p.2.2.2.2.2.2.1
    exact i4 w T.1 h1 h D T.2 x 0 hw (by omega) (sPre.on p.2.2.2.1 c ip q0) c.1 j3 j4 c.2.2.2.2 (by omega) (by omega) hD
theorem sR2 {k : Nat} (hY : am_at Y o am_L6) (i0 : sT0 Y o P F fr k) (i2 : sT2 Y o P F fr k) : sT2 Y o P F fr (k + 1) := by
  intro w S h h0 D a B y3 hw hk p s a0 a1 b y0 y1 hD
  have hYT : am_at Y (o + 1) am_L8 := hY.sub 1 rfl
  have pp := p
  obtain ⟨ht, h4, h1n, lk, te, ok, q0, q20⟩ := pp
  refine ab_SentenceText_readAnds_8 hY ⟨fun z => by omega, fun _ => goesOnK hY (by omega) fun v e => ?_⟩
  rw [h4, ht.hd.1] at e
  by_cases c15 : (hd S.2.2).1 = 15
  · have ep : sP (k + 1) 2 (w : Int) a S = pbd (sP k 0 (w : Int) 0 (S.1, S.2.1, nx S.2.2)) fun T => sP k 2 (w : Int) (slay T.1 (2, a, T.2, 0)).2 (slay T.1 (2, a, T.2, 0)).1 := by
      rw [sP, if_neg (by omega), if_neg (by omega), if_pos rfl, if_pos c15]
    rw [ep]
    rw [if_pos ⟨rfl, c15⟩] at e
    refine ⟨fun z => by omega, fun _ => advK hYT ht (by omega) ?_⟩
    intro h2 t2 f2 j2
    have len := te.len (by omega)
    have p2 : sPre h2 o P F fr (S.1, S.2.1, nx S.2.2) := p.nx t2 (sfr.t f2) ((j2 4 (by omega) (by omega) (by omega) (by omega)).trans h4) (by rw [f2 o (by omega)]; exact h1n) ⟨q0, q20⟩
    refine am_kI.of (i0 w (S.1, S.2.1, nx S.2.2) h2 (D - 1) hw (by show 6 * (nx S.2.2).length ≤ k; omega) p2 (by omega)) (by omega) ?_
    intro x h3 _ _ c
    refine ⟨⟨by omega, by omega⟩, ?_⟩
    have s3 : sfr h0 h3 o := (s.trans (sfr.t f2)).trans c.1
    cases e2 : sP k 0 (w : Int) 0 (S.1, S.2.1, nx S.2.2) with
    | inl q =>
      rw [e2] at c
      rw [pbd_l rfl]
      exact andsBad hY (by omega) s3 c.2.1 c.2.2.1 c.2.2.2
    | inr T =>
      rw [e2] at c
      rw [pbd_r rfl]
      have i := sP_i k 0 (w : Int) 0 (S.1, S.2.1, nx S.2.2) T (by omega) (by show 6 * (nx S.2.2).length + 0 ≤ k; omega) p2.2.2.2.2.1 ok q20 (by omega) e2
      have pn := sPre.on p2.2.2.2.1 c i q0
      obtain ⟨⟨l, j1⟩, j2', j3, j4, j5, j6, j7, j8, j9⟩ := i
      rw [if_neg (by omega)] at j7 j8
      dsimp only at j1 j6 j7 j8
      have jl : (S.1.length : Int) ≤ T.1.1.length := by rw [j1, List.length_append]; omega
      have okS : sOK (S.1 ++ l) := by rw [← j1]; exact j2'
      have b' : sBits B P F fr T.1.1 a := by rw [j1]; exact b.pre ok okS a0 a1
      have bn := b'.an c.2.2.2.2 j2' a0 (by omega) j3 j4
      obtain ⟨n1, n2, n3, n4, n5, n6, n7, n8⟩ := pn
      exact i2 w (slay T.1 (2, a, T.2, 0)).1 h3 h0 D _ _ (y3 + 1) hw (by show 6 * T.1.2.2.length + 2 ≤ k; omega) ⟨n1, n2, n3, n4, n5, sOK_two j2' (by omega) a0 (by omega) j3 j4, n7, n8⟩ s3 (by show (0 : Int) ≤ (T.1.1.length : Int); omega) (by rw [slay_len]; show (T.1.1.length : Int) < _; omega) bn (by omega) (by show y3 + 1 + 1 ≤ T.1.2.1; omega) hD
  · have ep : sP (k + 1) 2 (w : Int) a S = .inr (S, a) := by
      rw [sP, if_neg (by omega), if_neg (by omega), if_pos rfl, if_neg c15]
    rw [ep]
    rw [if_neg fun z => c15 z.2] at e
    refine ⟨fun _ => ?_, fun z => absurd e z⟩
    rw [am_qI_s]
    exact ⟨s, ht, h4, h1n, b⟩
theorem sR4 {k : Nat} (hY : am_at Y o am_L6) (i1 : sT1 Y o P F fr k) (i4 : sT4 Y o P F fr k) : sT4 Y o P F fr (k + 1) := by
  intro w S h h0 D a B y3 hw hk p s a0 a1 b y0 y1 hD
  have hYT : am_at Y (o + 1) am_L8 := hY.sub 1 rfl
  have pp := p
  obtain ⟨ht, h4, h1n, lk, te, ok, q0, q20⟩ := pp
  refine ab_SentenceText_readCond_8 hY ⟨fun z => by omega, fun _ => goesOnK hY (by omega) fun v e => ?_⟩
  rw [h4, ht.hd.1] at e
  by_cases c14 : (hd S.2.2).1 = 14
  · have ep : sP (k + 1) 4 (w : Int) a S = pbd (sP k 1 (w : Int) 0 (S.1, S.2.1, nx S.2.2)) fun T => sP k 4 (w : Int) (slay T.1 (3, a, T.2, 0)).2 (slay T.1 (3, a, T.2, 0)).1 := by
      rw [sP, if_neg (by omega), if_neg (by omega), if_neg (by omega), if_neg (by omega), if_pos c14]
    rw [ep]
    rw [if_pos ⟨rfl, c14⟩] at e
    refine ⟨fun z => by omega, fun _ => advK hYT ht (by omega) ?_⟩
    intro h2 t2 f2 j2
    have len := te.len (by omega)
    have p2 : sPre h2 o P F fr (S.1, S.2.1, nx S.2.2) := p.nx t2 (sfr.t f2) ((j2 4 (by omega) (by omega) (by omega) (by omega)).trans h4) (by rw [f2 o (by omega)]; exact h1n) ⟨q0, q20⟩
    refine am_kI.of (i1 w (S.1, S.2.1, nx S.2.2) h2 (D - 1) hw (by show 6 * (nx S.2.2).length + 1 ≤ k; omega) p2 (by omega)) (by omega) ?_
    intro x h3 _ _ c
    refine ⟨⟨by omega, by omega⟩, ?_⟩
    have s3 : sfr h0 h3 o := (s.trans (sfr.t f2)).trans c.1
    cases e2 : sP k 1 (w : Int) 0 (S.1, S.2.1, nx S.2.2) with
    | inl q =>
      rw [e2] at c
      rw [pbd_l rfl]
      exact condBad hY (by omega) s3 c.2.1 c.2.2.1 c.2.2.2
    | inr T =>
      rw [e2] at c
      rw [pbd_r rfl]
      have i := sP_i k 1 (w : Int) 0 (S.1, S.2.1, nx S.2.2) T (by omega) (by show 6 * (nx S.2.2).length + 1 ≤ k; omega) p2.2.2.2.2.1 ok q20 (by omega) e2
      have pn := sPre.on p2.2.2.2.1 c i q0
      obtain ⟨⟨l, j1⟩, j2', j3, j4, j5, j6, j7, j8, j9⟩ := i
      rw [if_neg (by omega)] at j7 j8
      dsimp only at j1 j6 j7 j8
      have jl : (S.1.length : Int) ≤ T.1.1.length := by rw [j1, List.length_append]; omega
      have okS : sOK (S.1 ++ l) := by rw [← j1]; exact j2'
      have b' : sBits B P F fr T.1.1 a := by rw [j1]; exact b.pre ok okS a0 a1
      have bn := b'.or c.2.2.2.2 j2' a0 (by omega) j3 j4
      obtain ⟨n1, n2, n3, n4, n5, n6, n7, n8⟩ := pn
      exact i4 w (slay T.1 (3, a, T.2, 0)).1 h3 h0 D _ _ (y3 + 1) hw (by show 6 * T.1.2.2.length + 4 ≤ k; omega) ⟨n1, n2, n3, n4, n5, sOK_two j2' (by omega) a0 (by omega) j3 j4, n7, n8⟩ s3 (by show (0 : Int) ≤ (T.1.1.length : Int); omega) (by rw [slay_len]; show (T.1.1.length : Int) < _; omega) bn (by omega) (by show y3 + 1 + 1 ≤ T.1.2.1; omega) hD
  · have ep : sP (k + 1) 4 (w : Int) a S = .inr (S, a) := by
      rw [sP, if_neg (by omega), if_neg (by omega), if_neg (by omega), if_neg (by omega), if_neg c14]
    rw [ep]
    rw [if_neg fun z => c14 z.2] at e
    refine ⟨fun _ => ?_, fun z => absurd e z⟩
    rw [am_qI_s]
    exact ⟨s, ht, h4, h1n, b⟩
end

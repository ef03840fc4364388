/-! contracts: the reference's tokens; its tape is object m + 1, signs 0 to 255 -/
def su (s u : Nat → Int) (n : Nat) : Prop := ∀ i, i < n → 0 ≤ u i ∧ u i < 256 ∧ (u i < 128 → s i = u i) ∧ (128 ≤ u i → s i = u i - 256)
def mK (h : am_H) (m : Nat) (a : Int × Int × Int) : Prop :=
  0 ≤ a.1 ∧ a.1 ≤ 33 ∧ (a.1 ≤ 24 → h m 7 = 2 ∧ h m 12 = a.2.2 ∧ a.1 = lxk a.2.2) ∧ (a.1 = 25 → h m 7 = 3 ∧ h m 8 = a.2.2) ∧ (26 ≤ a.1 → a.1 ≤ 31 → h m 7 = 4 ∧ lxg (h m 9) = a.1) ∧ (a.1 = 32 → h m 7 = 0) ∧ (a.1 = 33 → h m 7 = 1)
/-- what is left of the tokens -/
def MR (h : am_H) (m : Nat) (s : Nat → Int) (n lim : Nat) (r : List (Int × Int × Int)) : Prop := ∃ a l, r = a :: l ∧ mK h m a ∧ h m 6 = a.2.1 ∧ ∃ p : Nat, h m 5 = (p : Int) ∧ p ≤ n ∧ lxs s n lim p = nx r
def mgo (h h1 : am_H) (m : Nat) : Prop := (∀ q, q ≠ m → h1 q = h q) ∧ ∀ j, j ≠ 5 → j ≠ 6 → j ≠ 7 → j ≠ 8 → j ≠ 9 → j ≠ 12 → h1 m j = h m j
theorem mgo.trans {h h1 h2 : am_H} {m : Nat} (a : mgo h h1 m) (b : mgo h1 h2 m) : mgo h h2 m := ⟨fun q hq => (b.1 q hq).trans (a.1 q hq), fun j j5 j6 j7 j8 j9 j12 => (b.2 j j5 j6 j7 j8 j9 j12).trans (a.2 j j5 j6 j7 j8 j9 j12)⟩
theorem mgo.u {h : am_H} {m j : Nat} {x : Int} (hj : j = 5 ∨ j = 6 ∨ j = 7 ∨ j = 8 ∨ j = 9 ∨ j = 12) : mgo h (am_u h m j x) m := ⟨fun q hq => am_u_n _ _ _ _ q hq, fun i j5 j6 j7 j8 j9 j12 => am_u_j (by omega)⟩
theorem mgo.refl {h : am_H} {m : Nat} : mgo h h m := ⟨fun _ _ => rfl, fun _ _ _ _ _ _ _ => rfl⟩
theorem lxs_blank2 (s : Nat → Int) (n lim i : Nat) (hb : s i = 32 ∨ s i = 10) : lxs s n lim i = lxs s n lim (i + 1) := by
  by_cases c : i < min n lim
  · exact lxs_blank s n lim i c hb
  · rw [lxs_end _ _ _ _ (by omega), lxs_end _ _ _ _ (by omega)]
theorem lxk_rg (w : Int) : 0 ≤ lxk w ∧ lxk w ≤ 24 := by
  unfold lxk
  split
  · next c =>
    have h1 : lxK.idxOf w < lxK.length := List.idxOf_lt_length_iff.mpr c
    have h2 : lxK.length = 24 := by decide
    omega
  · omega
theorem lx_mw (s : Nat → Int) (i k : Nat) (w c : Int) (hc : 97 ≤ s (i + k) ∧ s (i + k) ≤ 122 → c = s (i + k)) (hw : lxC s i k = k → k ≤ 6 → w = lxw s i k) : lxC s i (k + 1) = ((k + 1 : Nat) : Int) → k + 1 ≤ 6 → am_wl (am_wl (am_wl (27 * w) + c) - 96) = lxw s i (k + 1) := by
  intro h hk
  have hle := lxC_le s i k
  unfold lxC at h
  by_cases cc : 97 ≤ s (i + k) ∧ s (i + k) ≤ 122
  · rw [if_pos cc] at h
    have hb := lxw_b s i k (by omega) (by omega)
    have hp := p27 k (by omega)
    have e := hw (by omega) (by omega)
    have e2 : lxw s i (k + 1) = 27 * lxw s i k + (s (i + k) - 96) := rfl
    have e3 := hc cc
    have e4 : am_wl (27 * lxw s i k) = 27 * lxw s i k := am_wl_of ⟨by omega, by omega⟩
    have e5 : am_wl (27 * lxw s i k + s (i + k)) = 27 * lxw s i k + s (i + k) := am_wl_of ⟨by omega, by omega⟩
    rw [e, e3, e4, e5, am_wl_of ⟨by omega, by omega⟩, e2]
    omega
  · rw [if_neg cc] at h
    omega
theorem lx_mn (s : Nat → Int) (i k : Nat) (w c : Int) (hW : ∀ j, j < k + 1 → 97 ≤ s (i + j) ∧ s (i + j) ≤ 122 ∨ 48 ≤ s (i + j) ∧ s (i + j) ≤ 57) (hc : 48 ≤ s (i + k) ∧ s (i + k) ≤ 57 → c = s (i + k)) (hw : lxC s i k = 0 → k ≤ 3 → w = lxn s i k) : lxC s i (k + 1) = 0 → k + 1 ≤ 3 → am_w (am_w (am_w (10 * w) + c) - 48) = lxn s i (k + 1) := by
  intro h hk
  have hle := lxC_le s i k
  unfold lxC at h
  by_cases cc : 97 ≤ s (i + k) ∧ s (i + k) ≤ 122
  · rw [if_pos cc] at h
    omega
  · rw [if_neg cc] at h
    have hb := lxn_b s i k (fun j hj => hW j (by omega)) (by omega) (by omega)
    have hp := p10 k (by omega)
    have e := hw (by omega) (by omega)
    have hd := hW k (by omega)
    have e2 : lxn s i (k + 1) = 10 * lxn s i k + (s (i + k) - 48) := rfl
    have e3 := hc (by omega)
    have e4 : am_w (10 * lxn s i k) = 10 * lxn s i k := am_w_of ⟨by omega, by omega⟩
    have e5 : am_w (10 * lxn s i k + s (i + k)) = 10 * lxn s i k + s (i + k) := am_w_of ⟨by omega, by omega⟩
    rw [e, e3, e4, e5, am_w_of ⟨by omega, by omega⟩, e2]
    omega
section
variable {d : Nat} {Y : am_Y} {h : am_H} {m : Nat}
theorem ac_m_isDigit {x : Int} : am_cI am_Md_isDigit d Y [.inl x] h (fun r h1 => h1 = h ∧ r = if 48 ≤ x ∧ x ≤ 57 then 1 else 0) := by
  refine am_Met.of (by decide) rfl (Nat.le_of_ble_eq_true rfl) (ab_Md_isDigit_0 ?_)
  simp only [am_qI_s]
  grind
theorem ac_m_isLetter {x : Int} : am_cI am_Md_isLetter d Y [.inl x] h (fun r h1 => h1 = h ∧ r = if 97 ≤ x ∧ x ≤ 122 then 1 else 0) := by
  refine am_Met.of (by decide) rfl (Nat.le_of_ble_eq_true rfl) (ab_Md_isLetter_0 ?_)
  simp only [am_qI_s]
  grind
theorem ac_m_byteAt {p : Nat} (hY : am_at Y m am_L12) (hp : p ≤ 940) (hn : h m 3 ≤ 940) : am_cI am_Md_byteAt d Y [.inr (.inr m), .inl (p : Int)] h (fun r h1 => h1 = h ∧ r = if (p : Int) < h m 3 then h (m + 1) p else 0) := by
  refine am_Met.of (by decide) rfl (Nat.le_of_ble_eq_true rfl) (ab_Md_byteAt_0 hY ?_)
  simp only [am_qI_s]
  refine ⟨fun c => ⟨trivial, by rw [if_neg (by omega)]⟩, fun c => ⟨by omega, trivial, by rw [if_pos (by omega)]; rfl⟩⟩
theorem su_lt {s u : Nat → Int} {n : Nat} (hsu : su s u n) {i : Nat} (hi : i < n) : (97 ≤ s i ∧ s i ≤ 122 ↔ 97 ≤ u i ∧ u i ≤ 122) ∧ (48 ≤ s i ∧ s i ≤ 57 ↔ 48 ≤ u i ∧ u i ≤ 57) ∧ (0 ≤ s i → s i < 128 → u i = s i) ∧ (u i < 128 → s i = u i) ∧ lxg (s i) = lxg (u i) := by
  obtain ⟨a1, a2, a3, a4⟩ := hsu i hi
  refine ⟨by omega, by omega, by omega, by omega, ?_⟩
  by_cases c : u i < 128
  · rw [a3 c]
  · have := a4 (by omega)
    unfold lxg
    rw [if_neg (by omega), if_neg (by omega), if_neg (by omega), if_neg (by omega), if_neg (by omega), if_neg (by omega), if_neg (by omega), if_neg (by omega), if_neg (by omega), if_neg (by omega), if_neg (by omega), if_neg (by omega)]
def goQ (h : am_H) (m : Nat) (s : Nat → Int) (n lim p : Nat) : Option am_V → am_H → Prop := am_qV (fun h1 => MR h1 m s n lim (lxs s n lim p) ∧ mgo h h1 m)
/-- of the signs read so far -/
def runI (s : Nat → Int) (p k : Nat) (y2 y3 : Int) : Prop :=
  (y3 = 0 ∨ y3 = 1) ∧ (y2 = 0 ∨ y2 = 1) ∧ (y2 = 1 → (y3 = 1 ↔ lxC s p k = k)) ∧ (y2 = 0 → (y3 = 1 ↔ lxC s p k = 0)) ∧ (0 < k → (y2 = 1 → 0 < lxC s p k) ∧ (y2 = 0 → lxC s p k < k)) ∧ (y2 = 1 ↔ 97 ≤ s p ∧ s p ≤ 122)
theorem runI.step {s : Nat → Int} {p k : Nat} {y2 y3 y3' : Int} (r : runI s p k y2 y3) (h0 : y3' = 0 ∨ y3' = 1) (hi : y3' = 1 ↔ (y3 = 1 ∧ ((97 ≤ s (p + k) ∧ s (p + k) ≤ 122) ↔ y2 = 1))) : runI s p (k + 1) y2 y3' := by
  obtain ⟨r1, r2, r3, r4, r5, r6⟩ := r
  have hC : lxC s p (k + 1) = if 97 ≤ s (p + k) ∧ s (p + k) ≤ 122 then lxC s p k + 1 else lxC s p k := rfl
  have hcl := lxC_le s p k
  refine ⟨h0, r2, fun e => ?_, fun e => ?_, fun _ => ?_, r6⟩
  · have := r3 e
    rw [hi, hC]
    by_cases cl : 97 ≤ s (p + k) ∧ s (p + k) ≤ 122
    · rw [if_pos cl]
      exact ⟨fun z => by have := this.mp z.1; omega, fun z => ⟨this.mpr (by omega), fun _ => e, fun _ => cl⟩⟩
    · rw [if_neg cl]
      exact ⟨fun z => absurd (z.2.mpr e) cl, fun z => by omega⟩
  · have := r4 e
    rw [hi, hC]
    by_cases cl : 97 ≤ s (p + k) ∧ s (p + k) ≤ 122
    · rw [if_pos cl]
      exact ⟨fun z => by have := z.2.mp cl; omega, fun z => by omega⟩
    · rw [if_neg cl]
      exact ⟨fun z => this.mp z.1, fun z => ⟨this.mpr z, fun w => absurd w cl, fun w => by omega⟩⟩
  · rw [hC]
    rcases Nat.eq_zero_or_pos k with e0 | e0
    · subst e0
      have hz : lxC s p 0 = 0 := rfl
      simp only [Nat.add_zero]
      rw [hz]
      by_cases cl : 97 ≤ s p ∧ s p ≤ 122
      · rw [if_pos cl]
        have := r6.mpr cl
        exact ⟨fun _ => by omega, fun z => by omega⟩
      · rw [if_neg cl]
        exact ⟨fun z => absurd (r6.mp z) cl, fun _ => by omega⟩
    · have := r5 e0
      by_cases cl : 97 ≤ s (p + k) ∧ s (p + k) ≤ 122
      · rw [if_pos cl]
        exact ⟨fun z => by have := this.1 z; omega, fun z => by have := this.2 z; omega⟩
      · rw [if_neg cl]
        exact ⟨fun z => this.1 z, fun z => by have := this.2 z; omega⟩
theorem lxs_nx (s : Nat → Int) (n lim i : Nat) (a : Int × Int × Int) : nx (a :: lxs s n lim i) = lxs s n lim i := by
  have hne := lxs_ne s n lim (min n lim - i) i
  unfold lxs
  cases hc : lxS s n lim (min n lim - i) i with
  | nil => exact absurd hc hne
  | cons a b => rfl
/-- the state while a word or a number is read: k signs -/
def goS (h hh : am_H) (m : Nat) (s : Nat → Int) (n p k : Nat) : Prop :=
  mgo h hh m ∧ hh m 5 = ((p + k : Nat) : Int) ∧ hh m 6 = (p : Int) ∧ lxE s n n p = lxE s n n (p + k) ∧ (∀ j, j < k → 97 ≤ s (p + j) ∧ s (p + j) ≤ 122 ∨ 48 ≤ s (p + j) ∧ s (p + j) ≤ 57) ∧ (lxC s p k = k → k ≤ 6 → hh m 12 = lxw s p k) ∧ (lxC s p k = 0 → k ≤ 3 → hh m 8 = lxn s p k)
/-- the kind of a word or a number -/
theorem mK_run {hz : am_H} {m : Nat} {s : Nat → Int} {p k : Nat} {y2 y3 kd : Int} (r : runI s p k y2 y3) (hk : 0 < k) (h7 : hz m 7 = kd) (h12 : lxC s p k = k → k ≤ 6 → hz m 12 = lxw s p k) (h8 : lxC s p k = 0 → k ≤ 3 → hz m 8 = lxn s p k) (ekd : kd = if (y3 = 1 ∧ y2 = 1 ∧ k ≤ 6) then 2 else if (y3 = 1 ∧ y2 = 0 ∧ k ≤ 3) then 3 else 1) : mK hz m (lxR s p k) := by
  obtain ⟨r1, r2, q1, q0, r5, -⟩ := r
  have hf := r5 hk
  have hlk := lxk_rg (lxw s p k)
  unfold lxR
  by_cases c1 : lxC s p k = k ∧ k ≤ 6
  · rw [if_pos c1]
    have hy21 : y2 = 1 := by
      rcases r2 with e | e
      · have := hf.2 e; omega
      · exact e
    have : kd = 2 := by rw [ekd, if_pos ⟨(q1 hy21).mpr c1.1, hy21, c1.2⟩]
    have ew := h12 c1.1 c1.2
    unfold mK
    simp only
    generalize lxw s p k = w at ew hlk ⊢
    exact ⟨hlk.1, by omega, fun _ => ⟨by omega, ew, by trivial⟩, fun e => by omega, fun e => by omega, fun e => by omega, fun e => by omega⟩
  · rw [if_neg c1]
    by_cases c2 : lxC s p k = 0 ∧ k ≤ 3
    · rw [if_pos c2]
      have hy20 : y2 = 0 := by
        rcases r2 with e | e
        · exact e
        · have := hf.1 e; omega
      have : kd = 3 := by rw [ekd, if_neg (by omega), if_pos ⟨(q0 hy20).mpr c2.1, hy20, c2.2⟩]
      have en := h8 c2.1 c2.2
      unfold mK
      simp only
      exact ⟨by omega, by omega, fun e => by omega, fun _ => ⟨by omega, en⟩, fun e => by omega, fun e => by omega, fun e => by omega⟩
    · rw [if_neg c2]
      have : kd = 1 := by
        rw [ekd, if_neg (fun z => c1 ⟨(q1 z.2.1).mp z.1, z.2.2⟩), if_neg (fun z => c2 ⟨(q0 z.2.1).mp z.1, z.2.2⟩)]
      unfold mK
      simp only
      exact ⟨by omega, by omega, fun e => by omega, fun e => by omega, fun e => by omega, fun e => by omega, fun _ => by omega⟩
theorem lxR_pl (s : Nat → Int) (p k : Nat) : (lxR s p k).2.1 = (p : Int) := by
  unfold lxR
  split
  · rfl
  · split <;> rfl
theorem go_done {hh hz : am_H} {s : Nat → Int} {n lim p k : Nat} {y2 y3 kd : Int} (hb : p < min n lim) (hnb : ¬ (s p = 32 ∨ s p = 10)) (cW : 97 ≤ s p ∧ s p ≤ 122 ∨ 48 ≤ s p ∧ s p ≤ 57) (st : goS h hh m s n p k) (r : runI s p k y2 y3) (pk : p + k ≤ n) (hE : lxE s n n p = p + k) (hk : 0 < k) (ez : hz = am_u hh m 7 kd) (ekd : kd = if (y3 = 1 ∧ y2 = 1 ∧ k ≤ 6) then 2 else if (y3 = 1 ∧ y2 = 0 ∧ k ≤ 3) then 3 else 1) : goQ h m s n lim p none hz := by
  obtain ⟨hg, b5, b6, -, -, hw, hnn⟩ := st
  unfold goQ
  rw [am_qV_s]
  have hN : lxN s n p = p + k := by unfold lxN; rw [if_pos cW]; exact hE
  have hTT : lxT s n p = lxR s p k := by unfold lxT; rw [if_pos cW, hE, show p + k - p = k by omega]
  have hT := lxs_tok s n lim p hb hnb
  rw [hTT, hN] at hT
  refine ⟨⟨lxR s p k, _, hT, mK_run r hk (by rw [ez, am_u_s]) (fun a b => by rw [ez, am_u_j (by omega)]; exact hw a b) (fun a b => by rw [ez, am_u_j (by omega)]; exact hnn a b) ekd, ?_, p + k, ?_, pk, ?_⟩, hg.trans (by rw [ez]; exact mgo.u (by omega))⟩
  · rw [ez, am_u_j (by omega), b6, lxR_pl]
  · rw [ez, am_u_j (by omega)]; exact b5
  · rw [hT, lxs_nx]
theorem go_307 {z5 : am_H} {s : Nat → Int} {n p k : Nat} {y2 y3 : Int} {Q : Option am_V → am_H → Prop} (hY : am_at Y m am_L12) (hn9 : n ≤ 940) (hkn : p + k < n) (cWk : 97 ≤ s (p + k) ∧ s (p + k) ≤ 122 ∨ 48 ≤ s (p + k) ∧ s (p + k) ≤ 57) (hg : mgo h z5 m) (c5 : z5 m 5 = ((p + k : Nat) : Int)) (c6 : z5 m 6 = (p : Int)) (hE : lxE s n n p = lxE s n n (p + k)) (hrun : ∀ j, j < k → 97 ≤ s (p + j) ∧ s (p + j) ≤ 122 ∨ 48 ≤ s (p + j) ∧ s (p + j) ≤ 57) (c8 : lxC s p k = 0 → k ≤ 3 → z5 m 8 = lxn s p k) (c12 : lxC s p (k + 1) = ((k + 1 : Nat) : Int) → k + 1 ≤ 6 → z5 m 12 = lxw s p (k + 1))
    (ih : ∀ z6, goS h z6 m s n p (k + 1) → aw_Md_go_215 d Y m y2 y3 z6 Q) : aw_Md_go_307 d Y m y2 y3 (s (p + k)) z5 Q := by
  have hr1 : ∀ j, j < k + 1 → 97 ≤ s (p + j) ∧ s (p + j) ≤ 122 ∨ 48 ≤ s (p + j) ∧ s (p + j) ≤ 57 := fun j hj => by
    by_cases ej : j = k
    · subst ej; exact cWk
    · exact hrun j (by omega)
  have hE1 : lxE s n n p = lxE s n n (p + (k + 1)) := by rw [hE]; exact lxE_step _ _ _ ⟨hkn, cWk⟩
  refine ab_Md_go_307 hY ?_
  rw [c5, c6]
  have e1 : ((p + k : Nat) : Int) - (p : Int) = (k : Int) := by omega
  rw [e1]
  refine ⟨⟨by omega, by omega⟩, fun c3 => ⟨⟨by omega, by omega⟩, fun z6 f6 => ?_⟩, fun c3 z6 f6 => ?_⟩
  · refine ih z6 ⟨hg.trans (by rw [f6]; exact mgo.u (by omega)), by rw [f6, am_u_s]; omega, by rw [f6, am_u_j (by omega)]; exact c6, hE1, hr1, fun a b => by rw [f6, am_u_j (by omega)]; exact c12 a b, fun a b => by omega⟩
  · have d5 : z6 m 5 = ((p + k : Nat) : Int) := by rw [f6, am_u_j (by omega)]; exact c5
    rw [d5]
    refine ⟨⟨by omega, by omega⟩, fun z7 f7 => ?_⟩
    have g6 : mgo h z6 m := hg.trans (by rw [f6]; exact mgo.u (by omega))
    have g7 : mgo h z7 m := g6.trans (by rw [f7]; exact mgo.u (by omega))
    refine ih z7 ⟨g7, by rw [f7, am_u_s]; omega, by rw [f7, am_u_j (by omega), f6, am_u_j (by omega)]; exact c6, hE1, hr1, fun a b => by rw [f7, am_u_j (by omega), f6, am_u_j (by omega)]; exact c12 a b, fun a b => ?_⟩
    rw [f7, am_u_j (by omega), f6, am_u_s]
    exact lx_mn s p k _ _ hr1 (fun _ => rfl) c8 a b
theorem go_243 {hh : am_H} {s : Nat → Int} {n p k : Nat} {y2 y3 : Int} {Q : Option am_V → am_H → Prop} (hY : am_at Y m am_L12) (hn9 : n ≤ 940) (hkn : p + k < n) (hsu : su s (h (m + 1)) n) (cWk : 97 ≤ s (p + k) ∧ s (p + k) ≤ 122 ∨ 48 ≤ s (p + k) ∧ s (p + k) ≤ 57) (st : goS h hh m s n p k) (r : runI s p k y2 y3)
    (ih : ∀ z6 y3', goS h z6 m s n p (k + 1) → runI s p (k + 1) y2 y3' → aw_Md_go_215 (d + 1) Y m y2 y3' z6 Q) : aw_Md_go_243 (d + 1) Y m y2 y3 hh Q := by
  obtain ⟨hg, b5, b6, hE, hrun, hw, hnn⟩ := st
  have bt : hh (m + 1) = h (m + 1) := hg.1 (m + 1) (by omega)
  obtain ⟨m1, m2, m3, m4, m5⟩ := su_lt hsu hkn
  have hu : h (m + 1) (p + k) = s (p + k) := m3 (by omega) (by omega)
  have wd : ∀ (z5 : am_H) (y3' : Int), z5 = hh → runI s p (k + 1) y2 y3' → am_ri (((p + k : Nat) : Int) - (p : Int)) ∧ ((6 ≤ ((p + k : Nat) : Int) - (p : Int) → aw_Md_go_307 (d + 1) Y m y2 y3' (s (p + k)) z5 Q) ∧ (((p + k : Nat) : Int) - (p : Int) < 6 → ∀ z6 : am_H, z6 = am_u z5 m 12 (am_wl (am_wl (am_wl (27 * z5 m 12) + s (p + k)) - 96)) → aw_Md_go_307 (d + 1) Y m y2 y3' (s (p + k)) z6 Q)) := by
    rintro z5 y3' rfl hr
    refine ⟨⟨by omega, by omega⟩, fun c6 => go_307 hY hn9 hkn cWk hg b5 b6 hE hrun hnn (fun a b => by omega) (fun z6 g => ih z6 y3' g hr), fun c6 z6 f6 => ?_⟩
    refine go_307 (z5 := z6) hY hn9 hkn cWk (hg.trans (by rw [f6]; exact mgo.u (by omega))) (by rw [f6, am_u_j (by omega)]; exact b5) (by rw [f6, am_u_j (by omega)]; exact b6) hE hrun (fun a b => by rw [f6, am_u_j (by omega)]; exact hnn a b) (fun a b => ?_) (fun z6 g => ih z6 y3' g hr)
    rw [f6, am_u_s]
    exact lx_mw s p k _ _ (fun _ => rfl) hw a b
  refine ab_Md_go_243 hY ?_
  rw [b5, bt]
  simp only [Int.toNat_natCast]
  rw [hu, b6]
  have hy3 := r.1
  have hy2 := r.2.1
  refine ⟨by omega, fun c3 => wd hh 0 rfl (r.step (Or.inl rfl) ⟨fun z => by omega, fun z => by omega⟩), fun c3 => ?_⟩
  refine am_kI.of (ac_m_isLetter (d := d)) (by omega) ?_
  rintro x z5 - - ⟨ez5, rfl⟩
  have b55 : z5 m 5 = ((p + k : Nat) : Int) := by rw [ez5]; exact b5
  have b56 : z5 m 6 = (p : Int) := by rw [ez5]; exact b6
  rw [b55, b56]
  refine ⟨fun c4 => wd z5 0 ez5 (r.step (Or.inl rfl) ⟨fun z => by omega, fun z => ?_⟩), fun c4 => wd z5 1 ez5 (r.step (Or.inr rfl) ⟨fun _ => ⟨by omega, ?_⟩, fun _ => rfl⟩)⟩
  · exfalso
    by_cases cl : 97 ≤ s (p + k) ∧ s (p + k) ≤ 122
    · rw [if_pos cl] at c4
      exact c4 (z.2.mp cl).symm
    · rw [if_neg cl] at c4
      rcases hy2 with e | e
      · exact c4 e.symm
      · exact cl (z.2.mpr e)
  · by_cases cl : 97 ≤ s (p + k) ∧ s (p + k) ≤ 122
    · rw [if_pos cl] at c4
      exact ⟨fun _ => c4.symm, fun _ => cl⟩
    · rw [if_neg cl] at c4
      exact ⟨fun z => absurd z cl, fun z => by omega⟩
theorem go_215 {s : Nat → Int} {n lim p : Nat} (hY : am_at Y m am_L12) (hn : h m 3 = (n : Int)) (hn9 : n ≤ 940) (hsu : su s (h (m + 1)) n) (hb : p < min n lim) (hnb : ¬ (s p = 32 ∨ s p = 10)) (cW : 97 ≤ s p ∧ s p ≤ 122 ∨ 48 ≤ s p ∧ s p ≤ 57) : ∀ (i : Int) (k : Nat) (hh : am_H) (y2 y3 : Int), i = ((p + k : Nat) : Int) → p + k ≤ n → goS h hh m s n p k → runI s p k y2 y3 → aw_Md_go_215 (d + 1) Y m y2 y3 hh (goQ h m s n lim p) := by
  refine am_up (fun i => ∀ (k : Nat) (hh : am_H) (y2 y3 : Int), i = ((p + k : Nat) : Int) → p + k ≤ n → goS h hh m s n p k → runI s p k y2 y3 → aw_Md_go_215 (d + 1) Y m y2 y3 hh (goQ h m s n lim p)) (n + 1 : Int) (fun i hi k hh y2 y3 ei pn => by omega) ?_
  intro i hi ih k hh y2 y3 ei pk st r
  have st' := st
  obtain ⟨hg, b5, b6, hE, hrun, hw, hnn⟩ := st'
  have b3 : hh m 3 = (n : Int) := by rw [hg.2 3 (by omega) (by omega) (by omega) (by omega) (by omega) (by omega)]; exact hn
  have bt : hh (m + 1) = h (m + 1) := hg.1 (m + 1) (by omega)
  have hy3 := r.1
  have hy2 := r.2.1
  have stop : ¬ (p + k < n ∧ (97 ≤ s (p + k) ∧ s (p + k) ≤ 122 ∨ 48 ≤ s (p + k) ∧ s (p + k) ≤ 57)) → lxE s n n p = p + k ∧ 0 < k := fun nW => by
    refine ⟨by rw [hE]; exact lxE_stop _ _ _ nW, ?_⟩
    rcases Nat.eq_zero_or_pos k with e | e
    · subst e; exact absurd ⟨by omega, cW⟩ nW
    · exact e
  have done : ¬ (p + k < n ∧ (97 ≤ s (p + k) ∧ s (p + k) ≤ 122 ∨ 48 ≤ s (p + k) ∧ s (p + k) ≤ 57)) → ∀ (z7 hz : am_H) (kd : Int), z7 = hh → hz = am_u z7 m 7 kd → (kd = if (y3 = 1 ∧ y2 = 1 ∧ k ≤ 6) then 2 else if (y3 = 1 ∧ y2 = 0 ∧ k ≤ 3) then 3 else 1) → goQ h m s n lim p none hz := by
    rintro nW z7 hz kd rfl ez ek
    obtain ⟨s1, s2⟩ := stop nW
    exact go_done hb hnb cW st r pk s1 s2 ez ek
  have hexit : ¬ (p + k < n ∧ (97 ≤ s (p + k) ∧ s (p + k) ≤ 122 ∨ 48 ≤ s (p + k) ∧ s (p + k) ≤ 57)) → ∀ z7 : am_H, z7 = hh → (y3 = 0 → ∀ h9 : am_H, h9 = am_u z7 m 7 1 → goQ h m s n lim p none h9) ∧ (¬ y3 = 0 → am_ri (z7 m 5 - z7 m 6) ∧ ((y2 = 0 → ((z7 m 5 - z7 m 6) ≤ 3 → (y2 = 0 → ∀ h10 : am_H, h10 = am_u z7 m 7 3 → goQ h m s n lim p none h10) ∧ (¬ y2 = 0 → ∀ h11 : am_H, h11 = am_u z7 m 7 2 → goQ h m s n lim p none h11)) ∧ (3 < (z7 m 5 - z7 m 6) → ∀ h13 : am_H, h13 = am_u z7 m 7 1 → goQ h m s n lim p none h13)) ∧ (¬ y2 = 0 → ((z7 m 5 - z7 m 6) ≤ 6 → (y2 = 0 → ∀ h15 : am_H, h15 = am_u z7 m 7 3 → goQ h m s n lim p none h15) ∧ (¬ y2 = 0 → ∀ h16 : am_H, h16 = am_u z7 m 7 2 → goQ h m s n lim p none h16)) ∧ (6 < (z7 m 5 - z7 m 6) → ∀ h18 : am_H, h18 = am_u z7 m 7 1 → goQ h m s n lim p none h18)))) := by
    intro nW z7 e7
    have c5 : z7 m 5 - z7 m 6 = (k : Int) := by rw [e7, b5, b6]; omega
    rw [c5]
    refine ⟨fun c3 h9 f9 => done nW z7 h9 1 e7 f9 (by rw [if_neg (by omega), if_neg (by omega)]), fun c3 => ⟨⟨by omega, by omega⟩, fun c4 => ⟨fun c5 => ⟨fun _ h9 f9 => done nW z7 h9 3 e7 f9 (by rw [if_neg (by omega), if_pos (by omega)]), fun z => absurd c4 z⟩, fun c5 h9 f9 => done nW z7 h9 1 e7 f9 (by rw [if_neg (by omega), if_neg (by omega)])⟩, fun c4 => ⟨fun c5 => ⟨fun z => absurd z c4, fun _ h9 f9 => done nW z7 h9 2 e7 f9 (by rw [if_pos (by omega)])⟩, fun c5 h9 f9 => done nW z7 h9 1 e7 f9 (by rw [if_neg (by omega), if_neg (by omega)])⟩⟩⟩
  have more : (97 ≤ s (p + k) ∧ s (p + k) ≤ 122 ∨ 48 ≤ s (p + k) ∧ s (p + k) ≤ 57) → p + k < n → ∀ z4, z4 = hh → aw_Md_go_243 (d + 1) Y m y2 y3 z4 (goQ h m s n lim p) := by
    rintro cWk hkn z4 rfl
    exact go_243 hY hn9 hkn hsu cWk st r (fun z6 y3' g6 r6 => ih (k + 1) z6 y2 y3' (by omega) (by omega) g6 r6)
  clear ih done stop
  refine ab_Md_go_215 hY ?_
  rw [b5]
  refine am_kI.of (ac_m_byteAt (d := d) hY (by omega) (by omega)) (by omega) ?_
  rintro x z3 - - ⟨ez3, rfl⟩
  rw [b3, bt]
  refine am_kI.of (ac_m_isLetter (d := d)) (by omega) ?_
  rintro x z4 - - ⟨ez4, rfl⟩
  have e43 : z4 = hh := ez4.trans ez3
  by_cases hkn : p + k < n
  · obtain ⟨m1, m2, m3, m4, m5⟩ := su_lt hsu hkn
    rw [if_pos (show ((p + k : Nat) : Int) < (n : Int) by omega)]
    refine ⟨fun cc => ?_, fun cc => ?_⟩
    · refine more (Or.inl ?_) hkn z4 e43
      rw [m1]
      by_cases z : 97 ≤ h (m + 1) (p + k) ∧ h (m + 1) (p + k) ≤ 122
      · exact z
      · rw [if_neg z] at cc; exact absurd rfl cc
    · have cl : ¬ (97 ≤ s (p + k) ∧ s (p + k) ≤ 122) := by
        rw [m1]
        intro z
        rw [if_pos z] at cc; exact absurd cc (by decide)
      have b5z : z4 m 5 = ((p + k : Nat) : Int) := by rw [e43]; exact b5
      rw [b5z]
      refine am_kI.of (ac_m_byteAt (d := d) hY (by omega) (by rw [e43]; omega)) (by omega) ?_
      rintro x z5 - - ⟨ez5, rfl⟩
      have e35 : z4 m 3 = (n : Int) := by rw [e43]; exact b3
      have et5 : z4 (m + 1) = h (m + 1) := by rw [e43]; exact bt
      rw [e35, et5, if_pos (show ((p + k : Nat) : Int) < (n : Int) by omega)]
      refine am_kI.of (ac_m_isDigit (d := d)) (by omega) ?_
      rintro x z6 - - ⟨ez6, rfl⟩
      have e63 : z6 = hh := ez6.trans (ez5.trans e43)
      refine ⟨fun c2 => hexit (fun z => ?_) z6 e63, fun c2 => more (Or.inr ?_) hkn z6 e63⟩
      · rcases z.2 with z | z
        · exact cl z
        · rw [m2] at z
          rw [if_pos z] at c2; exact absurd c2 (by decide)
      · rw [m2]
        by_cases z : 48 ≤ h (m + 1) (p + k) ∧ h (m + 1) (p + k) ≤ 57
        · exact z
        · rw [if_neg z] at c2; exact absurd rfl c2
  · rw [if_neg (show ¬ ((p + k : Nat) : Int) < (n : Int) by omega)]
    refine ⟨fun cc => absurd (by rfl) cc, fun cc => ?_⟩
    have b5z : z4 m 5 = ((p + k : Nat) : Int) := by rw [e43]; exact b5
    rw [b5z]
    refine am_kI.of (ac_m_byteAt (d := d) hY (by omega) (by rw [e43]; omega)) (by omega) ?_
    rintro x z5 - - ⟨ez5, rfl⟩
    have e35 : z4 m 3 = (n : Int) := by rw [e43]; exact b3
    rw [e35, if_neg (show ¬ ((p + k : Nat) : Int) < (n : Int) by omega)]
    refine am_kI.of (ac_m_isDigit (d := d)) (by omega) ?_
    rintro x z6 - - ⟨ez6, rfl⟩
    exact ⟨fun c2 => hexit (fun z => hkn z.1) z6 (ez6.trans (ez5.trans e43)), fun c2 => absurd (by rfl) c2⟩
end

/-! a run, pure: Z 0 the figures, 1 what each did, 2 and 3 the bonds' first and last years, 4: seed, who was ever bound -/
def srF (D : Nat → Int) : Nat → Nat → Int
  | 0, _ => -1
  | f + 1, q => if D q = 0 then srF D f (q + 1) else (q : Int)
/-- the first of N from q on -/
def sr (D : Nat → Int) (N q : Nat) : Int := srF D (N - q) q
section
variable {D D' : Nat → Int} {N q : Nat}
theorem sr_e (h : N ≤ q) : sr D N q = -1 := by
  unfold sr
  rw [show N - q = 0 from by omega]
  rfl
theorem sr_s (h : q < N) : sr D N q = if D q = 0 then sr D N (q + 1) else (q : Int) := by
  unfold sr
  rw [show N - q = (N - (q + 1)) + 1 from by omega]
  rfl
theorem srF_i (D : Nat → Int) : ∀ f q, (srF D f q = -1 ∧ ∀ j, q ≤ j → j < q + f → D j = 0) ∨ (∃ n : Nat, srF D f q = n ∧ q ≤ n ∧ n < q + f ∧ ¬ D n = 0)
  | 0, q => Or.inl ⟨rfl, fun j a b => by omega⟩
  | f + 1, q => by
    unfold srF
    by_cases z : D q = 0
    · rw [if_pos z]
      rcases srF_i D f (q + 1) with ⟨a, b⟩ | ⟨n, a, b, c, d⟩
      · refine Or.inl ⟨a, fun j p r => ?_⟩
        by_cases jq : j = q
        · rw [jq]; exact z
        · exact b j (by omega) (by omega)
      · exact Or.inr ⟨n, a, by omega, by omega, d⟩
    · rw [if_neg z]
      exact Or.inr ⟨q, rfl, by omega, by omega, z⟩
theorem sr_i (D : Nat → Int) (N q : Nat) : (sr D N q = -1 ∧ ∀ j, q ≤ j → j < N → D j = 0) ∨ (∃ n : Nat, sr D N q = n ∧ q ≤ n ∧ n < N ∧ ¬ D n = 0) := by
  rcases srF_i D (N - q) q with ⟨a, b⟩ | ⟨n, a, b, c, d⟩
  · exact Or.inl ⟨a, fun j p r => b j p (by omega)⟩
  · exact Or.inr ⟨n, a, b, by omega, d⟩
end
abbrev ndP (A : Nat → Int) (n : Int) : Int := A (225 + 2 * n).toNat
abbrev ndK (A : Nat → Int) (n : Int) : Int := A (226 + 2 * n).toNat
def ptn (A : Nat → Int) (n : Int) (p : Nat) : Int := sr (fun q => if A (325 + 2 * q) = 4 ∧ asked A (q : Int) n then 1 else 0) (A 1).toNat (p + 1)
def fAc (A : Nat → Int) (n : Int) (t : Nat) (p : Nat) : Int :=
  if ¬ asked A (p : Int) n then 0 else if A (325 + 2 * p) = 1 then 2 else if A (325 + 2 * p) = 2 then 1 else if A (325 + 2 * p) = 3 then bA (pmA A (p : Int) n 0) t 0 else if A (325 + 2 * p) = 4 then (if ptn A n p < 0 then 0 else 1) else 0
def whoD (A : Nat → Int) (Z : am_H) (n y : Int) (p : Nat) : Int := if Z 2 (jb (p : Int) (ndP A n) (ndK A n)) ≤ y ∧ y ≤ Z 3 (jb (p : Int) (ndP A n) (ndK A n)) then 1 else 0
def zDay (A : Nat → Int) (Z : am_H) (n p : Int) : am_H := am_u (am_u (am_u Z 1 p.toNat (Z 1 p.toNat + 1)) 0 0 (Z 0 0 + 1)) 0 7 (Z 0 7 + (A (10 + 2 * ndK A n).toNat - A (35 + 6 * p + ndK A n).toNat))
def zNig (A : Nat → Int) (Z : am_H) (n p s : Int) : am_H :=
  if s = -1 then am_u (am_u (am_u Z 1 p.toNat (Z 1 p.toNat + 1)) 0 1 (Z 0 1 + 1)) 0 7 (Z 0 7 + ((A (10 + 2 * ndK A n).toNat - A (35 + 6 * p + ndK A n).toNat) - A (11 + 2 * ndK A n).toNat))
  else am_u (am_u (am_u (am_u Z 1 p.toNat (Z 1 p.toNat + 1)) 0 1 (Z 0 1 + 1)) 1 s.toNat (Z 1 s.toNat + 1)) 0 7 (Z 0 7 + (((A (10 + 2 * ndK A n).toNat - (A (35 + 6 * p + ndK A n).toNat + 1).tdiv 2) - (A (35 + 6 * s + ndK A n).toNat + 1).tdiv 2) - 2 * ((A (11 + 2 * ndK A n).toNat + 1).tdiv 2)))
def sdr (s : Int) : Int := am_w (am_w (s * 1103515245) + 12345)
def dr10 (s : Int) : Int := (am_ushr s 8).tmod 10
def sn (A : Nat → Int) (p s0 : Int) : Nat → Int × Int
  | 0 => (s0, 0)
  | i + 1 => if A (160 + 8 * (i : Int) + p).toNat ≤ 0 then sn A p s0 i else (sdr (sn A p s0 i).1, if dr10 (sdr (sn A p s0 i).1) < A (160 + 8 * (i : Int) + p).toNat then 1 else (sn A p s0 i).2)
def zSee (A : Nat → Int) (Z : am_H) (p : Int) : am_H × Int := (am_u Z 4 0 (sn A p (Z 4 0) (A 1).toNat).1, (sn A p (Z 4 0) (A 1).toNat).2)
def othr (A : Nat → Int) (n p : Int) : Nat → Int := fun q => if ¬ (q : Int) = p ∧ asked A (q : Int) n then 1 else 0
def whom (A : Nat → Int) (n p w : Int) : Int := if w = 3 then (if sr (othr A n p) (A 1).toNat 0 = -1 then p else sr (othr A n p) (A 1).toNat 0) else p
def zCnt (A f : Nat → Int) (p y : Int) : Int := sm (fun q => sm (fun k => if y ≤ f (jb p q k) then 1 else 0) (A 0).toNat) (A 1).toNat
def zT3 (Z : am_H) (u p s : Int) : am_H := if u = p ∨ u = s then am_u Z 0 3 (Z 0 3 + 1) else am_u (am_u Z 0 3 (Z 0 3 + 1)) 0 4 (Z 0 4 + 1)
def zThk2 (A : Nat → Int) (Z : am_H) (n y u p s : Int) : am_H :=
  if Z 3 (jb u (ndP A n) (ndK A n)) < y ∧ A (25 + u).toNat ≤ zCnt A (Z 3) u y then (if Z 0 5 = -1 then am_u (zT3 Z u p s) 0 5 y else zT3 Z u p s)
  else am_u (am_u (am_u (zT3 Z u p s) 2 (jb u (ndP A n) (ndK A n)) (y + 1)) 3 (jb u (ndP A n) (ndK A n)) (y + A 3)) 4 1 (am_or (Z 4 1) (am_shl 1 u))
def zThk (A : Nat → Int) (Z : am_H) (n : Int) (t : Nat) (y p s : Int) : am_H :=
  if A (326 + 2 * ndP A n).toNat = 0 then Z else if A (326 + 2 * ndP A n).toNat = 2 ∧ ¬ bA (pmA A p n 1) t 0 = 0 then Z
  else zThk2 A Z n y (whom A n p (A (326 + 2 * ndP A n).toNat)) p s
def zFnd (A : Nat → Int) (Z : am_H) (n : Int) (t : Nat) (y p s : Int) : am_H :=
  if s = -1 then (if (zSee A Z p).2 = 0 then (zSee A Z p).1 else zThk A (am_u (zSee A Z p).1 0 2 (Z 0 2 + 1)) n t y p s)
  else if (zSee A Z p).2 = 0 ∨ (zSee A (zSee A Z p).1 s).2 = 0 then (zSee A (zSee A Z p).1 s).1 else zThk A (am_u (zSee A (zSee A Z p).1 s).1 0 2 (Z 0 2 + 1)) n t y p s
def zMeet (A : Nat → Int) (Z : am_H) (n : Int) (t : Nat) (y : Int) : am_H :=
  if ¬ sr (whoD A Z n y) (A 1).toNat 0 = -1 then zDay A Z n (sr (whoD A Z n y) (A 1).toNat 0)
  else if sr (fAc A n t) (A 1).toNat 0 = -1 then am_u Z 0 6 (Z 0 6 + 1)
  else if fAc A n t (sr (fAc A n t) (A 1).toNat 0).toNat = 2 then zThk A (zDay A Z n (sr (fAc A n t) (A 1).toNat 0)) n t y (sr (fAc A n t) (A 1).toNat 0) (-1)
  else zFnd A (zNig A Z n (sr (fAc A n t) (A 1).toNat 0) (if A (325 + 2 * (sr (fAc A n t) (A 1).toNat 0).toNat) = 4 then ptn A n (sr (fAc A n t) (A 1).toNat 0).toNat else -1)) n t y (sr (fAc A n t) (A 1).toNat 0) (if A (325 + 2 * (sr (fAc A n t) (A 1).toNat 0).toNat) = 4 then ptn A n (sr (fAc A n t) (A 1).toNat 0).toNat else -1)
/-- the needs of a year -/
def zNs (A : Nat → Int) (t : Nat) (y : Int) : Nat → am_H → am_H
  | 0, Z => Z
  | k + 1, Z => zMeet A (zNs A t y k Z) (k : Int) t y
def zYs (A : Nat → Int) (yrs : Int) : Nat → am_H → am_H
  | 0, Z => Z
  | y + 1, Z => zNs A (min (yrs - (y : Int)) 20).toNat (y : Int) (A 2).toNat (zYs A yrs y Z)
/-- what can be counted so far -/
def zB (Z : am_H) (B : Int) : Prop := (∀ i, i < 8 → ¬ i = 5 → ¬ i = 7 → 0 ≤ Z 0 i ∧ Z 0 i ≤ B) ∧ (-1000 * B ≤ Z 0 7 ∧ Z 0 7 ≤ 1000 * B) ∧ ∀ p, p < 8 → 0 ≤ Z 1 p ∧ Z 1 p ≤ B
section
variable {A : Nat → Int} {Z : am_H} {n y p s u B v : Int} {t : Nat}
theorem zB.mono {B' : Int} (c : zB Z B) (h : B ≤ B') : zB Z B' := by
  obtain ⟨c1, c2, c3⟩ := c
  exact ⟨fun i a b d => ⟨(c1 i a b d).1, by have := (c1 i a b d).2; omega⟩, by omega, fun p hp => ⟨(c3 p hp).1, by have := (c3 p hp).2; omega⟩⟩
theorem zB.u0 {i : Nat} (c : zB Z B) (h5 : ¬ i = 7) (hv : ¬ i = 5 → 0 ≤ v ∧ v ≤ B + 1) : zB (am_u Z 0 i v) (B + 1) := by
  obtain ⟨c1, c2, c3⟩ := c
  refine ⟨fun j a b d => ?_, ?_, fun p hp => ?_⟩
  · by_cases ji : j = i
    · rw [ji, am_u_s]
      exact hv (by omega)
    · rw [am_u_j ji]
      have := c1 j a b d
      omega
  · rw [am_u_j (by omega)]
    omega
  · rw [am_u_o (by omega)]
    have := c3 p hp
    omega
theorem zB.u7 (c : zB Z B) (hv : Z 0 7 - 1000 ≤ v ∧ v ≤ Z 0 7 + 1000) : zB (am_u Z 0 7 v) (B + 1) := by
  obtain ⟨c1, c2, c3⟩ := c
  refine ⟨fun j a b d => ?_, ?_, fun p hp => ?_⟩
  · rw [am_u_j d]
    have := c1 j a b d
    omega
  · rw [am_u_s]
    omega
  · rw [am_u_o (by omega)]
    have := c3 p hp
    omega
theorem zB.u1 {i : Nat} (c : zB Z B) (hv : 0 ≤ v ∧ v ≤ B + 1) : zB (am_u Z 1 i v) (B + 1) := by
  obtain ⟨c1, c2, c3⟩ := c
  refine ⟨fun j a b d => ?_, ?_, fun p hp => ?_⟩
  · rw [am_u_o (by omega)]
    have := c1 j a b d
    omega
  · rw [am_u_o (by omega)]
    omega
  · by_cases ji : p = i
    · rw [ji, am_u_s]
      exact hv
    · rw [am_u_j ji]
      have := c3 p hp
      omega
theorem zB.ux {q i : Nat} (c : zB Z B) (hq : 2 ≤ q) : zB (am_u Z q i v) B := by
  obtain ⟨c1, c2, c3⟩ := c
  exact ⟨fun j a b d => by rw [am_u_o (by omega)]; exact c1 j a b d, by rw [am_u_o (by omega)]; exact c2, fun p hp => by rw [am_u_o (by omega)]; exact c3 p hp⟩
/-- worth, pains, hiding -/
theorem wr_wph (w : wr A) {k : Int} (hk : 0 ≤ k ∧ k < 6) (hp : 0 ≤ p ∧ p < 8) : (0 ≤ A (10 + 2 * k).toNat ∧ A (10 + 2 * k).toNat ≤ 99) ∧ (0 ≤ A (11 + 2 * k).toNat ∧ A (11 + 2 * k).toNat ≤ 99) ∧ 0 ≤ A (35 + 6 * p + k).toNat ∧ A (35 + 6 * p + k).toNat ≤ 99 := by
  have a := w (10 + 2 * k).toNat (by omega)
  have a2 := w_99b (j := (10 + 2 * k).toNat) (by omega)
  have b := w (11 + 2 * k).toNat (by omega)
  have b2 := w_99b (j := (11 + 2 * k).toNat) (by omega)
  have e := w (35 + 6 * p + k).toNat (by omega)
  have e2 := w_99 (j := (35 + 6 * p + k).toNat) (by omega)
  omega
theorem half_rg {x : Int} (h : 0 ≤ x ∧ x ≤ 99) : 0 ≤ (x + 1).tdiv 2 ∧ (x + 1).tdiv 2 ≤ 50 := by
  rw [Int.tdiv_eq_ediv_of_nonneg (by omega)]
  omega
theorem zB.day (c : zB Z B) (w : wr A) (hk : 0 ≤ ndK A n ∧ ndK A n < 6) (hp : 0 ≤ p ∧ p < 8) : zB (zDay A Z n p) (B + 3) := by
  have r := wr_wph w hk hp
  have c1 := c.1 0 (by omega) (by omega) (by omega)
  have c3 := c.2.2 p.toNat (by omega)
  have s1 := c.u1 (i := p.toNat) (v := Z 1 p.toNat + 1) (by omega)
  have s2 := s1.u0 (i := 0) (v := Z 0 0 + 1) (by omega) (fun _ => by omega)
  unfold zDay
  exact (s2.u7 (by rw [am_u_j (by omega), am_u_o (by omega)]; omega)).mono (by omega)
theorem zB.nig (c : zB Z B) (w : wr A) (hk : 0 ≤ ndK A n ∧ ndK A n < 6) (hp : 0 ≤ p ∧ p < 8) (hs : s = -1 ∨ 0 ≤ s ∧ s < 8) : zB (zNig A Z n p s) (B + 4) := by
  have r := wr_wph w hk hp
  have c1 := c.1 1 (by omega) (by omega) (by omega)
  have c3 := c.2.2 p.toNat (by omega)
  have s1 := c.u1 (i := p.toNat) (v := Z 1 p.toNat + 1) (by omega)
  have s2 := s1.u0 (i := 1) (v := Z 0 1 + 1) (by omega) (fun _ => by omega)
  unfold zNig
  by_cases z : s = -1
  · rw [if_pos z]
    exact (s2.u7 (by rw [am_u_j (by omega), am_u_o (by omega)]; omega)).mono (by omega)
  · rw [if_neg z]
    have r2 := wr_wph (p := s) w hk (by omega)
    have c4 := c.2.2 s.toNat (by omega)
    have h1 := half_rg r.2.2
    have h2 := half_rg r2.2.2
    have h3 := half_rg r.2.1
    have s3 := s2.u1 (i := s.toNat) (v := Z 1 s.toNat + 1) (by omega)
    exact (s3.u7 (by rw [am_u_o (by omega), am_u_j (by omega), am_u_o (by omega)]; omega)).mono (by omega)
theorem zB.t3 (c : zB Z B) : zB (zT3 Z u p s) (B + 2) := by
  have c3 := c.1 3 (by omega) (by omega) (by omega)
  have c4 := c.1 4 (by omega) (by omega) (by omega)
  have s1 := c.u0 (i := 3) (v := Z 0 3 + 1) (by omega) (fun _ => by omega)
  unfold zT3
  split
  · exact s1.mono (by omega)
  · exact (s1.u0 (i := 4) (v := Z 0 4 + 1) (by omega) (fun _ => by omega)).mono (by omega)
theorem zB.thk (c : zB Z B) : zB (zThk A Z n t y p s) (B + 3) := by
  unfold zThk
  split
  · exact c.mono (by omega)
  · split
    · exact c.mono (by omega)
    · have s1 := c.t3 (u := whom A n p (A (326 + 2 * ndP A n).toNat)) (p := p) (s := s)
      unfold zThk2
      split
      · split
        · exact (s1.u0 (i := 5) (v := y) (by omega) (fun z => absurd rfl z)).mono (by omega)
        · exact s1.mono (by omega)
      · exact (((s1.ux (by omega)).ux (by omega)).ux (by omega)).mono (by omega)
theorem zB.fnd (c : zB Z B) : zB (zFnd A Z n t y p s) (B + 4) := by
  have c2 := c.1 2 (by omega) (by omega) (by omega)
  have e1 : zB (zSee A Z p).1 B := c.ux (by omega)
  have e2 : zB (zSee A (zSee A Z p).1 s).1 B := e1.ux (by omega)
  unfold zFnd
  split
  · split
    · exact e1.mono (by omega)
    · exact ((e1.u0 (i := 2) (v := Z 0 2 + 1) (by omega) (fun _ => by omega)).thk).mono (by omega)
  · split
    · exact e2.mono (by omega)
    · exact ((e2.u0 (i := 2) (v := Z 0 2 + 1) (by omega) (fun _ => by omega)).thk).mono (by omega)
theorem ptn_rg (h8 : A 1 ≤ 8) (k : Nat) : ptn A n k = -1 ∨ ((k : Int) < ptn A n k ∧ ptn A n k < 8 ∧ ptn A n k < A 1 ∧ A (325 + 2 * (ptn A n k).toNat) = 4 ∧ asked A (ptn A n k) n) := by
  unfold ptn
  rcases sr_i (fun q => if A (325 + 2 * q) = 4 ∧ asked A (q : Int) n then (1 : Int) else 0) (A 1).toNat (k + 1) with ⟨a, -⟩ | ⟨q, a, b, c, d⟩
  · exact Or.inl a
  · rw [a]
    have z : A (325 + 2 * q) = 4 ∧ asked A (q : Int) n := Decidable.byContradiction fun z => d (if_neg z)
    exact Or.inr ⟨by omega, by omega, by omega, by rw [Int.toNat_natCast]; exact z.1, z.2⟩
theorem fAc_rg (k : Nat) : 0 ≤ fAc A n t k ∧ fAc A n t k ≤ 2 ∧ (¬ fAc A n t k = 0 → asked A (k : Int) n) := by
  unfold fAc
  split
  · exact ⟨by omega, by omega, fun z => absurd rfl z⟩
  · next q =>
    have q' : asked A (k : Int) n := Decidable.byContradiction q
    refine ⟨?_, ?_, fun _ => q'⟩
    · have := bA_rg (pmA A (k : Int) n 0) t
      split
      · omega
      · split
        · omega
        · split
          · omega
          · split
            · split <;> omega
            · omega
    · have := bA_rg (pmA A (k : Int) n 0) t
      split
      · omega
      · split
        · omega
        · split
          · omega
          · split
            · split <;> omega
            · omega
theorem srP_rg (h8 : A 1 ≤ 8) (D : Nat → Int) (q : Nat) : sr D (A 1).toNat q = -1 ∨ (0 ≤ sr D (A 1).toNat q ∧ sr D (A 1).toNat q < A 1 ∧ sr D (A 1).toNat q < 8 ∧ ¬ D (sr D (A 1).toNat q).toNat = 0) := by
  rcases sr_i D (A 1).toNat q with ⟨a, -⟩ | ⟨n, a, b, c, d⟩
  · exact Or.inl a
  · rw [a]
    exact Or.inr ⟨by omega, by omega, by omega, by rw [Int.toNat_natCast]; exact d⟩
theorem zB.meet (c : zB Z B) (w : wr A) (h8 : A 1 ≤ 8) (hk : 0 ≤ ndK A n ∧ ndK A n < 6) : zB (zMeet A Z n t y) (B + 8) := by
  have c6 := c.1 6 (by omega) (by omega) (by omega)
  have b1 := srP_rg h8 (whoD A Z n y) 0
  have b2 := srP_rg h8 (fAc A n t) 0
  unfold zMeet
  split
  · exact (c.day w hk (by omega)).mono (by omega)
  · split
    · exact (c.u0 (i := 6) (v := Z 0 6 + 1) (by omega) (fun _ => by omega)).mono (by omega)
    · split
      · exact ((c.day w hk (by omega)).thk).mono (by omega)
      · have pr := ptn_rg (A := A) (n := n) h8 (sr (fAc A n t) (A 1).toNat 0).toNat
        refine ((c.nig w hk (by omega) ?_).fnd).mono (by omega)
        split
        · omega
        · exact Or.inl rfl
end

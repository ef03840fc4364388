/-! contracts: Arrays.fill; the best help -/
/-- every object but these is as it was -/
def am_but (h h1 : am_H) (P : Nat → Prop) : Prop := ∀ q, ¬ P q → h1 q = h q
theorem am_sw1 (h : am_H) (o j : Nat) (x : Int) : ∀ q, q ≠ o → am_u h o j x q = h q := am_u_n h o j x
theorem ac_fillJ {d : Nat} {Y : am_Y} {h : am_H} {q n : Nat} {x : Int} (hY : Y[q]? = some (15, n)) (hn : n < 1000000) : am_cV am_Ar_fillJ d Y [.inr (.inr q), .inr (.inl x)] h (fun h1 => (∀ p, p ≠ q → h1 p = h p) ∧ ∀ j : Nat, j < n → h1 q j = x) := by
  refine am_Met.of (by decide) rfl (Nat.le_of_ble_eq_true rfl) (ab_Ar_fillJ_0 hY ⟨by omega, ?_⟩)
  refine am_up (fun i => ∀ h0 : am_H, 0 ≤ i → i ≤ n → (∀ p, p ≠ q → h0 p = h p) → (∀ j : Nat, (j : Int) < i → h0 q j = x) → am_wp am_Ar_fillJ d Y 6 [some (.inr (.inr q)), some (.inr (.inl x)), none, some (.inl i), some (.inl (n : Int))] [] h0 (am_qV _)) (n : Int) ?_ ?_ 0 h (by omega) (by omega) (fun p _ => rfl) (fun j hj => by omega)
  · intro i hi h0 g0 g1 g2 g3
    refine ab_Ar_fillJ_6 hY ?_
    simp only [am_qV_s]
    exact ⟨fun _ => ⟨g2, fun j hj => g3 j (by omega)⟩, fun _ => by omega⟩
  · intro i hi ih h0 g0 g1 g2 g3
    refine ab_Ar_fillJ_6 hY ?_
    simp only [am_qV_s]
    refine ⟨fun _ => by omega, fun _ => ⟨⟨g0, hi⟩, fun h1 e1 => ⟨⟨by omega, by omega⟩, ih h1 (by omega) (by omega) (fun p hp => ?_) (fun j hj => ?_)⟩⟩⟩
    · rw [e1, am_u_n _ _ _ _ p hp]; exact g2 p hp
    · rw [e1]
      unfold am_u
      by_cases hj2 : j = i.toNat
      · rw [if_pos ⟨rfl, hj2⟩]
      · rw [if_neg (fun z => hj2 z.2)]
        exact g3 j (by omega)
theorem ac_fillI {d : Nat} {Y : am_Y} {h : am_H} {q n : Nat} {x : Int} (hY : Y[q]? = some (14, n)) (hn : n < 1000000) : am_cV am_Ar_fillI d Y [.inr (.inr q), .inl x] h (fun h1 => (∀ p, p ≠ q → h1 p = h p) ∧ ∀ j : Nat, j < n → h1 q j = x) := by
  refine am_Met.of (by decide) rfl (Nat.le_of_ble_eq_true rfl) (ab_Ar_fillI_0 hY ⟨by omega, ?_⟩)
  refine am_up (fun i => ∀ h0 : am_H, 0 ≤ i → i ≤ n → (∀ p, p ≠ q → h0 p = h p) → (∀ j : Nat, (j : Int) < i → h0 q j = x) → am_wp am_Ar_fillI d Y 5 [some (.inr (.inr q)), some (.inl x), some (.inl i), some (.inl (n : Int))] [] h0 (am_qV _)) (n : Int) ?_ ?_ 0 h (by omega) (by omega) (fun p _ => rfl) (fun j hj => by omega)
  · intro i hi h0 g0 g1 g2 g3
    refine ab_Ar_fillI_5 hY ?_
    simp only [am_qV_s]
    exact ⟨fun _ => ⟨g2, fun j hj => g3 j (by omega)⟩, fun _ => by omega⟩
  · intro i hi ih h0 g0 g1 g2 g3
    refine ab_Ar_fillI_5 hY ?_
    simp only [am_qV_s]
    refine ⟨fun _ => by omega, fun _ => ⟨⟨g0, hi⟩, fun h1 e1 => ⟨⟨by omega, by omega⟩, ih h1 (by omega) (by omega) (fun p hp => ?_) (fun j hj => ?_)⟩⟩⟩
    · rw [e1, am_u_n _ _ _ _ p hp]; exact g2 p hp
    · rw [e1]
      unfold am_u
      by_cases hj2 : j = i.toNat
      · rw [if_pos ⟨rfl, hj2⟩]
      · rw [if_neg (fun z => hj2 z.2)]
        exact g3 j (by omega)
/-! V and what is done, from the last year back: day, night, found, binds, gift, out, law -/
abbrev bP : Type := Int × Int × Int × Int × Int × Int × Int
def bX (P : bP) (V : Nat → Int) : Int := if P.2.2.2.2.2.2 = 0 then V P.2.2.2.1.toNat else if P.2.2.2.2.2.2 = 2 then am_wl (V 0 + am_wl (1000000 * P.2.2.2.2.1)) else V 0
def bN (P : bP) (V : Nat → Int) : Int := am_wl (am_wl (P.2.1 + (am_wl (bX P V * P.2.2.1)).tdiv 10000000) + (am_wl (V 0 * am_wl (10000000 - P.2.2.1))).tdiv 10000000)
def bM (P : bP) (V : Nat → Int) : Int := if V 0 < bN P V then bN P V else V 0
def bF (P : bP) (V : Nat → Int) : Int := if bM P V < am_wl (P.1 + bX P V) then am_wl (P.1 + bX P V) else bM P V
def bFa (P : bP) (V : Nat → Int) : Int := if bM P V < am_wl (P.1 + bX P V) then 2 else if V 0 < bN P V then 1 else 0
def bS (P : bP) (V : Nat → Int) (b : Nat) : Int := am_wl (P.1 + V (b - 1))
def bL (P : bP) (V : Nat → Int) : Int := am_wl (V 0 - am_wl (1000000 * P.2.2.2.2.2.1))
def bV (P : bP) : Nat → Nat → Int
  | 0 => fun _ => 0
  | t + 1 => fun b => if b = 0 then bF P (bV P t) else max (bS P (bV P t) b) (bL P (bV P t))
def bA (P : bP) : Nat → Nat → Int
  | 0 => fun _ => 0
  | t + 1 => fun b => if b = 0 then bFa P (bV P t) else if bL P (bV P t) ≤ bS P (bV P t) b then 2 else 3
theorem am_tdr {x : Int} (h : am_rl x) : am_rl (x.tdiv 10000000) := by
  unfold am_rl at *
  have h1 : (x.tdiv 10000000).natAbs = x.natAbs / 10000000 := by
    rw [Int.natAbs_tdiv]
    rfl
  omega
theorem am_wlr (x : Int) : am_rl (am_wl x) := am_lr _
/-- a place of both tables is set -/
def bset (h h1 : am_H) (o i : Nat) (x a : Int) : Prop := (∀ q, q ≠ o + 1 → q ≠ o + 2 → h1 q = h q) ∧ (∀ j, h1 (o + 1) j = if j = i then x else h (o + 1) j) ∧ (∀ j, h1 (o + 2) j = if j = i then a else h (o + 2) j)
theorem bset.two {h h1 h2 : am_H} {o i : Nat} {x a x' a' : Int} (p : bset h h1 o i x a) (q : bset h1 h2 o i x' a') : bset h h2 o i x' a' := by
  obtain ⟨p1, p2, p3⟩ := p
  obtain ⟨q1, q2, q3⟩ := q
  refine ⟨fun r r1 r2 => (q1 r r1 r2).trans (p1 r r1 r2), fun j => ?_, fun j => ?_⟩
  · rw [q2, p2]; split <;> rfl
  · rw [q3, p3]; split <;> rfl
section
variable {d : Nat} {Y : am_Y} {h : am_H} {o v : Nat}
theorem ac_isInside {t b : Int} : am_cI am_Best_isInside d Y [.inl t, .inl b] h (fun r h1 => h1 = h ∧ r = if 0 ≤ t ∧ t ≤ 20 ∧ 0 ≤ b ∧ b < 10 then 1 else 0) := by
  refine am_Met.of (by decide) rfl (Nat.le_of_ble_eq_true rfl) (ab_Best_isInside_0 ?_)
  simp only [am_qI_s]
  grind
theorem ac_valueAt {t b : Int} (hY : am_at Y o am_L0) : am_cJ am_Best_valueAt (d + 1) Y [.inr (.inr o), .inl t, .inl b] h (fun r h1 => h1 = h ∧ r = if 0 ≤ t ∧ t ≤ 20 ∧ 0 ≤ b ∧ b < 10 then h (o + 1) (t * 10 + b).toNat else 0) := by
  refine am_Met.of (by decide) rfl (Nat.le_of_ble_eq_true rfl) (ab_Best_valueAt_0 hY ?_)
  refine am_kI.of (ac_isInside (d := d)) (by omega) ?_
  rintro x h1 - - ⟨rfl, rfl⟩
  simp only [am_qJ_s]
  unfold am_ri
  grind
theorem ac_actAt {t b : Int} (hY : am_at Y o am_L0) : am_cI am_Best_actAt (d + 1) Y [.inr (.inr o), .inl t, .inl b] h (fun r h1 => h1 = h ∧ r = if 0 ≤ t ∧ t ≤ 20 ∧ 0 ≤ b ∧ b < 10 then h (o + 2) (t * 10 + b).toNat else 0) := by
  refine am_Met.of (by decide) rfl (Nat.le_of_ble_eq_true rfl) (ab_Best_actAt_0 hY ?_)
  refine am_kI.of (ac_isInside (d := d)) (by omega) ?_
  rintro x h1 - - ⟨rfl, rfl⟩
  simp only [am_qI_s]
  unfold am_ri
  grind
theorem ac_put {t b x a : Int} (hY : am_at Y o am_L0) (ht : 0 ≤ t ∧ t ≤ 20) (hb : 0 ≤ b ∧ b < 10) : am_cV am_Best_put (d + 1) Y [.inr (.inr o), .inl t, .inl b, .inr (.inl x), .inl a] h (fun h1 => bset h h1 o (t * 10 + b).toNat x a) := by
  refine am_Met.of (by decide) rfl (Nat.le_of_ble_eq_true rfl) (ab_Best_put_0 hY ?_)
  refine am_kI.of (ac_isInside (d := d)) (by omega) ?_
  rintro y h1 - - ⟨rfl, rfl⟩
  simp only [am_qV_s]
  unfold am_ri
  refine ⟨fun z => by simp [ht, hb] at z, fun _ => ⟨by omega, by omega, by omega, fun h3 e3 => ⟨by omega, by omega, by omega, fun h4 e4 => ⟨fun q q1 q2 => ?_, fun j => ?_, fun j => ?_⟩⟩⟩⟩
  · rw [e4, am_u_n _ _ _ _ q q2, e3, am_u_n _ _ _ _ q q1]
  · rw [e4, am_u_n _ _ _ _ (o + 1) (by omega), e3]; simp [am_u]
  · rw [e4]; simp only [am_u]; rw [e3, am_u_n _ _ _ _ (o + 2) (by omega)]; simp
/-- the numbers of h and n in a village, as the tables take them -/
def bRow (h : am_H) (o : Nat) (t : Int) : Nat → Int := fun b => h (o + 1) (t * 10 + b).toNat
def bQ (h : am_H) (o v : Nat) (law : Int) : bP := (h o 2, h o 3, h o 4, h v 4, h v 6, h v 5, law)
theorem ac_fillFree {t law : Int} (hY : am_at Y o am_L0) (hv : am_at Y v am_L9) (hd : v + 11 ≤ o ∨ o + 3 ≤ v) (ht : 1 ≤ t ∧ t ≤ 20) (hb : 0 ≤ h v 4 ∧ h v 4 ≤ 9) : am_cV am_Best_fillFree (d + 2) Y [.inr (.inr o), .inr (.inr v), .inl t, .inl law] h (fun h1 => bset h h1 o (t * 10).toNat (bF (bQ h o v law) (bRow h o (t - 1))) (bFa (bQ h o v law) (bRow h o (t - 1)))) := by
  refine am_Met.of (by decide) rfl (Nat.le_of_ble_eq_true rfl) (ab_Best_fillFree_0 hY hv ?_)
  have hval : ∀ (h0 : am_H) (t b : Int) (K : Int → am_H → Prop), 0 ≤ t → t ≤ 20 → 0 ≤ b → b < 10 → K (h0 (o + 1) (t * 10 + b).toNat) h0 → am_kJ am_Best_valueAt (d + 2) Y [.inr (.inr o), .inl t, .inl b] h0 K := fun h0 t b K a1 a2 a3 a4 hK =>
    am_kJ.of (ac_valueAt (d := d) hY) (by omega) (by rintro x h1 - - ⟨rfl, rfl⟩; rw [if_pos ⟨a1, a2, a3, a4⟩]; exact hK)
  have hput : ∀ (h0 : am_H) (x a : Int) (K : am_H → Prop), (∀ h1, bset h0 h1 o (t * 10).toNat x a → K h1) → am_kV am_Best_put (d + 2) Y [.inr (.inr o), .inl t, .inl 0, .inr (.inl x), .inl a] h0 K := fun h0 x a K hK =>
    am_kV.of (ac_put (d := d) hY (by omega) (by omega)) (by omega) (fun h1 _ hs => hK h1 (by simpa using hs))
  -- the last part: by day
  have k3 : ∀ (h0 : am_H), bset h h0 o (t * 10).toNat (bM (bQ h o v law) (bRow h o (t - 1))) (if bRow h o (t - 1) 0 < bN (bQ h o v law) (bRow h o (t - 1)) then 1 else 0) →
      am_wp am_Best_fillFree (d + 2) Y 126 [some (.inr (.inr o)), none, some (.inl t), none, none, none, none, none, none, none, some (.inr (.inl (am_wl (h o 2 + bX (bQ h o v law) (bRow h o (t - 1)))))), none] [] h0 (am_qV (fun h1 => bset h h1 o (t * 10).toNat (bF (bQ h o v law) (bRow h o (t - 1))) (bFa (bQ h o v law) (bRow h o (t - 1))))) := by
    intro h0 g
    refine ab_Best_fillFree_126 hY hv ?_
    refine hval _ _ _ _ (by omega) (by omega) (by omega) (by omega) ?_
    have e1 : h0 (o + 1) (t * 10 + 0).toNat = bM (bQ h o v law) (bRow h o (t - 1)) := by
      rw [g.2.1]; simp
    rw [e1]
    simp only [am_qV_s]
    refine ⟨fun c => hput _ _ _ _ (fun h3 g3 => ?_), fun c => ?_, fun c => ?_⟩
    · have := g.two g3
      unfold bF bFa
      have c' : bM (bQ h o v law) (bRow h o (t - 1)) < am_wl ((bQ h o v law).1 + bX (bQ h o v law) (bRow h o (t - 1))) := c
      rw [if_pos c', if_pos c']
      exact this
    · unfold bF bFa
      have c' : ¬ bM (bQ h o v law) (bRow h o (t - 1)) < am_wl ((bQ h o v law).1 + bX (bQ h o v law) (bRow h o (t - 1))) := fun z => by
        have z' : bM (bQ h o v law) (bRow h o (t - 1)) < am_wl (h o 2 + bX (bQ h o v law) (bRow h o (t - 1))) := z
        omega
      rw [if_neg c', if_neg c']
      exact g
    · unfold bF bFa
      have c' : ¬ bM (bQ h o v law) (bRow h o (t - 1)) < am_wl ((bQ h o v law).1 + bX (bQ h o v law) (bRow h o (t - 1))) := fun z => by
        have z' : bM (bQ h o v law) (bRow h o (t - 1)) < am_wl (h o 2 + bX (bQ h o v law) (bRow h o (t - 1))) := z
        omega
      rw [if_neg c', if_neg c']
      exact g
  -- the middle: none, by night
  have k2 : am_wp am_Best_fillFree (d + 2) Y 53 [some (.inr (.inr o)), none, some (.inl t), none, some (.inr (.inl (bRow h o (t - 1) 0))), none, some (.inr (.inl (bX (bQ h o v law) (bRow h o (t - 1))))), none, none, none, none, none] [] h (am_qV (fun h1 => bset h h1 o (t * 10).toNat (bF (bQ h o v law) (bRow h o (t - 1))) (bFa (bQ h o v law) (bRow h o (t - 1))))) := by
    refine ab_Best_fillFree_53 hY hv ⟨by decide, am_tdr (am_wlr _), by decide, am_tdr (am_wlr _), ?_⟩
    refine hput _ _ _ _ (fun h1 g1 => ?_)
    refine hval _ _ _ _ (by omega) (by omega) (by omega) (by omega) ?_
    have e1 : h1 (o + 1) (t * 10 + 0).toNat = bRow h o (t - 1) 0 := by
      rw [g1.2.1]; simp
    rw [e1]
    refine ⟨fun c => hput _ _ _ _ (fun h4 g4 => ?_), fun c => ?_, fun c => ?_⟩
    · have c' : bRow h o (t - 1) 0 < bN (bQ h o v law) (bRow h o (t - 1)) := c
      have g5 := g1.two g4
      refine k3 h4 ?_
      unfold bM
      rw [if_pos c', if_pos c']
      exact g5
    · have c' : ¬ bRow h o (t - 1) 0 < bN (bQ h o v law) (bRow h o (t - 1)) := fun z => by
        have c2 : bN (bQ h o v law) (bRow h o (t - 1)) = bRow h o (t - 1) 0 := c
        omega
      refine k3 h1 ?_
      unfold bM
      rw [if_neg c', if_neg c']
      exact g1
    · have c' : ¬ bRow h o (t - 1) 0 < bN (bQ h o v law) (bRow h o (t - 1)) := fun z => by
        have c2 : bN (bQ h o v law) (bRow h o (t - 1)) < bRow h o (t - 1) 0 := c
        omega
      refine k3 h1 ?_
      unfold bM
      rw [if_neg c', if_neg c']
      exact g1
  refine ⟨⟨by omega, by omega⟩, hval _ _ _ _ (by omega) (by omega) (by omega) (by omega) ⟨fun c0 => ⟨fun c2 => ?_, fun c2 => ?_⟩, fun c0 => ⟨⟨by omega, by omega⟩, hval _ _ _ _ (by omega) (by omega) (by omega) (by omega) ?_⟩⟩⟩
  · have e : bX (bQ h o v law) (bRow h o (t - 1)) = h (o + 1) ((t - 1) * 10 + 0).toNat := by
      show (if law = 0 then bRow h o (t - 1) (h v 4).toNat else if law = 2 then am_wl (bRow h o (t - 1) 0 + am_wl (1000000 * h v 6)) else bRow h o (t - 1) 0) = _
      rw [if_neg c0, if_neg c2]
      rfl
    rw [e] at k2
    exact k2
  · have e : bX (bQ h o v law) (bRow h o (t - 1)) = am_wl (h (o + 1) ((t - 1) * 10 + 0).toNat + am_wl (1000000 * h v 6)) := by
      show (if law = 0 then bRow h o (t - 1) (h v 4).toNat else if law = 2 then am_wl (bRow h o (t - 1) 0 + am_wl (1000000 * h v 6)) else bRow h o (t - 1) 0) = _
      rw [if_neg c0, if_pos c2]
      rfl
    rw [e] at k2
    exact k2
  · have e : bX (bQ h o v law) (bRow h o (t - 1)) = h (o + 1) ((t - 1) * 10 + h v 4).toNat := by
      show (if law = 0 then bRow h o (t - 1) (h v 4).toNat else if law = 2 then am_wl (bRow h o (t - 1) 0 + am_wl (1000000 * h v 6)) else bRow h o (t - 1) 0) = _
      rw [if_pos c0]
      show h (o + 1) ((t - 1) * 10 + ((h v 4).toNat : Int)).toNat = _
      rw [Int.toNat_of_nonneg hb.1]
    rw [e] at k2
    exact k2
theorem ac_fillBound {t b : Int} (hY : am_at Y o am_L0) (hv : am_at Y v am_L9) (ht : 1 ≤ t ∧ t ≤ 20) (hb : 1 ≤ b ∧ b < 10) (law : Int) : am_cV am_Best_fillBound (d + 2) Y [.inr (.inr o), .inr (.inr v), .inl t, .inl b] h (fun h1 => bset h h1 o (t * 10 + b).toNat (max (bS (bQ h o v law) (bRow h o (t - 1)) b.toNat) (bL (bQ h o v law) (bRow h o (t - 1)))) (if bL (bQ h o v law) (bRow h o (t - 1)) ≤ bS (bQ h o v law) (bRow h o (t - 1)) b.toNat then 2 else 3)) := by
  refine am_Met.of (by decide) rfl (Nat.le_of_ble_eq_true rfl) (ab_Best_fillBound_0 hY hv ?_)
  have hval : ∀ (h0 : am_H) (t b : Int) (K : Int → am_H → Prop), 0 ≤ t → t ≤ 20 → 0 ≤ b → b < 10 → K (h0 (o + 1) (t * 10 + b).toNat) h0 → am_kJ am_Best_valueAt (d + 2) Y [.inr (.inr o), .inl t, .inl b] h0 K := fun h0 t b K a1 a2 a3 a4 hK =>
    am_kJ.of (ac_valueAt (d := d) hY) (by omega) (by rintro x h1 - - ⟨rfl, rfl⟩; rw [if_pos ⟨a1, a2, a3, a4⟩]; exact hK)
  have eS : bS (bQ h o v law) (bRow h o (t - 1)) b.toNat = am_wl (h o 2 + h (o + 1) ((t - 1) * 10 + (b - 1)).toNat) := by
    show am_wl (h o 2 + h (o + 1) ((t - 1) * 10 + ((b.toNat - 1 : Nat) : Int)).toNat) = _
    rw [show ((b.toNat - 1 : Nat) : Int) = b - 1 by omega]
  have eL : bL (bQ h o v law) (bRow h o (t - 1)) = am_wl (h (o + 1) ((t - 1) * 10 + 0).toNat - am_wl (1000000 * h v 5)) := rfl
  rw [eS, eL]
  refine ⟨⟨by omega, by omega⟩, ⟨by omega, by omega⟩, hval _ _ _ _ (by omega) (by omega) (by omega) (by omega) ⟨⟨by omega, by omega⟩, hval _ _ _ _ (by omega) (by omega) (by omega) (by omega) ⟨by omega, fun c => ?_, fun c => ?_, fun c => ?_⟩⟩⟩
  · refine am_kV.of (ac_put (d := d) hY (by omega) (by omega)) (by omega) (fun h1 _ hs => ?_)
    rw [am_qV_s, if_pos (by omega)]
    exact hs
  · refine am_kV.of (ac_put (d := d) hY (by omega) (by omega)) (by omega) (fun h1 _ hs => ?_)
    rw [am_qV_s, if_pos (by omega)]
    exact hs
  · refine am_kV.of (ac_put (d := d) hY (by omega) (by omega)) (by omega) (fun h1 _ hs => ?_)
    rw [am_qV_s, if_neg (by omega)]
    exact hs
end

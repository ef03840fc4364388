/-! contracts: found, the whole table -/
def fPr (s : Nat → Int) (p : Int) : Nat → Int
  | 0 => 1
  | q + 1 => if (q : Int) = p then fPr s p q else am_w (fPr s p q * am_w (10 - s q))
theorem fPr_congr {s s' : Nat → Int} {p : Int} : ∀ n : Nat, (∀ q, q < n → s q = s' q) → fPr s p n = fPr s' p n
  | 0, _ => rfl
  | n + 1, h => by
    unfold fPr
    rw [fPr_congr n (fun q hq => h q (by omega)), h n (by omega)]
def fPa (s : Nat → Int) (p : Int) : Int := am_w (10000000 - fPr s p 8)
section
variable {d : Nat} {Y : am_Y} {h : am_H} {o v : Nat}
theorem ac_foundParts {p : Int} (hY : am_at Y v am_L9) (hv : vo h v) : am_cI am_Village_foundParts (d + 2) Y [.inr (.inr v), .inl p] h (fun r h1 => h1 = h ∧ r = fPa (fun q => vsi h v q p) p) := by
  refine am_Met.of (by decide) rfl (Nat.le_of_ble_eq_true rfl) (ab_Village_foundParts_0 hY ?_)
  refine am_up (fun i => ∀ z : Int, 0 ≤ i → i ≤ 8 → z = fPr (fun q => vsi h v q p) p i.toNat → am_wp am_Village_foundParts (d + 2) Y 4 [some (.inr (.inr v)), some (.inl p), some (.inl z), some (.inl i)] [] h (am_qI _)) 8 ?_ ?_ 0 1 (by omega) (by omega) rfl
  · intro i hi z g0 g1 g2
    refine ab_Village_foundParts_4 hY ?_
    simp only [am_qI_s]
    have e : i = 8 := by omega
    subst e
    refine ⟨fun _ => ⟨trivial, by rw [g2]; rfl⟩, fun _ => by omega⟩
  · intro i hi ih z g0 g1 g2
    refine am_wp.rg fun _ hll _ => ?_
    have hz : am_ri z := hll 2 (.inl z) rfl
    refine ab_Village_foundParts_4 hY ?_
    have en : fPr (fun q => vsi h v q p) p (i + 1).toNat = if i = p then z else am_w (z * am_w (10 - vsi h v i p)) := by
      rw [show (i + 1).toNat = i.toNat + 1 by omega]
      unfold fPr
      rw [Int.toNat_of_nonneg g0, ← g2]
    refine ⟨fun _ => by omega, fun _ => ⟨fun c => ?_, fun c => ⟨⟨by omega, by omega⟩, ih _ (by omega) (by omega) ?_⟩⟩⟩
    · refine am_kI.of (ac_sight (d := d) hY hv) (by omega) ?_
      rintro x h1 - - ⟨rfl, rfl⟩
      refine ⟨⟨by omega, by omega⟩, ih _ (by omega) (by omega) ?_⟩
      rw [en, if_neg c]
    · rw [en, if_pos c, Int.mul_one, am_w_of hz]
theorem bV_s (P : bP) (t b : Nat) : bV P (t + 1) b = if b = 0 then bF P (bV P t) else max (bS P (bV P t) b) (bL P (bV P t)) := rfl
theorem bA_s (P : bP) (t b : Nat) : bA P (t + 1) b = if b = 0 then bFa P (bV P t) else if bL P (bV P t) ≤ bS P (bV P t) b then 2 else 3 := rfl
/-- day, night and found of helper p for need n in a village -/
def bDay (h : am_H) (v : Nat) (p n : Int) : Int := am_wl (am_wl (am_wl (100000 * vfr h v p (h (v + 9) n.toNat)) * h (v + 2) (h (v + 10) n.toNat).toNat) - am_wl (1000000 * vp h v p (h (v + 10) n.toNat)))
def bNig (h : am_H) (v : Nat) (p n : Int) : Int := am_wl (bDay h v p n - am_wl (1000000 * h (v + 3) (h (v + 10) n.toNat).toNat))
def bPof (h : am_H) (v : Nat) (p n law : Int) : bP := (bDay h v p n, bNig h v p n, fPa (fun q => vsi h v q p) p, h v 4, h v 6, h v 5, law)
/-- a village's cells are what they were: all that is read of it is -/
theorem vsame {h h1 : am_H} {v : Nat} (hs : ∀ q, v ≤ q → q < v + 11 → h1 q = h q) : (∀ p k, vp h1 v p k = vp h v p k) ∧ (∀ p q, vfr h1 v p q = vfr h v p q) ∧ (∀ p q, vsi h1 v p q = vsi h v p q) ∧ (∀ p n, vcm h1 v p n = vcm h v p n) ∧ (vo h v → vo h1 v) := by
  have e0 := hs v (by omega) (by omega)
  have e : ∀ j, j < 11 → h1 (v + j) = h (v + j) := fun j hj => hs (v + j) (by omega) (by omega)
  have e6 := e 6 (by omega); have e7 := e 7 (by omega); have e8 := e 8 (by omega); have e9 := e 9 (by omega); have e10 := e 10 (by omega)
  refine ⟨fun p k => ?_, fun p q => ?_, fun p q => ?_, fun p n => ?_, fun hv => ?_⟩
  · unfold vp; rw [e0, e6]
  · unfold vfr; rw [e0, e7]
  · unfold vsi; rw [e0, e8]
  · unfold vcm vp; rw [e0, e6, e9, e10]
  · unfold vo at *; rw [e0]; exact hv
theorem vsame_b {h h1 : am_H} {v : Nat} (hs : ∀ q, v ≤ q → q < v + 11 → h1 q = h q) (p n law : Int) : bPof h1 v p n law = bPof h v p n law := by
  obtain ⟨s1, s2, s3, s4, s5⟩ := vsame hs
  have e0 := hs v (by omega) (by omega)
  have e : ∀ j, j < 11 → h1 (v + j) = h (v + j) := fun j hj => hs (v + j) (by omega) (by omega)
  have e2 := e 2 (by omega); have e3 := e 3 (by omega); have e9 := e 9 (by omega); have e10 := e 10 (by omega)
  unfold bPof bNig bDay
  simp only [s1, s2, s3, e0, e2, e3, e9, e10]
/-- what the tables hold for all years up to t -/
def bOK (h : am_H) (o : Nat) (P : bP) (t : Int) : Prop := ∀ (i b : Nat), (i : Int) ≤ t → (b : Int) ≤ P.2.2.2.1 → h (o + 1) (i * 10 + b) = bV P i b ∧ h (o + 2) (i * 10 + b) = bA P i b
theorem bX_congr {P : bP} {V V' : Nat → Int} (hb : 0 ≤ P.2.2.2.1) (h : ∀ b : Nat, (b : Int) ≤ P.2.2.2.1 → V b = V' b) : bX P V = bX P V' ∧ bN P V = bN P V' ∧ bM P V = bM P V' ∧ bF P V = bF P V' ∧ bFa P V = bFa P V' ∧ bL P V = bL P V' := by
  have h0 := h 0 (by simpa using hb)
  have hbb := h P.2.2.2.1.toNat (by omega)
  have eX : bX P V = bX P V' := by unfold bX; rw [h0, hbb]
  have eN : bN P V = bN P V' := by unfold bN; rw [eX, h0]
  have eM : bM P V = bM P V' := by unfold bM; rw [eN, h0]
  exact ⟨eX, eN, eM, by unfold bF; rw [eX, eM], by unfold bFa; rw [eX, eM, eN, h0], by unfold bL; rw [h0]⟩
theorem ac_Best_fill {p n t law : Int} (hY : am_at Y o am_L0) (hY1 : am_at Y v am_L9) (hd : v + 11 ≤ o ∨ o + 3 ≤ v) (hv : vo h v) (hb : 0 ≤ h v 4 ∧ h v 4 ≤ 9) (hc : vcm h v p n = 1) (hk : 0 ≤ h (v + 10) n.toNat ∧ h (v + 10) n.toNat < 6) (ht : 0 ≤ t ∧ t ≤ 20) : am_cV am_Best_fill (d + 3) Y [.inr (.inr o), .inr (.inr v), .inl p, .inl n, .inl t, .inl law] h (fun h1 => (∀ q, q ≠ o → q ≠ o + 1 → q ≠ o + 2 → h1 q = h q) ∧ bOK h1 o (bPof h v p n law) t) := by
  refine am_Met.of (by decide) rfl (Nat.le_of_ble_eq_true rfl) (ab_Best_fill_0 hY hY1 ?_)
  have hv' := hv
  unfold vo at hv'
  refine am_kV.of (ac_fillJ (d := 0) (hY 1 _ rfl) (by omega)) (by omega) (fun h1 _ f1 => ?_)
  refine am_kV.of (ac_fillI (d := 0) (hY 2 _ rfl) (by omega)) (by omega) (fun h2 _ f2 => ?_)
  have s2 : ∀ q, q ≠ o → q ≠ o + 1 → q ≠ o + 2 → h2 q = h q := fun q q0 q1 q2 => (f2.1 q q2).trans (f1.1 q q1)
  have v2 : ∀ q, v ≤ q → q < v + 11 → h2 q = h q := fun q a b => s2 q (by omega) (by omega) (by omega)
  obtain ⟨w1, w2, w3, w4, w5⟩ := vsame v2
  have hv2 := w5 hv
  have e9 := v2 (v + 9) (by omega) (by omega)
  have e10 := v2 (v + 10) (by omega) (by omega)
  have hn : 0 ≤ n ∧ n < h v 3 := by
    unfold vcm at hc
    by_cases c : 0 ≤ p ∧ p < h v 2 ∧ 0 ≤ n ∧ n < h v 3 ∧ p ≠ h (v + 9) n.toNat ∧ 0 < vp h v p (h (v + 10) n.toNat)
    · exact ⟨c.2.2.1, c.2.2.2.1⟩
    · rw [if_neg c] at hc; omega
  refine am_kI.of (ac_canMeet (d := d + 1) hY1 hv2) (by omega) ?_
  rintro x h3 - - ⟨rfl, rfl⟩
  rw [w4, hc]
  refine ⟨fun _ => ⟨⟨hn.1, by omega⟩, ⟨hn.1, by omega⟩, ?_⟩, fun z => by omega⟩
  refine am_kI.of (ac_friendship (d := d + 1) hY1 hv2) (by omega) ?_
  rintro x h4 - - ⟨rfl, rfl⟩
  rw [e10, e9]
  refine ⟨hk, ?_⟩
  refine am_kI.of (ac_painsOf (d := d) hY1 hv2) (by omega) ?_
  rintro x h5 - - ⟨rfl, rfl⟩
  intro h9 e9' 
  refine ⟨hk, fun h10 e10' => ?_⟩
  have s10 : ∀ q, q ≠ o → h10 q = h5 q := fun q q0 => by rw [e10', am_u_n _ _ _ _ q q0, e9', am_u_n _ _ _ _ q q0]
  have v10 : ∀ q, v ≤ q → q < v + 11 → h10 q = h q := fun q a b => (s10 q (by omega)).trans (v2 q a b)
  obtain ⟨u1, u2, u3, u4, u5⟩ := vsame v10
  refine am_kI.of (ac_foundParts (d := d) hY1 (u5 hv)) (by omega) ?_
  rintro x h11 - - ⟨rfl, rfl⟩
  intro h13 e13
  -- the numbers of the table's object
  have s13 : ∀ q, q ≠ o → h13 q = h5 q := fun q q0 => by rw [e13, am_u_n _ _ _ _ q q0, s10 q q0]
  have v13 : ∀ q, v ≤ q → q < v + 11 → h13 q = h q := fun q a b => (s13 q (by omega)).trans (v2 q a b)
  have eo2 : h13 o 2 = bDay h v p n := by
    rw [e13, am_u_j (by omega), e10', am_u_j (by omega), e9', am_u_s, w2, w1]
    unfold bDay
    rw [v2 (v + 2) (by omega) (by omega)]
  have eo3 : h13 o 3 = bNig h v p n := by
    rw [e13, am_u_j (by omega), e10', am_u_s]
    have e92 : h9 o 2 = bDay h v p n := by
      rw [e9', am_u_s, w2, w1]
      unfold bDay
      rw [v2 (v + 2) (by omega) (by omega)]
    have e93 : h9 (v + 3) = h (v + 3) := by rw [e9', am_u_n _ _ _ _ (v + 3) (by omega), v2 (v + 3) (by omega) (by omega)]
    rw [e92, e93]
    rfl
  have eo4 : h13 o 4 = fPa (fun q => vsi h v q p) p := by
    rw [e13, am_u_s]
    congr 1
    funext q
    exact u3 q p
  have hQ : ∀ (hh : am_H), hh o 2 = h13 o 2 → hh o 3 = h13 o 3 → hh o 4 = h13 o 4 → hh v = h v → bQ hh o v law = bPof h v p n law := by
    intro hh a b c d
    unfold bQ bPof
    rw [a, b, c, d, eo2, eo3, eo4]
  have z13 : ∀ j, j < 210 → h13 (o + 1) j = 0 ∧ h13 (o + 2) j = 0 := fun j hj => by
    rw [s13 (o + 1) (by omega), s13 (o + 2) (by omega)]
    exact ⟨by rw [f2.1 (o + 1) (by omega)]; exact f1.2 j hj, f2.2 j hj⟩
  generalize hPe : bPof h v p n law = P at hQ ⊢
  have hPb : P.2.2.2.1 = h v 4 := by rw [← hPe]; rfl
  -- the loop of the years
  have step : ∀ t' b : Int, ∀ hh : am_H, 1 ≤ t' → t' ≤ 20 → (∀ q, q ≠ o + 1 → q ≠ o + 2 → hh q = h13 q) → bOK hh o P (t' - 1) → True := fun _ _ _ _ _ _ _ => trivial
  refine am_up (fun i => ∀ hh : am_H, 1 ≤ i → i ≤ t + 1 → (∀ q, q ≠ o + 1 → q ≠ o + 2 → hh q = h13 q) → bOK hh o P (i - 1) → am_wp am_Best_fill (d + 3) Y 114 [some (.inr (.inr o)), some (.inr (.inr v)), none, none, some (.inl t), some (.inl law), none, none, none, some (.inl i), none] [] hh (am_qV (fun h1 => (∀ q, q ≠ o → q ≠ o + 1 → q ≠ o + 2 → h1 q = h q) ∧ bOK h1 o P t))) (t + 1) ?_ ?_ 1 h13 (by omega) (by omega) (fun q _ _ => rfl) ?_
  · intro i hi hh g0 g1 g2 g3
    refine ab_Best_fill_114 hY hY1 ?_
    simp only [am_qV_s]
    refine ⟨fun _ => ⟨fun q q0 q1 q2 => ?_, ?_⟩, fun _ => by omega⟩
    · rw [g2 q q1 q2, s13 q q0]
      exact s2 q q0 q1 q2
    · rw [show i - 1 = t by omega] at g3
      exact g3
  · intro i hi ih hh g0 g1 g2 g3
    refine ab_Best_fill_114 hY hY1 ?_
    refine ⟨fun _ => by omega, fun _ => ⟨fun _ => by omega, fun _ => ?_⟩⟩
    have hhv : ∀ q, v ≤ q → q < v + 11 → hh q = h q := fun q a b => (g2 q (by omega) (by omega)).trans (v13 q a b)
    have hh4 : hh v 4 = h v 4 := by rw [hhv v (by omega) (by omega)]
    have ho : hh o = h13 o := g2 o (by omega) (by omega)
    have hrow : ∀ b : Nat, (b : Int) ≤ P.2.2.2.1 → bRow hh o (i - 1) b = bV P (i - 1).toNat b := fun b hbb => by
      have := (g3 (i - 1).toNat b (by omega) hbb).1
      unfold bRow
      rw [show ((i - 1) * 10 + (b : Int)).toNat = (i - 1).toNat * 10 + b by omega]
      exact this
    have hQi := hQ hh (by rw [ho]) (by rw [ho]) (by rw [ho]) (hhv v (by omega) (by omega))
    obtain ⟨x1, x2, x3, x4, x5, x6⟩ := bX_congr (P := P) (V := bRow hh o (i - 1)) (V' := bV P (i - 1).toNat) (by rw [hPb]; exact hb.1) hrow
    refine am_kV.of (ac_fillFree (d := d) hY hY1 hd (by omega) (by rw [hh4]; exact hb)) (by omega) (fun k1 _ fs => ?_)
    rw [hQi, x4, x5] at fs
    -- the loop of the bound years
    have kv : ∀ k : am_H, (∀ q, q ≠ o + 1 → q ≠ o + 2 → k q = hh q) → ∀ q, v ≤ q → q < v + 11 → k q = h q := fun k hk q a b => (hk q (by omega) (by omega)).trans (hhv q a b)
    have e0 : bV P (i - 1 + 1).toNat 0 = bF P (bV P (i - 1).toNat) ∧ bA P (i - 1 + 1).toNat 0 = bFa P (bV P (i - 1).toNat) := by
      rw [show (i - 1 + 1).toNat = (i - 1).toNat + 1 by omega, bV_s, bA_s, if_pos rfl, if_pos rfl]
      exact ⟨rfl, rfl⟩
    rw [show i - 1 + 1 = i by omega] at e0
    refine am_up (fun j => ∀ k : am_H, 1 ≤ j → j ≤ h v 4 + 1 → (∀ q, q ≠ o + 1 → q ≠ o + 2 → k q = hh q) → (∀ a : Nat, (a : Int) < j → k (o + 1) (i.toNat * 10 + a) = bV P i.toNat a ∧ k (o + 2) (i.toNat * 10 + a) = bA P i.toNat a) → (∀ a : Nat, a < i.toNat * 10 → k (o + 1) a = hh (o + 1) a ∧ k (o + 2) a = hh (o + 2) a) → am_wp am_Best_fill (d + 3) Y 140 [some (.inr (.inr o)), some (.inr (.inr v)), none, none, some (.inl t), some (.inl law), none, none, none, some (.inl i), some (.inl j)] [] k (am_qV (fun h1 => (∀ q, q ≠ o → q ≠ o + 1 → q ≠ o + 2 → h1 q = h q) ∧ bOK h1 o P t))) (h v 4 + 1) ?_ ?_ 1 k1 (by omega) (by omega) fs.1 ?_ ?_
    · intro j hj k c0 c1 c2 c3 c4
      refine ab_Best_fill_140 hY hY1 ?_
      have kb : k v 4 = h v 4 := by rw [kv k c2 v (by omega) (by omega)]
      have fin : am_wp am_Best_fill (d + 3) Y 114 [some (.inr (.inr o)), some (.inr (.inr v)), none, none, some (.inl t), some (.inl law), none, none, none, some (.inl (i + 1)), none] [] k (am_qV (fun h1 => (∀ q, q ≠ o → q ≠ o + 1 → q ≠ o + 2 → h1 q = h q) ∧ bOK h1 o P t)) := by
        refine ih k (by omega) (by omega) (fun q q1 q2 => (c2 q q1 q2).trans (g2 q q1 q2)) ?_
        intro a b ha hbb
        by_cases hai : (a : Int) = i
        · have : a = i.toNat := by omega
          subst this
          exact c3 b (by rw [hPb] at hbb; omega)
        · have hlt : a * 10 + b < i.toNat * 10 := by rw [hPb] at hbb; omega
          rw [(c4 _ hlt).1, (c4 _ hlt).2]
          exact g3 a b (by omega) hbb
      refine ⟨fun _ => ⟨⟨by omega, by omega⟩, fin⟩, fun _ => ⟨fun _ => ⟨⟨by omega, by omega⟩, fin⟩, fun _ => by omega⟩⟩
    · intro j hj ihj k c0 c1 c2 c3 c4
      refine ab_Best_fill_140 hY hY1 ?_
      have kb : k v 4 = h v 4 := by rw [kv k c2 v (by omega) (by omega)]
      refine ⟨fun _ => by omega, fun _ => ⟨fun _ => by omega, fun _ => ?_⟩⟩
      have ko : k o = h13 o := (c2 o (by omega) (by omega)).trans ho
      have hQk := hQ k (by rw [ko]) (by rw [ko]) (by rw [ko]) (kv k c2 v (by omega) (by omega))
      have hrowk : ∀ b : Nat, (b : Int) ≤ P.2.2.2.1 → bRow k o (i - 1) b = bV P (i - 1).toNat b := fun b hbb => by
        rw [← hrow b hbb]
        unfold bRow
        exact (c4 _ (by rw [hPb] at hbb; omega)).1
      obtain ⟨y1, y2, y3, y4, y5, y6⟩ := bX_congr (P := P) (V := bRow k o (i - 1)) (V' := bV P (i - 1).toNat) (by rw [hPb]; exact hb.1) hrowk
      refine am_kV.of (ac_fillBound (d := d) hY hY1 (by omega) (by omega) law) (by omega) (fun k2 _ gs => ?_)
      have eS : bS P (bRow k o (i - 1)) j.toNat = bS P (bV P (i - 1).toNat) j.toNat := by
        unfold bS
        rw [hrowk (j.toNat - 1) (by rw [hPb]; omega)]
      rw [hQk, y6, eS] at gs
      refine ⟨⟨by omega, by omega⟩, ihj k2 (by omega) (by omega) (fun q q1 q2 => (gs.1 q q1 q2).trans (c2 q q1 q2)) (fun a ha => ?_) (fun a ha => ?_)⟩
      · rw [gs.2.1, gs.2.2]
        by_cases haj : (a : Int) = j
        · have : a = j.toNat := by omega
          subst this
          rw [if_pos (by omega), if_pos (by omega)]
          have es : i.toNat = (i - 1).toNat + 1 := by omega
          have hj0 : ¬ j.toNat = 0 := by omega
          rw [es, bV_s, bA_s, if_neg hj0, if_neg hj0]
          exact ⟨rfl, rfl⟩
        · rw [if_neg (by omega), if_neg (by omega)]
          exact c3 a (by omega)
      · rw [gs.2.1, gs.2.2, if_neg (by omega), if_neg (by omega)]
        exact c4 a ha
    · intro a ha
      have : a = 0 := by omega
      subst this
      rw [fs.2.1, fs.2.2, if_pos (by omega), if_pos (by omega), e0.1, e0.2]
      exact ⟨rfl, rfl⟩
    · intro a ha
      rw [fs.2.1, fs.2.2, if_neg (by omega), if_neg (by omega)]
      exact ⟨rfl, rfl⟩
  · intro a b ha hbb
    have : a = 0 := by omega
    subst this
    have := z13 (0 * 10 + b) (by rw [hPb] at hbb; omega)
    rw [this.1, this.2]
    exact ⟨rfl, rfl⟩
end

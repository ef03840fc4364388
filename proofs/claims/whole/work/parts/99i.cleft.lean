/-! the class: who is left: reach, shift -/
def lcS (h : am_H) (o : Nat) (A : Nat → Int) (mo : Int) : Prop := h o 0 = A 2 ∧ h o 2 = mo ∧ ∀ i : Nat, (i : Int) < A 2 → by8 (h (o + 2) i) ∧ ∀ q : Nat, q < 8 → (hb (h (o + 2) i) (q : Int) ↔ asked A (q : Int) (i : Int))
def lcD (h : am_H) (o : Nat) (A : Nat → Int) : Prop := ∀ p : Nat, p < 8 → h (o + 3) p = lCnt (h (o + 1)) (p : Int) (A 2).toNat
def lcF (h h1 : am_H) (o : Nat) : Prop := (∀ q, q ≠ o → q ≠ o + 1 → q ≠ o + 3 → q ≠ o + 6 → q ≠ o + 7 → h1 q = h q) ∧ ∀ j, j ≠ 8 → j ≠ 9 → h1 o j = h o j
/-- how far the reaching has come -/
def lcB (h : am_H) (o : Nat) (A f : Nat → Int) (n0 : Nat) (frm : Int) : Prop :=
  by8 (h o 9) ∧ h o 8 = sm (fun p => if hb (h o 9) (p : Int) then 1 else 0) 8 ∧
  (∀ j : Nat, (j : Int) < h o 8 → 0 ≤ h (o + 6) j ∧ h (o + 6) j < 8 ∧ hb (h o 9) (h (o + 6) j)) ∧
  (∀ p : Nat, p < 8 → hb (h o 9) (p : Int) → ∃ j : Nat, (j : Int) < h o 8 ∧ h (o + 6) j = (p : Int)) ∧
  (∀ j j' : Nat, (j : Int) < h o 8 → (j' : Int) < h o 8 → h (o + 6) j = h (o + 6) j' → j = j') ∧
  ∀ j : Nat, (j : Int) < h o 8 → ∃ r : Nat, h (o + 7) (h (o + 6) j).toNat = (r : Int) ∧ (r : Int) < A 2 ∧ asked A (h (o + 6) j) (r : Int) ∧ (r = n0 ∨ frm ≤ (r : Int) ∧ ∃ j' : Nat, j' < j ∧ f r = h (o + 6) j')
section
variable {h h1 h2 : am_H} {o : Nat} {A f : Nat → Int} {mo frm : Int} {n0 : Nat}
theorem lcF.refl : lcF h h o := ⟨fun _ _ _ _ _ _ => rfl, fun _ _ _ => rfl⟩
theorem lcF.trans (a : lcF h h1 o) (b : lcF h1 h2 o) : lcF h h2 o := ⟨fun q p1 p2 p3 p4 p5 => (b.1 q p1 p2 p3 p4 p5).trans (a.1 q p1 p2 p3 p4 p5), fun j p1 p2 => (b.2 j p1 p2).trans (a.2 j p1 p2)⟩
theorem lcF.u {q j : Nat} {v : Int} (e : h1 = am_u h q j v) (hq : q = o + 1 ∨ q = o + 3 ∨ q = o + 6 ∨ q = o + 7 ∨ q = o ∧ (j = 8 ∨ j = 9)) : lcF h h1 o := by
  refine ⟨fun r p1 p2 p3 p4 p5 => by rw [e, am_u_n _ _ _ _ _ (by omega)], fun i p1 p2 => ?_⟩
  by_cases z : q = o
  · rw [e, z, am_u_j (by omega)]
  · rw [e, am_u_o (fun w => z w.symm)]
theorem lcS.but (c : lcS h o A mo) (f : lcF h h1 o) : lcS h1 o A mo := by
  obtain ⟨c1, c2, c3⟩ := c
  refine ⟨by rw [f.2 0 (by omega) (by omega)]; exact c1, by rw [f.2 2 (by omega) (by omega)]; exact c2, fun i hi => ?_⟩
  rw [f.1 (o + 2) (by omega) (by omega) (by omega) (by omega) (by omega)]
  exact c3 i hi
/-- one more bit -/
theorem bits_more {t q : Int} (t8 : by8 t) (hq : 0 ≤ q ∧ q < 8) (nq : ¬ hb t q) : sm (fun p => if hb (am_or t (am_shl 1 q)) (p : Int) then (1 : Int) else 0) 8 = sm (fun p => if hb t (p : Int) then 1 else 0) 8 + 1 ∧ 0 ≤ sm (fun p => if hb t (p : Int) then (1 : Int) else 0) 8 ∧ sm (fun p => if hb t (p : Int) then (1 : Int) else 0) 8 < 8 := by
  have ev := (ev_or t8 hq).2.2
  have qq : ((q.toNat : Nat) : Int) = q := by omega
  have e : sm (fun p => if hb (am_or t (am_shl 1 q)) (p : Int) then (1 : Int) else 0) 8 = sm (fun p => (if hb t (p : Int) then (1 : Int) else 0) + (if p = q.toNat then 1 else 0)) 8 := by
    refine sm_congr 8 fun p hp => ?_
    by_cases z : p = q.toNat
    · rw [if_pos z, if_pos ((ev p hp).mpr (Or.inl (by omega))), if_neg (by rw [z, qq]; exact nq)]
      rfl
    · rw [if_neg z]
      by_cases y : hb t (p : Int)
      · rw [if_pos y, if_pos ((ev p hp).mpr (Or.inr y))]
        rfl
      · rw [if_neg y, if_neg fun x => ((ev p hp).mp x).elim (fun x => z (by omega)) y]
        rfl
  have le : ∀ p : Nat, p < 8 → (if hb t (p : Int) then (1 : Int) else 0) ≤ 1 := fun p _ => by split <;> omega
  have g0 := sm_le (f := fun p : Nat => if hb t (p : Int) then (1 : Int) else 0) (c := 1) 8 fun p _ => by split <;> omega
  refine ⟨by rw [e, sm_add, sm_one, if_pos (by omega)], by omega, ?_⟩
  refine Int.not_le.mp fun n => ?_
  have s8 : sm (fun _ => (1 : Int)) 8 = 8 := rfl
  have t1 := sm_tight (f := fun p : Nat => if hb t (p : Int) then (1 : Int) else 0) (g := fun _ => 1) 8 le (by rw [s8]; exact n) q.toNat (by omega)
  rw [if_neg (by rw [qq]; exact nq)] at t1
  omega
end
section
variable {Y : am_Y} {h : am_H} {o d : Nat} {A f : Nat → Int} {mo frm : Int} {n0 r : Nat}
/-- what reach leaves -/
def lcR (h h1 : am_H) (o : Nat) (A f : Nat → Int) (n0 : Nat) (frm : Int) : Prop := lcB h1 o A f n0 frm ∧ (∀ q : Nat, q < 8 → hb (h o 9) (q : Int) → hb (h1 o 9) (q : Int)) ∧ h o 8 ≤ h1 o 8 ∧ (∀ j : Nat, (j : Int) < h o 8 → h1 (o + 6) j = h (o + 6) j) ∧ (∀ q, q ≠ o → q ≠ o + 6 → q ≠ o + 7 → h1 q = h q) ∧ ∀ j, j ≠ 8 → j ≠ 9 → h1 o j = h o j
theorem ac_L_reach (hY : am_at Y o am_L4) (s : lcS h o A mo) (w : wV A) (c : lcB h o A f n0 frm) (hr : (r : Int) < A 2) (hf : r = n0 ∨ frm ≤ (r : Int) ∧ ∃ j' : Nat, (j' : Int) < h o 8 ∧ f r = h (o + 6) j') : am_cV am_Left_reach d Y [.inr (.inr o), .inl (r : Int)] h (fun h1 => lcR h h1 o A f n0 frm ∧ ∀ q : Nat, asked A (q : Int) (r : Int) → hb (h1 o 9) (q : Int)) := by
  have hz := w.1.z
  unfold rz at hz
  have w2 := wr_2 w.1
  obtain ⟨a8, ab⟩ := s.2.2 r hr
  refine am_Met.of (by decide) rfl (Nat.le_of_ble_eq_true rfl) (ab_Left_reach_0 hY ?_)
  have lp : ∀ q : Int, ∀ g : am_H, 0 ≤ q → q ≤ 8 → lcR h g o A f n0 frm → (∀ p : Nat, (p : Int) < q → asked A (p : Int) (r : Int) → hb (g o 9) (p : Int)) → aw_Left_reach_2 d Y o (r : Int) q g (am_qV fun h1 => lcR h h1 o A f n0 frm ∧ ∀ q : Nat, asked A (q : Int) (r : Int) → hb (h1 o 9) (q : Int)) := by
    refine am_up (fun q => ∀ g : am_H, 0 ≤ q → q ≤ 8 → lcR h g o A f n0 frm → (∀ p : Nat, (p : Int) < q → asked A (p : Int) (r : Int) → hb (g o 9) (p : Int)) → aw_Left_reach_2 d Y o (r : Int) q g (am_qV fun h1 => lcR h h1 o A f n0 frm ∧ ∀ q : Nat, asked A (q : Int) (r : Int) → hb (h1 o 9) (q : Int))) 8 ?_ ?_
    · intro q hq g q0 q8 R1 R2
      refine ab_Left_reach_2 hY ⟨fun _ => ?_, fun z => by omega⟩
      rw [am_qV_s]
      exact ⟨R1, fun p hp => R2 p (by have := hp.1; omega) hp⟩
    · rintro q hq qh g q0 q8 ⟨⟨b1, b2, b3, b4, b5, b6⟩, k2, k3, k4, k5, k6⟩ R2
      have qq : ((q.toNat : Nat) : Int) = q := by omega
      have e2 : g (o + 2) = h (o + 2) := k5 _ (by omega) (by omega) (by omega)
      have hx := hb_not (a := h (o + 2) r) (b := g o 9) (k := q) a8 b1 (by omega)
      have abq := ab q.toNat (by omega)
      rw [qq] at abq
      refine ab_Left_reach_2 hY ⟨fun z => by omega, fun _ => ⟨by omega, ?_⟩⟩
      rw [Int.toNat_natCast, e2]
      refine ⟨fun z => ⟨by unfold am_ri; omega, qh g (by omega) (by omega) ⟨⟨b1, b2, b3, b4, b5, b6⟩, k2, k3, k4, k5, k6⟩ fun p hp ap => ?_⟩, fun z => ?_⟩
      · by_cases pq : (p : Int) = q
        · rw [pq] at ap ⊢
          exact Classical.byContradiction fun nb => z (hx.2.mpr ⟨abq.mpr ap, nb⟩)
        · exact R2 p (by omega) ap
      · obtain ⟨z1, z2⟩ := hx.2.mp z
        have ask := abq.mp z1
        have more := bits_more b1 ⟨q0, hq⟩ z2
        have ev := ev_or (x := g o 9) (p := q) b1 ⟨q0, hq⟩
        refine ⟨fun full => by omega, fun room h1 e1 => ⟨by omega, fun h2 e2' => ?_⟩⟩
        have o8 : h2 o 8 = g o 8 := by rw [e2', am_u_n _ _ _ _ _ (by omega), e1, am_u_j (by omega)]
        rw [o8]
        refine ⟨by omega, fun h3 e3 => ?_⟩
        have o83 : h3 o 8 = g o 8 := by rw [e3, am_u_n _ _ _ _ _ (by omega), o8]
        rw [o83]
        refine ⟨by unfold am_ri; omega, fun h4 e4 => ⟨by unfold am_ri; omega, ?_⟩⟩
        have t8 : h4 o 8 = g o 8 + 1 := by rw [e4, am_u_s]
        have t9 : h4 o 9 = am_or (g o 9) (am_shl 1 q) := by rw [e4, am_u_j (by omega), e3, am_u_n _ _ _ _ _ (by omega), e2', am_u_n _ _ _ _ _ (by omega), e1, am_u_s]
        have tj : ∀ j, j ≠ 8 → j ≠ 9 → h4 o j = g o j := fun j p1 p2 => by rw [e4, am_u_j p1, e3, am_u_n _ _ _ _ _ (by omega), e2', am_u_n _ _ _ _ _ (by omega), e1, am_u_j p2]
        have q6 : h4 (o + 6) = up (g (o + 6)) (g o 8).toNat q := by rw [e4, am_u_n _ _ _ _ _ (by omega), e3, am_u_up, e2', am_u_n _ _ _ _ _ (by omega), e1, am_u_n _ _ _ _ _ (by omega)]
        have q7 : h4 (o + 7) = up (g (o + 7)) q.toNat (r : Int) := by rw [e4, am_u_n _ _ _ _ _ (by omega), e3, am_u_n _ _ _ _ _ (by omega), e2', am_u_up, e1, am_u_n _ _ _ _ _ (by omega)]
        have qs : ∀ p, p ≠ o → p ≠ o + 6 → p ≠ o + 7 → h4 p = g p := fun p p1 p2 p3 => by rw [e4, am_u_n _ _ _ _ _ p1, e3, am_u_n _ _ _ _ _ p2, e2', am_u_n _ _ _ _ _ p3, e1, am_u_n _ _ _ _ _ p1]
        have bits : ∀ i : Nat, i < 8 → (hb (h4 o 9) (i : Int) ↔ ((i : Int) = q ∨ hb (g o 9) (i : Int))) := by rw [t9]; exact ev.2.2
        have new : hb (h4 o 9) q := by
          have := (bits q.toNat (by omega)).mpr (Or.inl qq)
          rw [qq] at this
          exact this
        have old6 : ∀ j : Nat, (j : Int) < g o 8 → h4 (o + 6) j = g (o + 6) j := fun j hj => by rw [q6, upl_n (by omega)]
        have last6 : h4 (o + 6) (g o 8).toNat = q := by rw [q6, upl_s]
        have lastj : ∀ j : Nat, (j : Int) < h4 o 8 → ¬ (j : Int) < g o 8 → j = (g o 8).toNat := fun j p1 p2 => by omega
        refine qh h4 (by omega) (by omega) ⟨⟨by rw [t9]; exact ⟨ev.1, ev.2.1⟩, ?_, ?_, ?_, ?_, ?_⟩, ?_, by omega, ?_, fun p p1 p2 p3 => by rw [qs p p1 p2 p3, k5 p p1 p2 p3], fun j p1 p2 => by rw [tj j p1 p2, k6 j p1 p2]⟩ ?_
        · rw [t8, t9, more.1, b2]
        · intro j hj
          by_cases lt : (j : Int) < g o 8
          · obtain ⟨c1, c2, c3⟩ := b3 j lt
            rw [old6 j lt]
            have := (bits (g (o + 6) j).toNat (by omega)).mpr (Or.inr (by rw [show (((g (o + 6) j).toNat : Nat) : Int) = g (o + 6) j from by omega]; exact c3))
            rw [show (((g (o + 6) j).toNat : Nat) : Int) = g (o + 6) j from by omega] at this
            exact ⟨c1, c2, this⟩
          · rw [lastj j hj lt, last6]
            exact ⟨q0, hq, new⟩
        · intro p hp hbp
          rcases (bits p hp).mp hbp with e | e
          · exact ⟨(g o 8).toNat, by omega, by rw [last6, e]⟩
          · obtain ⟨j, j1, j2⟩ := b4 p hp e
            exact ⟨j, by omega, by rw [old6 j j1]; exact j2⟩
        · intro j j' hj hj' e
          by_cases lt : (j : Int) < g o 8
          · by_cases lt' : (j' : Int) < g o 8
            · rw [old6 j lt, old6 j' lt'] at e
              exact b5 j j' lt lt' e
            · rw [old6 j lt, lastj j' hj' lt', last6] at e
              have := (b3 j lt).2.2
              rw [e] at this
              exact absurd this z2
          · by_cases lt' : (j' : Int) < g o 8
            · rw [old6 j' lt', lastj j hj lt, last6] at e
              have := (b3 j' lt').2.2
              rw [← e] at this
              exact absurd this z2
            · rw [lastj j hj lt, lastj j' hj' lt']
        · intro j hj
          by_cases lt : (j : Int) < g o 8
          · obtain ⟨r', c1, c2, c3, c4⟩ := b6 j lt
            have b3j := b3 j lt
            have ne : (g (o + 6) j).toNat ≠ q.toNat := fun e => z2 (by rw [show q = g (o + 6) j from by omega]; exact b3j.2.2)
            refine ⟨r', by rw [old6 j lt, q7, upl_n ne]; exact c1, c2, by rw [old6 j lt]; exact c3, c4.imp id fun ⟨d1, j', d2, d3⟩ => ⟨d1, j', d2, ?_⟩⟩
            rw [old6 j' (by omega)]
            exact d3
          · rw [lastj j hj lt, last6]
            refine ⟨r, by rw [q7, upl_s], hr, ask, hf.imp id fun ⟨d1, j', d2, d3⟩ => ⟨d1, j', by omega, ?_⟩⟩
            rw [old6 j' (by omega), k4 j' d2]
            exact d3
        · exact fun p hp hbp => (bits p hp).mpr (Or.inr (k2 p hp hbp))
        · intro j hj
          rw [old6 j (by omega), k4 j hj]
        · intro p hp ap
          have p8 : p < 8 := by have := ap.1; omega
          by_cases pq : (p : Int) = q
          · rw [pq]
            exact new
          · exact (bits p p8).mpr (Or.inr (R2 p (by omega) ap))
  exact lp 0 h (by omega) (by omega) ⟨c, fun _ _ z => z, Int.le_refl _, fun _ _ => rfl, fun _ _ _ _ => rfl, fun _ _ _ => rfl⟩ fun p hp => by omega
/-- one more need is met, by changes from frm on -/
def lcM (A : Nat → Int) (f f1 : Nat → Int) (n0 : Nat) (frm : Int) : Prop := 0 ≤ f1 n0 ∧ (∀ i, 0 ≤ f i → 0 ≤ f1 i) ∧ (∀ i, i ≠ n0 → f i = -1 → f1 i = -1) ∧ (∀ i : Nat, i ≠ n0 → (i : Int) < frm → f1 i = f i) ∧ ∀ i : Nat, f1 i = f i ∨ asked A (f1 i) (i : Int)
theorem ac_L_shift (hY : am_at Y o am_L4) (w : wV A) (ld : lcD h o A) (c : lcB h o A (h (o + 1)) n0 frm) (hf : h (o + 1) n0 = -1) (hn : (n0 : Int) < A 2) {i0 : Nat} (hi : (i0 : Int) < h o 8) : am_cV am_Left_shift d Y [.inr (.inr o), .inl (h (o + 6) i0)] h (fun h1 => lcM A (h (o + 1)) (h1 (o + 1)) n0 frm ∧ lcD h1 o A ∧ lcF h h1 o ∧ ∀ p : Nat, p < 8 → h1 (o + 3) p = h (o + 3) p + if (p : Int) = h (o + 6) i0 then 1 else 0) := by
  have hz := w.1.z
  unfold rz at hz
  have w2 := wr_2 w.1
  obtain ⟨b1, b2, b3, b4, b5, b6⟩ := c
  have Q8 : h o 8 ≤ 8 := by
    have := sm_le (f := fun p : Nat => if hb (h o 9) (p : Int) then (1 : Int) else 0) (c := 1) 8 fun p _ => by split <;> omega
    omega
  obtain ⟨q0, q8, -⟩ := b3 i0 hi
  generalize hq : h (o + 6) i0 = q at q0 q8
  have qq : ((q.toNat : Nat) : Int) = q := by omega
  generalize hfe : h (o + 1) = f at hf b6
  have lq := ld q.toNat (by omega)
  rw [hfe, qq] at lq
  have cr := lCnt_rg f q (A 2).toNat
  refine am_Met.of (by decide) rfl (Nat.le_of_ble_eq_true rfl) (ab_Left_shift_0 hY ⟨by omega, by rw [lq]; unfold am_ri; omega, by omega, fun h1 e1 => ?_⟩)
  have n1 : ∀ r, r ≠ o + 3 → h1 r = h r := fun r hr => by rw [e1, am_u_n _ _ _ _ _ hr]
  have l1 : ∀ p : Nat, p < 8 → h1 (o + 3) p = h (o + 3) p + if (p : Int) = q then 1 else 0 := by
    intro p hp
    by_cases z : p = q.toNat
    · rw [e1, z, am_u_s, qq, if_pos rfl]
    · rw [e1, am_u_j z, if_neg (by omega)]
      omega
  have lp : ∀ k : Int, ∀ (g : am_H) (to : Int), 0 ≤ k → k ≤ 8 → (∀ r, r ≠ o + 1 → g r = h1 r) → (∀ p : Nat, p < 8 → lCnt (g (o + 1)) (p : Int) (A 2).toNat + (if to = (p : Int) then 1 else 0) = lCnt f (p : Int) (A 2).toNat + if (p : Int) = q then 1 else 0) → (∀ i, 0 ≤ f i → 0 ≤ g (o + 1) i) → (∀ i, i ≠ n0 → f i = -1 → g (o + 1) i = -1) → (∀ i : Nat, i ≠ n0 → (i : Int) < frm → g (o + 1) i = f i) → (∀ i : Nat, g (o + 1) i = f i ∨ asked A (g (o + 1) i) (i : Int)) → (to = -1 ∧ 0 ≤ g (o + 1) n0 ∨ ∃ j : Nat, (j : Int) < h o 8 ∧ to = h (o + 6) j ∧ (j : Int) + k ≤ 7 ∧ ∀ i, ¬ g (o + 1) i = f i → ∃ j' : Nat, (j' : Int) < h o 8 ∧ j ≤ j' ∧ f i = h (o + 6) j') → aw_Left_shift_14 d Y o to k g (am_qV fun h1 => lcM A f (h1 (o + 1)) n0 frm ∧ lcD h1 o A ∧ lcF h h1 o ∧ ∀ p : Nat, p < 8 → h1 (o + 3) p = h (o + 3) p + if (p : Int) = q then 1 else 0) := by
    have fin : ∀ (g : am_H) (to : Int), (∀ r, r ≠ o + 1 → g r = h1 r) → (∀ p : Nat, p < 8 → lCnt (g (o + 1)) (p : Int) (A 2).toNat + (if to = (p : Int) then 1 else 0) = lCnt f (p : Int) (A 2).toNat + if (p : Int) = q then 1 else 0) → (∀ i, 0 ≤ f i → 0 ≤ g (o + 1) i) → (∀ i, i ≠ n0 → f i = -1 → g (o + 1) i = -1) → (∀ i : Nat, i ≠ n0 → (i : Int) < frm → g (o + 1) i = f i) → (∀ i : Nat, g (o + 1) i = f i ∨ asked A (g (o + 1) i) (i : Int)) → to = -1 → 0 ≤ g (o + 1) n0 → am_qV (fun h1 => lcM A f (h1 (o + 1)) n0 frm ∧ lcD h1 o A ∧ lcF h h1 o ∧ ∀ p : Nat, p < 8 → h1 (o + 3) p = h (o + 3) p + if (p : Int) = q then 1 else 0) none g := by
      intro g to n2 cc m1 m2 m3 m4 e0 g0
      rw [am_qV_s]
      have g3 : ∀ p : Nat, p < 8 → g (o + 3) p = h (o + 3) p + if (p : Int) = q then 1 else 0 := fun p hp => by rw [n2 _ (by omega)]; exact l1 p hp
      refine ⟨⟨g0, m1, m2, m3, m4⟩, fun p hp => ?_, ⟨fun r p1 p2 p3 p4 p5 => by rw [n2 r p2, n1 r p3], fun j _ _ => by rw [n2 o (by omega), n1 o (by omega)]⟩, g3⟩
      have := cc p hp
      rw [if_neg (by omega)] at this
      have l := ld p hp
      rw [hfe] at l
      rw [g3 p hp, l]
      omega
    refine am_up (fun k => ∀ (g : am_H) (to : Int), 0 ≤ k → k ≤ 8 → (∀ r, r ≠ o + 1 → g r = h1 r) → (∀ p : Nat, p < 8 → lCnt (g (o + 1)) (p : Int) (A 2).toNat + (if to = (p : Int) then 1 else 0) = lCnt f (p : Int) (A 2).toNat + if (p : Int) = q then 1 else 0) → (∀ i, 0 ≤ f i → 0 ≤ g (o + 1) i) → (∀ i, i ≠ n0 → f i = -1 → g (o + 1) i = -1) → (∀ i : Nat, i ≠ n0 → (i : Int) < frm → g (o + 1) i = f i) → (∀ i : Nat, g (o + 1) i = f i ∨ asked A (g (o + 1) i) (i : Int)) → (to = -1 ∧ 0 ≤ g (o + 1) n0 ∨ ∃ j : Nat, (j : Int) < h o 8 ∧ to = h (o + 6) j ∧ (j : Int) + k ≤ 7 ∧ ∀ i, ¬ g (o + 1) i = f i → ∃ j' : Nat, (j' : Int) < h o 8 ∧ j ≤ j' ∧ f i = h (o + 6) j') → aw_Left_shift_14 d Y o to k g (am_qV fun h1 => lcM A f (h1 (o + 1)) n0 frm ∧ lcD h1 o A ∧ lcF h h1 o ∧ ∀ p : Nat, p < 8 → h1 (o + 3) p = h (o + 3) p + if (p : Int) = q then 1 else 0)) 8 ?_ ?_
    · intro k hk g to k0 k8 n2 cc m1 m2 m3 m4 st
      refine ab_Left_shift_14 hY ⟨fun _ => ?_, fun z => by omega⟩
      rcases st with ⟨e0, g0⟩ | ⟨j, -, -, z, -⟩
      · exact fin g to n2 cc m1 m2 m3 m4 e0 g0
      · omega
    · intro k hk kh g to k0 k8 n2 cc m1 m2 m3 m4 st
      rcases st with ⟨e0, g0⟩ | ⟨j, hj, et, jk, ch⟩
      · exact ab_Left_shift_14 hY ⟨fun z => by omega, fun _ => ⟨fun _ => fin g to n2 cc m1 m2 m3 m4 e0 g0, fun z => by omega⟩⟩
      · obtain ⟨t0, t8, -⟩ := b3 j hj
        obtain ⟨r, r1, r2, r3, r4⟩ := b6 j hj
        rw [← et] at r1 r3 t0 t8
        have g7 : g (o + 7) to.toNat = (r : Int) := by rw [n2 _ (by omega), n1 _ (by omega)]; exact r1
        -- it stands as it stood
        have same : g (o + 1) r = f r := by
          refine Classical.byContradiction fun z => ?_
          obtain ⟨j', j1, j2, j3⟩ := ch r z
          rcases r4 with e | ⟨-, j'', d2, d3⟩
          · have := (b3 j' j1).1
            rw [e, hf] at j3
            omega
          · have := b5 j' j'' j1 (by omega) (by rw [← j3, ← d3])
            omega
        refine ab_Left_shift_14 hY ⟨fun z => by omega, fun _ => ⟨fun z => by omega, fun _ => ⟨fun z => by omega, fun _ => ?_⟩⟩⟩
        rw [g7, Int.toNat_natCast, same]
        refine ⟨⟨t0, t8⟩, ⟨by omega, by omega⟩, ⟨by omega, by omega⟩, fun h2 e2 => ⟨by unfold am_ri; omega, ?_⟩⟩
        have f2 : h2 (o + 1) = up (g (o + 1)) r to := by rw [e2, am_u_up]
        refine kh h2 (f r) (by omega) (by omega) (fun x hx => by rw [e2, am_u_n _ _ _ _ _ hx, n2 x hx]) (fun p hp => ?_) (fun i hi => ?_) (fun i hi fi => ?_) (fun i hi fi => ?_) (fun i => ?_) ?_
        · have := cc p hp
          clear r4 ch
          have rN : r < (A 2).toNat := by omega
          rw [f2, lCnt_up rN, same]
          omega
        · rw [f2]
          by_cases e : i = r
          · rw [e, upl_s]
            exact t0
          · rw [upl_n e]
            exact m1 i hi
        · rw [f2]
          by_cases e : i = r
          · rw [e] at hi fi
            rcases r4 with z | ⟨-, j'', d2, d3⟩
            · exact absurd z hi
            · have := (b3 j'' (by omega)).1
              omega
          · rw [upl_n e]
            exact m2 i hi fi
        · rw [f2]
          by_cases e : i = r
          · rw [e] at hi fi
            rcases r4 with z | ⟨z, -⟩
            · exact absurd z hi
            · omega
          · rw [upl_n e]
            exact m3 i hi fi
        · rw [f2]
          by_cases e : i = r
          · rw [e, upl_s]
            exact Or.inr r3
          · rw [upl_n e]
            exact m4 i
        · rcases r4 with z | ⟨-, j'', d2, d3⟩
          · refine Or.inl ⟨by rw [z]; exact hf, ?_⟩
            rw [f2, z, upl_s]
            exact t0
          · refine Or.inr ⟨j'', by omega, d3, by omega, fun i hi => ?_⟩
            by_cases e : i = r
            · rw [e]
              exact ⟨j'', by omega, Nat.le_refl _, d3⟩
            · rw [f2, upl_n e] at hi
              obtain ⟨j', j1, j2, j3⟩ := ch i hi
              exact ⟨j', j1, by omega, j3⟩
  refine lp 0 h1 q (by omega) (by omega) (fun _ _ => rfl) (fun p hp => ?_) (fun i hi => ?_) (fun i _ fi => ?_) (fun i _ _ => ?_) (fun i => Or.inl ?_) (Or.inr ⟨i0, hi, hq.symm, by omega, fun i z => absurd ?_ z⟩)
  · rw [n1 _ (by omega), hfe]
    by_cases z : q = (p : Int)
    · rw [if_pos z, if_pos z.symm]
    · rw [if_neg z, if_neg fun y => z y.symm]
  · rw [n1 _ (by omega), hfe]
    exact hi
  · rw [n1 _ (by omega), hfe]
    exact fi
  · rw [n1 _ (by omega), hfe]
  · rw [n1 _ (by omega), hfe]
  · rw [n1 _ (by omega), hfe]
end

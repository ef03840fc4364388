/-! who most likely did it: think -/
def thk (A : Nat → Int) (a k u w : Int) (q : Nat) : Int := if (q : Int) = a ∨ A (35 + 6 * (q : Int) + k).toNat = 0 ∨ am_and (am_shr w (q : Int)) 1 = 1 then 0 else (1 + A (95 + 8 * (q : Int) + a).toNat) * (if am_and (am_shr u (q : Int)) 1 = 1 then 3 else 1)
/-- the first of the greatest so far, and how great -/
def tkW (T : Nat → Int) : Nat → Int × Int
  | 0 => (-1, 0)
  | i + 1 => if (tkW T i).2 < T i then ((i : Int), T i) else tkW T i
theorem tkW_i {T : Nat → Int} : ∀ i, ((tkW T i).1 = -1 ∧ (tkW T i).2 = 0) ∨ (0 ≤ (tkW T i).1 ∧ (tkW T i).1 < i ∧ (tkW T i).2 = T (tkW T i).1.toNat ∧ 0 < (tkW T i).2)
  | 0 => Or.inl ⟨rfl, rfl⟩
  | i + 1 => by
    have ih := tkW_i (T := T) i
    unfold tkW
    split
    · refine Or.inr ⟨by dsimp only; omega, by dsimp only; omega, by dsimp only; rw [Int.toNat_natCast], ?_⟩
      dsimp only
      omega
    · rcases ih with ih | ih
      · exact Or.inl ih
      · exact Or.inr ⟨ih.1, by omega, ih.2.2⟩
theorem thk_rg {A : Nat → Int} {a k u w : Int} (hA : wr A) (ha : 0 ≤ a ∧ a < 8) {q : Nat} (hq : q < 8) : 0 ≤ thk A a k u w q ∧ thk A a k u w q ≤ 33 := by
  have t := hA (95 + 8 * (q : Int) + a).toNat (by omega)
  have e := w_10 (j := (95 + 8 * (q : Int) + a).toNat) (by omega)
  unfold thk
  generalize A (95 + 8 * (q : Int) + a).toNat = f at t ⊢
  have t2 : 0 ≤ f ∧ f ≤ 10 := by omega
  split
  · omega
  · split
    · omega
    · omega
section
variable {h h2 : am_H} {x m : Nat}
theorem RL.th (c : RL h x m) (fx : ∀ j, j = 1 ∨ j = 2 → h2 x j = h x j) (fq : ∀ q, x < q → (q < x + 75 ∨ x + 114 ≤ q ∧ q < x + 117 ∨ q = x + 138 ∨ q = x + 139) → h2 q = h q) (la : lai h2 m = lai h m) (gq : ∀ q, q = m + 1 ∨ q = m + 5 ∨ q = m + 6 ∨ q = m + 8 ∨ q = m + 9 ∨ q = m + 22 ∨ q = m + 23 ∨ q = m + 27 → h2 q = h q) (gj : ∀ j, j = 2 ∨ j = 10 ∨ j = 47 ∨ j = 48 ∨ j = 55 → h2 m j = h m j) (t : thR h2 x m) : RL h2 x m := by
  obtain ⟨ct, cs, ck, cr, cl, ch⟩ := c
  refine ⟨ct.but (fun j hj => fx j (by omega)) (fq _ (by omega) (by omega)) (gq _ (by omega)) (fun j hj => gj j (by omega)), ?_, ck.but (fun q a b => fq q (by omega) (by omega)) (gq _ (by omega)) (gq _ (by omega)) (gq _ (by omega)), cr.but (fun q a b => fq q (by omega) (by omega)) (gq _ (by omega)) (gq _ (by omega)) (fun j hj => gj j (by omega)), cl.but (fun q a b => fq q (by omega) (by omega)) (gq _ (by omega)) (gj _ (by omega)), t⟩
  rw [la, gq (m + 6) (by omega)]
  exact cs.but fun q a b => fq q (by omega) (by omega)
end
section
variable {Y : am_Y} {h : am_H} {x m d : Nat} {A N : Nat → Int} {a k u w : Int}
/-- what think leaves of the class -/
def ntQ (h h1 : am_H) (x : Nat) (P : Int) (T : Nat → Int) (v : Int) : Prop :=
  v = (tkW T P.toNat).1 ∧ (∀ q, q ≠ x → q ≠ x + 146 → q ≠ x + 147 → h1 q = h q) ∧ (∀ j, j ≠ 13 → j ≠ 14 → h1 x j = h x j) ∧ (v = -1 → h1 x = h x ∧ h1 (x + 146) = h (x + 146)) ∧ (¬ v = -1 → h1 x 13 = P ∧ h1 x 14 = sm T P.toNat ∧ ∀ q : Nat, (q : Int) < P → h1 (x + 146) q = T q)
theorem ac_N_likely {q : Int} (hY : am_at Y x am_L11) (c : vR h (x + 3) (A 1) A N) (hw : wV A) (ha : 0 ≤ a ∧ a < A 1) (hq : 0 ≤ q ∧ q < A 1) (hd : 1 < d) : am_cI am_Nh_likely d Y [.inr (.inr x), .inl a, .inl q, .inl u, .inl w] h (fun r h1 => h1 = h ∧ r = if am_and (am_shr w q) 1 = 1 then 0 else (1 + A (95 + 8 * q + a).toNat) * (if am_and (am_shr u q) 1 = 1 then 3 else 1)) := by
  have hz := hw.1.z
  unfold rz at hz
  have vo1 := c.o1 hw.1 (by omega)
  have t := hw.1 (95 + 8 * q + a).toNat (by omega)
  have e := w_10 (j := (95 + 8 * q + a).toNat) (by omega)
  refine am_Met.of (by decide) rfl (Nat.le_of_ble_eq_true rfl) (ab_Nh_likely_0 hY ⟨fun z => eK (ac_friendship (d := 0) (hY.sub 3 rfl) vo1) (by omega) ?_, fun z => ?_⟩)
  · rw [vfr_is c (by omega) hq ha, if_neg z]
    refine ⟨by unfold am_ri; omega, fun z2 => ?_, fun z2 => ⟨by unfold am_ri; omega, ?_⟩⟩
    · rw [am_qI_s, if_neg z2]
      exact ⟨rfl, by omega⟩
    · rw [am_qI_s, if_pos z2]
      exact ⟨rfl, by omega⟩
  · rw [am_qI_s, if_pos z]
    exact ⟨rfl, rfl⟩
theorem ac_N_think (hY : am_at Y x am_L11) (c : vR h (x + 3) (A 1) A N) (hw : wV A) : am_cI am_Nh_think (d + 3) Y [.inr (.inr x), .inl a, .inl k, .inl u, .inl w] h (fun v h1 => ((0 ≤ a ∧ a < A 1) ∧ (0 ≤ k ∧ k < A 0) → ntQ h h1 x (A 1) (thk A a k u w) v) ∧ (¬ ((0 ≤ a ∧ a < A 1) ∧ (0 ≤ k ∧ k < A 0)) → h1 = h ∧ v = -1)) := by
  have hz := hw.1.z
  unfold rz at hz
  refine am_Met.of (by decide) rfl (Nat.le_of_ble_eq_true rfl) (ab_Nh_think_0 hY ?_)
  refine eK (ac_hasPerson (d := 0) (hY.sub 3 rfl)) (by omega) ?_
  rw [vin_2 c]
  by_cases za : 0 ≤ a ∧ a < A 1
  · rw [in1_t za]
    refine ⟨fun q => absurd q (by decide), fun _ => eK (ac_hasHelp (d := 0) (hY.sub 3 rfl)) (by omega) ?_⟩
    rw [vin_1 c]
    by_cases zk : 0 ≤ k ∧ k < A 0
    · rw [in1_t zk]
      refine ⟨fun _ => ?_, fun q => absurd q (by decide)⟩
      have fin : ∀ v h1, ntQ h h1 x (A 1) (thk A a k u w) v → am_qI (fun v h1 => ((0 ≤ a ∧ a < A 1) ∧ (0 ≤ k ∧ k < A 0) → ntQ h h1 x (A 1) (thk A a k u w) v) ∧ (¬ ((0 ≤ a ∧ a < A 1) ∧ (0 ≤ k ∧ k < A 0)) → h1 = h ∧ v = -1)) (some (.inl v)) h1 := by
        intro v h1 q
        rw [am_qI_s]
        exact ⟨fun _ => q, fun z => absurd ⟨za, zk⟩ z⟩
      have lp : ∀ i : Int, ∀ g : am_H, 0 ≤ i → i ≤ A 1 → (∀ q, q ≠ x + 147 → g q = h q) → (∀ q : Nat, (q : Int) < i → g (x + 147) q = thk A a k u w q) → aw_Nh_think_41 (d + 3) Y x a k u w (sm (thk A a k u w) i.toNat) (tkW (thk A a k u w) i.toNat).1 (tkW (thk A a k u w) i.toNat).2 i g (am_qI (fun v h1 => ((0 ≤ a ∧ a < A 1) ∧ (0 ≤ k ∧ k < A 0) → ntQ h h1 x (A 1) (thk A a k u w) v) ∧ (¬ ((0 ≤ a ∧ a < A 1) ∧ (0 ≤ k ∧ k < A 0)) → h1 = h ∧ v = -1))) := by
        refine am_up (fun i => ∀ g : am_H, 0 ≤ i → i ≤ A 1 → (∀ q, q ≠ x + 147 → g q = h q) → (∀ q : Nat, (q : Int) < i → g (x + 147) q = thk A a k u w q) → aw_Nh_think_41 (d + 3) Y x a k u w (sm (thk A a k u w) i.toNat) (tkW (thk A a k u w) i.toNat).1 (tkW (thk A a k u w) i.toNat).2 i g (am_qI (fun v h1 => ((0 ≤ a ∧ a < A 1) ∧ (0 ≤ k ∧ k < A 0) → ntQ h h1 x (A 1) (thk A a k u w) v) ∧ (¬ ((0 ≤ a ∧ a < A 1) ∧ (0 ≤ k ∧ k < A 0)) → h1 = h ∧ v = -1)))) (A 1) ?_ ?_
        · intro i hi g h0 h8 e eT
          have gv : vR g (x + 3) (A 1) A N := c.but fun q p1 p2 => e q (by omega)
          have g2 : g (x + 3) 2 = A 1 := gv.1.2.1
          have iP : i = A 1 := by omega
          refine ab_Nh_think_41 hY ?_
          rw [g2]
          refine ⟨fun _ => ⟨fun z => fin _ _ ?_, fun z => ⟨by omega, by omega, fun h1 e1 h2 e2 h3 e3 => fin _ _ ?_⟩⟩, fun q => by omega⟩
          · refine ⟨by rw [iP], fun q _ _ p => e q p, fun j _ _ => by rw [e x (by omega)], fun _ => ⟨e x (by omega), e _ (by omega)⟩, fun z2 => absurd z z2⟩
          · obtain ⟨s1, t1⟩ := cp_s e1
            have n3 : ∀ q, q ≠ x → h3 q = h1 q := fun q p => by rw [e3, am_u_n _ _ _ _ _ p, e2, am_u_n _ _ _ _ _ p]
            refine ⟨by rw [iP], fun q p1 p2 p3 => by rw [n3 q p1, s1 q p2, e q p3], fun j p1 p2 => by rw [e3, am_u_j p2, e2, am_u_j p1, s1 x (by omega), e x (by omega)], fun z2 => absurd z2 z, fun _ => ⟨?_, ?_, fun q hq => ?_⟩⟩
            · rw [e3, am_u_j (by omega), e2, am_u_s, s1 _ (by omega)]
              exact g2
            · rw [e3, am_u_s, iP]
            · rw [n3 _ (by omega), t1 q (by omega)]
              exact eT q (by omega)
        · intro i hi ih g h0 h8 e eT
          have gv : vR g (x + 3) (A 1) A N := c.but fun q p1 p2 => e q (by omega)
          have g2 : g (x + 3) 2 = A 1 := gv.1.2.1
          have rgT := fun q hq => thk_rg (A := A) (a := a) (k := k) (u := u) (w := w) hw.1 (by omega) (q := q) hq
          have sl := sm_le (f := thk A a k u w) (c := 33) i.toNat fun q hq => rgT q (by omega)
          have ti := rgT i.toNat (by omega)
          have ii : ((i.toNat : Nat) : Int) = i := by omega
          have step : ∀ g' : am_H, g' = am_u g (x + 147) i.toNat (thk A a k u w i.toNat) → ((0 : Int) ≤ i ∧ i < 8) ∧ ((am_ri (sm (thk A a k u w) i.toNat + g' (x + 147) i.toNat)) ∧ (((0 : Int) ≤ i ∧ i < 8) ∧ ((g' (x + 147) i.toNat ≤ (tkW (thk A a k u w) i.toNat).2 → am_ri (i + 1) ∧ aw_Nh_think_41 (d + 3) Y x a k u w (sm (thk A a k u w) i.toNat + g' (x + 147) i.toNat) (tkW (thk A a k u w) i.toNat).1 (tkW (thk A a k u w) i.toNat).2 (i + 1) g' (am_qI (fun v h1 => ((0 ≤ a ∧ a < A 1) ∧ (0 ≤ k ∧ k < A 0) → ntQ h h1 x (A 1) (thk A a k u w) v) ∧ (¬ ((0 ≤ a ∧ a < A 1) ∧ (0 ≤ k ∧ k < A 0)) → h1 = h ∧ v = -1)))) ∧ ((tkW (thk A a k u w) i.toNat).2 < g' (x + 147) i.toNat → ((0 : Int) ≤ i ∧ i < 8) ∧ (am_ri (i + 1) ∧ aw_Nh_think_41 (d + 3) Y x a k u w (sm (thk A a k u w) i.toNat + g' (x + 147) i.toNat) i (g' (x + 147) i.toNat) (i + 1) g' (am_qI (fun v h1 => ((0 ≤ a ∧ a < A 1) ∧ (0 ≤ k ∧ k < A 0) → ntQ h h1 x (A 1) (thk A a k u w) v) ∧ (¬ ((0 ≤ a ∧ a < A 1) ∧ (0 ≤ k ∧ k < A 0)) → h1 = h ∧ v = -1)))))))) := by
            intro g' eg
            have gi : g' (x + 147) i.toNat = thk A a k u w i.toNat := by rw [eg, am_u_s]
            have go := ih g' (by omega) (by omega) (fun q hq => by rw [eg, am_u_n _ _ _ _ _ hq, e q hq]) (fun q hq => by
              by_cases qi : q = i.toNat
              · rw [qi, gi]
              · rw [eg, am_u_j qi, eT q (by omega)])
            rw [show (i + 1).toNat = i.toNat + 1 from by omega] at go
            rw [gi]
            have c33 : (33 : Int) * ((i.toNat : Nat) : Int) = 33 * i := by rw [ii]
            refine ⟨by omega, by unfold am_ri; omega, by omega, fun z => ⟨by unfold am_ri; omega, ?_⟩, fun z => ⟨by omega, by unfold am_ri; omega, ?_⟩⟩
            · have e1 : tkW (thk A a k u w) (i.toNat + 1) = tkW (thk A a k u w) i.toNat := by
                show (if (tkW (thk A a k u w) i.toNat).2 < thk A a k u w i.toNat then _ else _) = _
                rw [if_neg (by omega)]
              rw [e1] at go
              exact go
            · have e1 : tkW (thk A a k u w) (i.toNat + 1) = (i, thk A a k u w i.toNat) := by
                show (if (tkW (thk A a k u w) i.toNat).2 < thk A a k u w i.toNat then _ else _) = _
                rw [if_pos z, ii]
              rw [e1] at go
              exact go
          refine ab_Nh_think_41 hY ?_
          rw [g2]
          refine ⟨fun q => by omega, fun _ => ⟨fun z => ⟨by omega, fun h5 e5 => step h5 ?_⟩, fun z => eK (ac_can (d := 0) (hY.sub 3 rfl) (gv.o1 hw.1 (by omega))) (by omega) ?_⟩⟩
          · rw [e5]
            congr 1
            unfold thk
            rw [if_pos (Or.inl (by omega))]
          · rw [gv.p1 ⟨h0, hi⟩ (by omega) zk (by omega)]
            have wp := hw.1 (35 + 6 * i + k).toNat (by omega)
            have wp2 := w_99 (j := (35 + 6 * i + k).toNat) (by omega)
            by_cases z2 : 0 < A (35 + 6 * i + k).toNat
            · rw [if_pos z2]
              refine ⟨fun q => absurd q (by decide), fun _ => eK (ac_N_likely (d := 2) hY gv hw za ⟨h0, hi⟩ (by omega)) (by omega) ⟨by omega, fun h13 e13 => step h13 ?_⟩⟩
              rw [e13]
              congr 1
              unfold thk
              rw [ii]
              by_cases z3 : am_and (am_shr w i) 1 = 1
              · rw [if_pos z3, if_pos (Or.inr (Or.inr z3))]
              · have ng : ¬ (i = a ∨ A (35 + 6 * i + k).toNat = 0 ∨ am_and (am_shr w i) 1 = 1) := by
                  rintro (q | q | q)
                  · exact z q
                  · omega
                  · exact z3 q
                rw [if_neg z3, if_neg ng]
            · rw [if_neg z2]
              refine ⟨fun _ => ⟨by omega, fun h9 e9 => step h9 ?_⟩, fun q => absurd rfl q⟩
              rw [e9]
              congr 1
              unfold thk
              rw [ii, if_pos (Or.inr (Or.inl (by omega)))]
      exact lp 0 h (by omega) (by omega) (fun _ _ => rfl) (fun q hq => by omega)
    · rw [in1_f zk]
      refine ⟨fun q => absurd rfl q, fun _ => ?_⟩
      rw [am_qI_s]
      exact ⟨fun z => absurd z.2 zk, fun _ => ⟨rfl, rfl⟩⟩
  · rw [in1_f za]
    refine ⟨fun _ => ?_, fun q => absurd rfl q⟩
    rw [am_qI_s]
    exact ⟨fun z => absurd z.1 za, fun _ => ⟨rfl, rfl⟩⟩
/-- what think leaves of the reference -/
def mtQ (g h1 : am_H) (m : Nat) (P : Int) (T : Nat → Int) (v : Int) : Prop :=
  v = (tkW T P.toNat).1 ∧ (∀ q, q ≠ m → q ≠ m + 28 → q ≠ m + 29 → h1 q = g q) ∧ (∀ j, j ≠ 58 → j ≠ 59 → h1 m j = g m j) ∧ (v = -1 → h1 m = g m ∧ h1 (m + 29) = g (m + 29)) ∧ (¬ v = -1 → h1 m 58 = P ∧ h1 m 59 = sm T P.toNat ∧ ∀ q : Nat, (q : Int) < P → h1 (m + 29) q = T q)
theorem mth_186 {g : am_H} {v : Int} {Q : Option am_V → am_H → Prop} (hM : am_at Y m am_L12) (h8 : 0 ≤ g (m + 2) 1 ∧ g (m + 2) 1 ≤ 8) (hd : 0 < d) (kk : ∀ g1, (∀ q, q ≠ m + 29 → g1 q = g q) → (∀ q : Nat, (q : Int) < g (m + 2) 1 → g1 (m + 29) q = g (m + 28) q) → Q (some (.inl v)) g1) : am_wp am_Md_think d Y 186 [some (.inr (.inr m)), none, none, none, none, none, some (.inl v), some (.inl 0)] [] g Q := by
  have lp : ∀ i : Int, ∀ g1 : am_H, 0 ≤ i → i ≤ g (m + 2) 1 → (∀ q, q ≠ m + 29 → g1 q = g q) → (∀ q : Nat, (q : Int) < i → g1 (m + 29) q = g (m + 28) q) → aw_Md_think_186 d Y m v i g1 Q := by
    refine am_up (fun i => ∀ g1 : am_H, 0 ≤ i → i ≤ g (m + 2) 1 → (∀ q, q ≠ m + 29 → g1 q = g q) → (∀ q : Nat, (q : Int) < i → g1 (m + 29) q = g (m + 28) q) → aw_Md_think_186 d Y m v i g1 Q) (g (m + 2) 1) ?_ ?_
    · intro i hi g1 h0 h9 e1 e2
      refine ab_Md_think_186 hM (eK (ac_m_persons (d := 0) hM) hd ?_)
      rw [e1 (m + 2) (by omega)]
      exact ⟨fun _ => kk g1 e1 fun q hq => e2 q (by omega), fun z => by omega⟩
    · intro i hi ih g1 h0 h9 e1 e2
      refine ab_Md_think_186 hM (eK (ac_m_persons (d := 0) hM) hd ?_)
      rw [e1 (m + 2) (by omega), e1 (m + 28) (by omega)]
      refine ⟨fun z => by omega, fun _ => ⟨by omega, by omega, fun g2 eg => ⟨by unfold am_ri; omega, ih g2 (by omega) (by omega) (fun q hq => by rw [eg, am_u_n _ _ _ _ _ hq, e1 q hq]) fun q hq => ?_⟩⟩⟩
      by_cases qi : q = i.toNat
      · rw [qi, eg, am_u_s]
      · rw [eg, am_u_j qi, e2 q (by omega)]
  exact lp 0 g (by omega) (by omega) (fun _ _ => rfl) fun q hq => by omega
theorem mth_36 {g : am_H} {Q : Option am_V → am_H → Prop} (hM : am_at Y m am_L12) (hw : wV (g (m + 2))) (za : 0 ≤ a ∧ a < g (m + 2) 1) (zk : 0 ≤ k ∧ k < g (m + 2) 0) (hd : 0 < d) (fin : ∀ v h1, mtQ g h1 m (g (m + 2) 1) (thk (g (m + 2)) a k u w) v → Q (some (.inl v)) h1) : am_wp am_Md_think d Y 36 [some (.inr (.inr m)), some (.inl a), some (.inl k), some (.inl u), some (.inl w), some (.inl 0), some (.inl (-1)), some (.inl 0)] [] g Q := by
  have hz := hw.1.z
  unfold rz at hz
  generalize hA : g (m + 2) = A at hw za zk fin hz
  have lp : ∀ i : Int, ∀ g1 : am_H, 0 ≤ i → i ≤ A 1 → (∀ q, q ≠ m + 28 → g1 q = g q) → (∀ q : Nat, (q : Int) < i → g1 (m + 28) q = thk A a k u w q) → aw_Md_think_36 d Y m a k u w (sm (thk A a k u w) i.toNat) (tkW (thk A a k u w) i.toNat).1 i g1 Q := by
    refine am_up (fun i => ∀ g1 : am_H, 0 ≤ i → i ≤ A 1 → (∀ q, q ≠ m + 28 → g1 q = g q) → (∀ q : Nat, (q : Int) < i → g1 (m + 28) q = thk A a k u w q) → aw_Md_think_36 d Y m a k u w (sm (thk A a k u w) i.toNat) (tkW (thk A a k u w) i.toNat).1 i g1 Q) (A 1) ?_ ?_
    · intro i hi g1 h0 h8 e eT
      have gA : g1 (m + 2) = A := by rw [e _ (by omega), hA]
      have iP : i = A 1 := by omega
      refine ab_Md_think_36 hM (eK (ac_m_persons (d := 0) hM) hd ?_)
      rw [gA]
      refine ⟨fun _ => ⟨fun z h3 e3 => eK (ac_m_persons (d := 0) hM) hd fun h6 e6 => ?_, fun z => ?_⟩, fun z => by omega⟩
      · have n6 : ∀ q, q ≠ m → h6 q = g1 q := fun q p => by rw [e6, am_u_n _ _ _ _ _ p, e3, am_u_n _ _ _ _ _ p]
        have a3 : h3 (m + 2) = A := by rw [e3, am_u_n _ _ _ _ _ (by omega), gA]
        have a6 : h6 (m + 2) = A := by rw [n6 _ (by omega), gA]
        rw [a3] at e6
        refine mth_186 hM (by rw [a6]; omega) hd fun g2 f1 f2 => fin _ _ ?_
        rw [a6] at f2
        refine ⟨by rw [iP], fun q p1 p2 p3 => by rw [f1 q p3, n6 q p1, e q p2], fun j p1 p2 => by rw [f1 m (by omega), e6, am_u_j p1, e3, am_u_j p2, e m (by omega)], fun z2 => absurd z2 z, fun _ => ⟨by rw [f1 m (by omega), e6, am_u_s], by rw [f1 m (by omega), e6, am_u_j (by omega), e3, am_u_s, iP], fun q hq => by rw [f2 q hq, n6 _ (by omega)]; exact eT q (by omega)⟩⟩
      · have : Q (some (.inl (tkW (thk A a k u w) i.toNat).1)) g1 := fin _ _ ⟨by rw [iP], fun q p1 p2 p3 => e q p2, fun j _ _ => by rw [e m (by omega)], fun _ => ⟨e m (by omega), e _ (by omega)⟩, fun z2 => absurd z z2⟩
        rw [z] at this
        exact this
    · intro i hi ih g1 h0 h8 e eT
      have gA : g1 (m + 2) = A := by rw [e _ (by omega), hA]
      have rgT := fun q hq => thk_rg (A := A) (a := a) (k := k) (u := u) (w := w) hw.1 (by omega) (q := q) hq
      have sl := sm_le (f := thk A a k u w) (c := 33) i.toNat fun q hq => rgT q (by omega)
      have ti := rgT i.toNat (by omega)
      have ii : ((i.toNat : Nat) : Int) = i := by omega
      have wi := tkW_i (T := thk A a k u w) i.toNat
      have step : ∀ s : Int, s = thk A a k u w i.toNat → am_wp am_Md_think d Y 105 [some (.inr (.inr m)), some (.inl a), some (.inl k), some (.inl u), some (.inl w), some (.inl (sm (thk A a k u w) i.toNat)), some (.inl (tkW (thk A a k u w) i.toNat).1), some (.inl i)] [.inl s, .inl i, .inr (.inr (m + 28))] g1 Q := by
        intro s hs
        refine ab_Md_think_105 hM ⟨by omega, fun g2 eg => ?_⟩
        rw [hs] at eg
        have gi : g2 (m + 28) i.toNat = thk A a k u w i.toNat := by rw [eg, am_u_s]
        have go := ih g2 (by omega) (by omega) (fun q hq => by rw [eg, am_u_n _ _ _ _ _ hq, e q hq]) (fun q hq => by
          by_cases qi : q = i.toNat
          · rw [qi, gi]
          · rw [eg, am_u_j qi, eT q (by omega)])
        rw [show (i + 1).toNat = i.toNat + 1 from by omega] at go
        have e0 : (tkW (thk A a k u w) i.toNat).2 < thk A a k u w i.toNat → tkW (thk A a k u w) (i.toNat + 1) = (i, thk A a k u w i.toNat) := by
          intro z
          show (if (tkW (thk A a k u w) i.toNat).2 < thk A a k u w i.toNat then _ else _) = _
          rw [if_pos z, ii]
        have e1 : ¬ (tkW (thk A a k u w) i.toNat).2 < thk A a k u w i.toNat → tkW (thk A a k u w) (i.toNat + 1) = tkW (thk A a k u w) i.toNat := by
          intro z
          show (if (tkW (thk A a k u w) i.toNat).2 < thk A a k u w i.toNat then _ else _) = _
          rw [if_neg z]
        rw [gi]
        refine ⟨by omega, by unfold am_ri; omega, by omega, fun z => ⟨by unfold am_ri; omega, ?_⟩, fun z => ⟨fun z2 => ⟨by unfold am_ri; omega, ?_⟩, fun z2 => ⟨by omega, by omega, fun z3 => ⟨by unfold am_ri; omega, ?_⟩, fun z3 => ⟨by unfold am_ri; omega, ?_⟩⟩⟩⟩
        · rw [e1 (by omega)] at go
          exact go
        · rw [e0 (by omega)] at go
          exact go
        · have gb : g2 (m + 28) (tkW (thk A a k u w) i.toNat).1.toNat = thk A a k u w (tkW (thk A a k u w) i.toNat).1.toNat := by
            rw [eg, am_u_j (by omega)]
            exact eT _ (by omega)
          rw [gb] at z3
          rw [e1 (by omega)] at go
          exact go
        · have gb : g2 (m + 28) (tkW (thk A a k u w) i.toNat).1.toNat = thk A a k u w (tkW (thk A a k u w) i.toNat).1.toNat := by
            rw [eg, am_u_j (by omega)]
            exact eT _ (by omega)
          rw [gb] at z3
          rw [e0 (by omega)] at go
          exact go
      have wf := hw.1 (95 + 8 * i + a).toNat (by omega)
      have wf2 := w_10 (j := (95 + 8 * i + a).toNat) (by omega)
      refine ab_Md_think_36 hM (eK (ac_m_persons (d := 0) hM) hd ?_)
      rw [gA]
      refine ⟨fun z => by omega, fun _ => ⟨fun z => step 0 ?_, fun z => eK (ac_m_pains (d := 0) hM (by omega) (by omega)) hd ?_⟩⟩
      · unfold thk
        rw [if_pos (Or.inl (by omega))]
      · rw [gA]
        refine ⟨fun z2 => step 0 ?_, fun z2 => eK (ac_m_has (d := 0)) hd ?_⟩
        · unfold thk
          rw [ii, if_pos (Or.inr (Or.inl z2))]
        · by_cases z3 : am_and (am_shr w i) 1 = 1
          · rw [if_pos z3]
            refine ⟨fun q => absurd q (by decide), fun _ => step 0 ?_⟩
            unfold thk
            rw [ii, if_pos (Or.inr (Or.inr z3))]
          · rw [if_neg z3]
            refine ⟨fun _ => eK (ac_m_friendship (d := 0) hM (by omega) (by omega)) hd ?_, fun q => absurd rfl q⟩
            rw [gA]
            have th : thk A a k u w i.toNat = (1 + A (95 + 8 * i + a).toNat) * (if am_and (am_shr u i) 1 = 1 then 3 else 1) := by
              have ng : ¬ (i = a ∨ A (35 + 6 * i + k).toNat = 0 ∨ am_and (am_shr w i) 1 = 1) := by
                rintro (q | q | q)
                · exact z q
                · exact z2 q
                · exact z3 q
              unfold thk
              rw [ii, if_neg ng]
            refine ⟨by unfold am_ri; omega, eK (ac_m_has (d := 0)) hd ?_⟩
            by_cases z4 : am_and (am_shr u i) 1 = 1
            · rw [if_pos z4] at th ⊢
              exact ⟨fun q => absurd q (by decide), fun _ => ⟨by unfold am_ri; omega, step _ th.symm⟩⟩
            · rw [if_neg z4] at th ⊢
              exact ⟨fun _ => ⟨by unfold am_ri; omega, step _ th.symm⟩, fun q => absurd rfl q⟩
  exact lp 0 g (by omega) (by omega) (fun _ _ => rfl) fun q hq => by omega
theorem two_think (hY : am_at Y x am_L11) (hM : am_at Y m am_L12) (dis : x + 148 ≤ m) (c : RL h x m) : am_two am_Nh_think am_Md_think Y x m [.inl a, .inl k, .inl u, .inl w] h := by
  obtain ⟨c1, c2, -⟩ := c.2.1
  have c1' : vR h (x + 3) (lai h m 1) (lai h m) (h (m + 6)) := c1
  have hz := c2.1.z
  unfold rz at hz
  refine am_Met.rg fun ok _ => ?_
  have hb := b22 ok hM
  refine am_cI.mono (ac_N_think (d := 57) hY c1' c2) ?_
  rintro v h1 ok1 - ⟨o1, o2⟩
  by_cases z : (0 ≤ a ∧ a < lai h m 1) ∧ (0 ≤ k ∧ k < lai h m 0)
  · obtain ⟨rfl, f1, f2, f3, f4⟩ := o1 z
    have e1 : ∀ q, m ≤ q → h1 q = h q := fun q hq => f1 q (by omega) (by omega) (by omega)
    have la : lai h1 m = lai h m := lai_u (e1 _ (by omega)) (by rw [e1 m (by omega)])
    refine am_Met.of (by decide) rfl (Nat.le_of_ble_eq_true rfl) (ab_Md_think_0 hM (mL.lay hM (b22 ok1 hM) (by omega) fun h2 _ l => ?_))
    obtain ⟨l0, l2, l22, lq, lj⟩ := l
    rw [la] at l2
    refine eK (ac_m_isPerson (d := 0) hM) (by omega) ?_
    rw [l2, if_pos z.1]
    refine ⟨fun q => absurd q (by decide), fun _ => eK (ac_m_isHelp (d := 0) hM) (by omega) ?_⟩
    rw [l2, if_pos z.2]
    refine ⟨fun _ => mth_36 hM (by rw [l2]; exact c2) (by rw [l2]; exact z.1) (by rw [l2]; exact z.2) (by omega) fun v3 h3 k3 => ?_, fun q => absurd q (by decide)⟩
    rw [l2] at k3
    obtain ⟨rfl, g1, g2, g3, g4⟩ := k3
    rw [am_qI_s]
    have lo : ∀ q, q < m → h3 q = h1 q := fun q hq => by rw [g1 q (by omega) (by omega) (by omega), lq q (by omega) (by omega)]
    have la3 : lai h3 m = lai h m := by rw [lai_1 (by rw [g2 22 (by omega) (by omega)]; exact l22), g1 _ (by omega) (by omega) (by omega), l2]
    have gj : ∀ j, j ≠ 0 → j ≠ 22 → j ≠ 58 → j ≠ 59 → h3 m j = h m j := fun j p1 p2 p3 p4 => by rw [g2 j p3 p4, lj j p1 p2, e1 m (by omega)]
    refine ⟨rfl, c.th (fun j hj => by rw [lo x (by omega), f2 j (by omega) (by omega)]) (fun q p1 p2 => by rw [lo q (by omega), f1 q (by omega) (by omega) (by omega)]) la3 (fun q p => by rw [g1 q (by omega) (by omega) (by omega), lq q (by omega) (by omega), e1 q (by omega)]) (fun j p => gj j (by omega) (by omega) (by omega) (by omega)) ?_⟩
    by_cases zv : (tkW (thk (lai h m) a k u w) (lai h m 1).toNat).1 = -1
    · obtain ⟨a1, a2⟩ := f3 zv
      obtain ⟨b1, b2⟩ := g3 zv
      exact c.2.2.2.2.2.but (fun j hj => by rw [lo x (by omega), a1]) (by rw [lo _ (by omega), a2]) (by rw [b2, lq _ (by omega) (by omega), e1 _ (by omega)]) (fun j hj => by rw [b1, lj j (by omega) (by omega), e1 m (by omega)])
    · obtain ⟨a1, a2, a3⟩ := f4 zv
      obtain ⟨b1, b2, b3⟩ := g4 zv
      refine ⟨⟨by rw [lo x (by omega), a1, b1], by rw [lo x (by omega), a2, b2], by omega, by omega⟩, fun q hq => ?_⟩
      rw [b1] at hq
      rw [lo _ (by omega), a3 q hq, b3 q hq]
  · obtain ⟨rfl, rfl⟩ := o2 z
    refine am_Met.of (by decide) rfl (Nat.le_of_ble_eq_true rfl) (ab_Md_think_0 hM (mL.lay hM hb (by omega) fun h2 _ l => ?_))
    have fin : RL h2 x m := c.but (xFr.refl.two dis l.y.1) l.y.2
    refine eK (ac_m_isPerson (d := 0) hM) (by omega) ?_
    rw [l.2.1]
    by_cases za : 0 ≤ a ∧ a < lai h1 m 1
    · rw [if_pos za]
      refine ⟨fun q => absurd q (by decide), fun _ => eK (ac_m_isHelp (d := 0) hM) (by omega) ?_⟩
      rw [l.2.1, if_neg fun q => z ⟨za, q⟩]
      refine ⟨fun q => absurd rfl q, fun _ => ?_⟩
      rw [am_qI_s]
      exact ⟨rfl, fin⟩
    · rw [if_neg za]
      refine ⟨fun _ => ?_, fun q => absurd rfl q⟩
      rw [am_qI_s]
      exact ⟨rfl, fin⟩
end

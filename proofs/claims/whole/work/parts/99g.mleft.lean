/-! the reference: matched, left -/
theorem sm_one (n : Nat) : ∀ N : Nat, sm (fun i => if i = n then (1 : Int) else 0) N = if n < N then 1 else 0
  | 0 => rfl
  | N + 1 => by
    unfold sm
    rw [sm_one n N]
    by_cases z : N = n
    · rw [if_pos z, if_neg (by omega), if_pos (by omega)]
      omega
    · rw [if_neg z]
      by_cases z2 : n < N
      · rw [if_pos z2, if_pos (by omega)]
        omega
      · rw [if_neg z2, if_neg (by omega)]
        omega
/-- one more is met -/
theorem lMet_more {f g : Nat → Int} {n N : Nat} (hn : n < N) (fn : f n = -1) (gn : 0 ≤ g n) (up1 : ∀ i, i < N → 0 ≤ f i → 0 ≤ g i) (same : ∀ i, i < N → i ≠ n → f i = -1 → g i = -1) (hf : ∀ i, i < N → f i = -1 ∨ 0 ≤ f i) : lMet g N = lMet f N + 1 := by
  have e : lMet g N = sm (fun i => (if 0 ≤ f i then (1 : Int) else 0) + (if i = n then 1 else 0)) N := by
    refine sm_congr N fun i hi => ?_
    by_cases z : i = n
    · rw [z, if_pos gn, fn, if_neg (by omega), if_pos rfl]
      omega
    · rw [if_neg z]
      rcases hf i hi with q | q
      · rw [q, same i hi z q]
        omega
      · rw [if_pos q, if_pos (up1 i hi q)]
        omega
  rw [e, sm_add, sm_one, if_pos hn]
  rfl
/-- what is asked of an assignment: these are so -/
def lCon (A F G : Nat → Int) : Prop := ∀ i : Nat, (i : Int) < A 2 → ¬ F i = -2 → G i = F i
/-- where the fixed ones stand alone -/
def lBeg (F : Nat → Int) (j : Nat) : Nat → Int := fun i => if i < j ∧ 0 ≤ F i then F i else -1
section
variable {Y : am_Y} {g g1 h : am_H} {m d : Nat} {A F : Nat → Int} {mo M : Int}
theorem mat_2 {Q : Option am_V → am_H → Prop} (hM : am_at Y m am_L12) (k : ∀ g1, (∀ q, q ≠ m + 25 → g1 q = g q) → (∀ p, p < 8 → g1 (m + 25) p = 0) → am_wp am_Md_matched d Y 23 [some (.inr (.inr m)), some (.inl 0), none] [] g1 Q) : am_wp am_Md_matched d Y 2 [some (.inr (.inr m)), some (.inl 0), none] [] g Q := by
  have lp : ∀ i : Int, ∀ g1 : am_H, 0 ≤ i → i ≤ 8 → (∀ q, q ≠ m + 25 → g1 q = g q) → (∀ p : Nat, (p : Int) < i → g1 (m + 25) p = 0) → aw_Md_matched_2 d Y m i g1 Q := by
    refine am_up (fun i => ∀ g1 : am_H, 0 ≤ i → i ≤ 8 → (∀ q, q ≠ m + 25 → g1 q = g q) → (∀ p : Nat, (p : Int) < i → g1 (m + 25) p = 0) → aw_Md_matched_2 d Y m i g1 Q) 8 ?_ ?_
    · intro i hi g1 h0 h8 e1 e2
      exact ab_Md_matched_2 hM ⟨fun _ => k g1 e1 fun p hp => e2 p (by omega), fun z => by omega⟩
    · intro i hi ih g1 h0 h8 e1 e2
      refine ab_Md_matched_2 hM ⟨fun z => by omega, fun _ => ⟨by omega, fun g2 eg => ⟨by unfold am_ri; omega, ih g2 (by omega) (by omega) (fun q hq => by rw [eg, am_u_n _ _ _ _ _ hq, e1 q hq]) fun p hp => ?_⟩⟩⟩
      by_cases pi : p = i.toNat
      · rw [pi, eg, am_u_s]
      · rw [eg, am_u_j pi, e2 p (by omega)]
  exact lp 0 g (by omega) (by omega) (fun _ _ => rfl) fun p hp => by omega
theorem mat_23 {Q : Option am_V → am_H → Prop} (hM : am_at Y m am_L12) (hA : 0 ≤ g (m + 2) 2 ∧ g (m + 2) 2 ≤ 48) (k : ∀ g1, (∀ q, q ≠ m + 24 → g1 q = g q) → (∀ i : Nat, (i : Int) < g (m + 2) 2 → g1 (m + 24) i = -1) → am_wp am_Md_matched d Y 50 [some (.inr (.inr m)), some (.inl 0), some (.inl 0)] [] g1 Q) : am_wp am_Md_matched d Y 23 [some (.inr (.inr m)), some (.inl 0), none] [] g Q := by
  have lp : ∀ i : Int, ∀ g1 : am_H, 0 ≤ i → i ≤ g (m + 2) 2 → (∀ q, q ≠ m + 24 → g1 q = g q) → (∀ j : Nat, (j : Int) < i → g1 (m + 24) j = -1) → aw_Md_matched_23 d Y m i g1 Q := by
    refine am_up (fun i => ∀ g1 : am_H, 0 ≤ i → i ≤ g (m + 2) 2 → (∀ q, q ≠ m + 24 → g1 q = g q) → (∀ j : Nat, (j : Int) < i → g1 (m + 24) j = -1) → aw_Md_matched_23 d Y m i g1 Q) (g (m + 2) 2) ?_ ?_
    · intro i hi g1 h0 h8 e1 e2
      refine ab_Md_matched_23 hM ?_
      rw [e1 (m + 2) (by omega)]
      exact ⟨fun _ => k g1 e1 fun j hj => e2 j (by omega), fun z => by omega⟩
    · intro i hi ih g1 h0 h8 e1 e2
      refine ab_Md_matched_23 hM ?_
      rw [e1 (m + 2) (by omega)]
      refine ⟨fun z => by omega, fun _ => ⟨by omega, fun g2 eg => ⟨by unfold am_ri; omega, ih g2 (by omega) (by omega) (fun q hq => by rw [eg, am_u_n _ _ _ _ _ hq, e1 q hq]) fun j hj => ?_⟩⟩⟩
      by_cases ji : j = i.toNat
      · rw [ji, eg, am_u_s]
      · rw [eg, am_u_j ji, e2 j (by omega)]
  exact lp 0 g (by omega) (by omega) (fun _ _ => rfl) fun j hj => by omega
/-- what matched tells -/
def lTel (A F : Nat → Int) (mo v : Int) : Prop := (v = -1 ∧ ∀ G, lVal A mo G → lCon A F G → False) ∨ (0 ≤ v ∧ (∃ G, lVal A mo G ∧ lCon A F G ∧ lMet G (A 2).toNat = v) ∧ ∀ G, lVal A mo G → lCon A F G → lMet G (A 2).toNat ≤ v)
theorem ac_m_matched (hM : am_at Y m am_L12) (w : wV A) (hmo : 0 ≤ mo ∧ mo ≤ 9) (gA : g (m + 2) = A) (g53 : g m 53 = mo) (hF : ∀ i : Nat, (i : Int) < A 2 → g (m + 26) i = -2 ∨ g (m + 26) i = -1 ∨ asked A (g (m + 26) i) (i : Int)) : am_cI am_Md_matched (d + 11) Y [.inr (.inr m)] g (fun v g1 => lmF g g1 m ∧ lTel A (g (m + 26)) mo v) := by
  have hz := w.1.z
  unfold rz at hz
  have w2 := wr_2 w.1
  generalize hFe : g (m + 26) = F at hF
  have Frg : ∀ i : Nat, (i : Int) < A 2 → 0 ≤ F i → F i < 8 ∧ asked A (F i) (i : Int) := by
    intro i hi h0
    rcases hF i hi with q | q | q
    · omega
    · omega
    · have := q.1
      exact ⟨by omega, q⟩
  refine am_Met.of (by decide) rfl (Nat.le_of_ble_eq_true rfl) (ab_Md_matched_0 hM (mat_2 hM fun g1 a1 a2 => mat_23 hM (by rw [a1 _ (by omega), gA]; omega) fun g2 b1 b2 => ?_))
  rw [a1 _ (by omega), gA] at b2
  have fr2 : lmF g g2 m := ⟨fun q p1 p2 p3 => by rw [b1 q p2, a1 q p3], fun j _ => by rw [b1 m (by omega), a1 m (by omega)]⟩
  have ld2 : ∀ p, p < 8 → g2 (m + 25) p = 0 := fun p hp => by rw [b1 _ (by omega)]; exact a2 p hp
  -- the needs that are fixed
  have lp : ∀ j : Int, ∀ g3 : am_H, 0 ≤ j → j ≤ A 2 → lmF g g3 m → (∀ i : Nat, (i : Int) < A 2 → g3 (m + 24) i = lBeg F j.toNat i) → lVal A mo (g3 (m + 24)) → (∀ p : Nat, p < 8 → g3 (m + 25) p = lCnt (g3 (m + 24)) (p : Int) (A 2).toNat) → aw_Md_matched_50 (d + 11) Y m (lMet (g3 (m + 24)) (A 2).toNat) j g3 (am_qI fun v g1 => lmF g g1 m ∧ lTel A F mo v) := by
    refine am_up (fun j => ∀ g3 : am_H, 0 ≤ j → j ≤ A 2 → lmF g g3 m → (∀ i : Nat, (i : Int) < A 2 → g3 (m + 24) i = lBeg F j.toNat i) → lVal A mo (g3 (m + 24)) → (∀ p : Nat, p < 8 → g3 (m + 25) p = lCnt (g3 (m + 24)) (p : Int) (A 2).toNat) → aw_Md_matched_50 (d + 11) Y m (lMet (g3 (m + 24)) (A 2).toNat) j g3 (am_qI fun v g1 => lmF g g1 m ∧ lTel A F mo v)) (A 2) ?_ ?_
    · intro j hj g3 j0 j8 f3 e3 v3 l3
      have gA3 : g3 (m + 2) = A := by rw [f3.1 _ (by omega) (by omega) (by omega), gA]
      refine ab_Md_matched_50 hM ?_
      rw [gA3]
      refine ⟨fun _ => ?_, fun z => by omega⟩
      -- the others, one by one
      have lq : ∀ k : Int, ∀ g4 : am_H, 0 ≤ k → k ≤ A 2 → lmF g g4 m → lmS g4 m A mo → lCon A F (g4 (m + 24)) → (∀ i : Nat, (i : Int) < A 2 → F i = -2 → k ≤ i → g4 (m + 24) i = -1) → (∃ U, lCert A mo (fun i => F i = -2) (fun i => (i : Int) < k) (g4 (m + 24)) U) → aw_Md_matched_130 (d + 11) Y m (lMet (g4 (m + 24)) (A 2).toNat) k g4 (am_qI fun v g1 => lmF g g1 m ∧ lTel A F mo v) := by
        refine am_up (fun k => ∀ g4 : am_H, 0 ≤ k → k ≤ A 2 → lmF g g4 m → lmS g4 m A mo → lCon A F (g4 (m + 24)) → (∀ i : Nat, (i : Int) < A 2 → F i = -2 → k ≤ i → g4 (m + 24) i = -1) → (∃ U, lCert A mo (fun i => F i = -2) (fun i => (i : Int) < k) (g4 (m + 24)) U) → aw_Md_matched_130 (d + 11) Y m (lMet (g4 (m + 24)) (A 2).toNat) k g4 (am_qI fun v g1 => lmF g g1 m ∧ lTel A F mo v)) (A 2) ?_ ?_
        · rintro k hk g4 k0 k8 f4 s4 c4 - ⟨U, cU⟩
          refine ab_Md_matched_130 hM ?_
          rw [s4.1]
          refine ⟨fun _ => ?_, fun z => by omega⟩
          rw [am_qI_s]
          refine ⟨f4, Or.inr ⟨(lMet_rg _ _).1, ⟨_, s4.2.2.1, c4, rfl⟩, fun G hG cG => ?_⟩⟩
          exact cert_max w s4.2.2.1 cU (fun i hi _ => by omega) hG fun i hi nf => (cG i hi nf).trans (c4 i hi nf).symm
        · rintro k hk kh g4 k0 k8 f4 s4 c4 un4 ⟨U, cU⟩
          have kk : ((k.toNat : Nat) : Int) = k := by omega
          have gF4 : g4 (m + 26) = F := by rw [f4.1 _ (by omega) (by omega) (by omega), hFe]
          have mrg := lMet_rg (g4 (m + 24)) (A 2).toNat
          refine ab_Md_matched_130 hM ?_
          rw [s4.1, gF4]
          refine ⟨fun z => by omega, fun _ => ⟨by omega, fun fk h1 e1 => ?_, fun fk => ⟨by unfold am_ri; omega, kh g4 (by omega) (by omega) f4 s4 c4 (fun i hi Fi ki => un4 i hi Fi (by omega)) ⟨U, cU.sub fun i hi Fi _ di => ?_⟩⟩⟩⟩
          · have n1 : ∀ r, r ≠ m → h1 r = g4 r := fun r hr => by rw [e1, am_u_n _ _ _ _ _ hr]
            have t1 : h1 m 54 = 0 := by rw [e1, am_u_s]
            have fr1 : lmF g h1 m := f4.trans (lmF.u e1 (by omega))
            have s1 : lmS h1 m A mo := ⟨by rw [n1 _ (by omega)]; exact s4.1, by rw [fr1.2 53 (by omega), g53], by rw [n1 _ (by omega)]; exact s4.2.2.1, fun p hp => by rw [n1 _ (by omega), n1 _ (by omega)]; exact s4.2.2.2 p hp⟩
            have fn : h1 (m + 24) k.toNat = -1 := by rw [n1 _ (by omega)]; exact un4 k.toNat (by omega) fk (by omega)
            have un := untr_le (h1 m 54)
            have gt := ac_m_gets (d := d) hM w hmo 9 h1 k.toNat s1 (by omega) (by rw [n1 _ (by omega), gF4]; exact fk) fn (by rw [t1]; unfold by8; omega) (by omega)
            rw [kk] at gt
            refine am_kI.of gt (by omega) ?_
            rintro v h2 - - ⟨r1, r2, r3, r4, r5, r6, r7⟩
            have fr2 : lmF g h2 m := fr1.trans r1
            have h24 : h1 (m + 24) = g4 (m + 24) := n1 _ (by omega)
            have h26 : h1 (m + 26) = F := by rw [n1 _ (by omega), gF4]
            rw [h24] at r5 r7 fn
            rw [h26] at r5 r7
            have con2 : lCon A F (h2 (m + 24)) := fun i hi nf => (r5 i nf).trans (c4 i hi nf)
            refine ⟨fun v0 => ⟨by unfold am_ri; omega, ?_⟩, fun v1 => ⟨by unfold am_ri; omega, by unfold am_ri; omega, ?_⟩⟩
            · rcases r7 with ⟨z, -⟩ | ⟨-, r7, r8, r9, r10⟩
              · omega
              have go := kh h2 (by omega) (by omega) fr2 r4 con2 (fun i hi Fi ki => by rw [r7]; exact un4 i hi Fi (by omega)) ?_
              · rw [r7] at go
                exact go
              · have T := cert_add (T := fun p => p < 8 ∧ hb (h2 m 54) (p : Int)) (n := k.toNat) cU (fun p t => ⟨t.1, (r10 p t.1 t.2 (by rw [t1]; exact sh_0 (by omega))).1⟩) (fun i hi Fi f0 t q hq => ⟨by have := hq.1; omega, (r10 _ t.1 t.2 (by rw [t1]; exact sh_0 (by omega))).2 i hi Fi (by omega) q hq⟩) (fun q hq => ⟨by have := hq.1; omega, r9 q hq⟩)
                refine ⟨fun p => U p ∨ p < 8 ∧ hb (h2 m 54) (p : Int), ?_⟩
                rw [r7]
                exact T.sub fun i hi Fi _ di => by
                  by_cases e : i = k.toNat
                  · exact Or.inr e
                  · exact Or.inl (by omega)
            · rcases r7 with ⟨-, r7, r8, r9⟩ | ⟨z, -⟩
              case inr => exact absurd z v1
              have more := lMet_more (f := g4 (m + 24)) (g := h2 (m + 24)) (n := k.toNat) (N := (A 2).toNat) (by omega) fn r7 (fun i hi => r8 i (by omega)) (fun i hi => r9 i (by omega)) fun i hi => by
                have := s4.2.2.1.rg w hi
                omega
              have keep := cert_keep w s4.2.2.1 cU r4.2.2.1 (fun i _ nf => r5 i nf) (fun i hi => r8 i hi)
              have go := kh h2 (by omega) (by omega) fr2 r4 con2 (fun i hi Fi ki => r9 i hi (by omega) (un4 i hi Fi (by omega))) ⟨U, keep.sub fun i hi Fi fi di => ?_⟩
              · rw [more] at go
                exact go
              · by_cases e : i = k.toNat
                · rw [e] at fi
                  omega
                · omega
          · by_cases e : i = k.toNat
            · rw [e] at Fi
              exact absurd Fi fk
            · omega
      refine lq 0 g3 (by omega) (by omega) f3 ⟨gA3, by rw [f3.2 53 (by omega)]; exact g53, v3, l3⟩ (fun i hi nf => ?_) (fun i hi Fi _ => ?_) ⟨fun _ => False, cert_0.sub fun i hi _ _ di => by omega⟩
      · rw [e3 i hi]
        unfold lBeg
        rcases hF i hi with q | q | q
        · exact absurd q nf
        · rw [if_neg (by omega), q]
        · have := q.1
          rw [if_pos (by omega)]
      · rw [e3 i hi]
        unfold lBeg
        rw [if_neg (by omega)]
    · intro j hj jh g3 j0 j8 f3 e3 v3 l3
      have jj : ((j.toNat : Nat) : Int) = j := by omega
      have jn : (j + 1).toNat = j.toNat + 1 := by omega
      have gA3 : g3 (m + 2) = A := by rw [f3.1 _ (by omega) (by omega) (by omega), gA]
      have gF3 : g3 (m + 26) = F := by rw [f3.1 _ (by omega) (by omega) (by omega), hFe]
      have mrg := lMet_rg (g3 (m + 24)) (A 2).toNat
      have f3j : g3 (m + 24) j.toNat = -1 := by
        rw [e3 j.toNat (by omega)]
        unfold lBeg
        rw [if_neg (by omega)]
      refine ab_Md_matched_50 hM ?_
      rw [gA3, gF3, f3.2 53 (by omega), g53]
      refine ⟨fun z => by omega, fun _ => ⟨by omega, fun f0 => ?_, fun f0 => ⟨by unfold am_ri; omega, jh g3 (by omega) (by omega) f3 (fun i hi => ?_) v3 l3⟩⟩⟩
      · obtain ⟨F8, Fa⟩ := Frg j.toNat (by omega) f0
        have Fl := l3 (F j.toNat).toNat (by omega)
        rw [show (((F j.toNat).toNat : Nat) : Int) = F j.toNat from by omega] at Fl
        have Fm := v3.2 (F j.toNat).toNat (by omega)
        rw [show (((F j.toNat).toNat : Nat) : Int) = F j.toNat from by omega] at Fm
        have F0 := (lCnt_rg (g3 (m + 24)) (F j.toNat) (A 2).toNat).1
        have jpos : ¬ (-1 : Int) = F j.toNat := by omega
        rw [Fl]
        refine ⟨by omega, by omega, fun room => ⟨by omega, by omega, by unfold am_ri; omega, by omega, fun h1 e1 => ⟨by omega, by omega, fun h2 e2 => ⟨by unfold am_ri; omega, by unfold am_ri; omega, ?_⟩⟩⟩, fun full => ?_⟩
        · have h24 : h2 (m + 24) = up (g3 (m + 24)) j.toNat (F j.toNat) := by rw [e2, am_u_up, e1, am_u_n _ _ _ _ _ (by omega), am_u_n _ _ _ _ _ (by omega), gF3]
          have h25 : h2 (m + 25) = up (g3 (m + 25)) (F j.toNat).toNat (lCnt (g3 (m + 24)) (F j.toNat) (A 2).toNat + 1) := by rw [e2, am_u_n _ _ _ _ _ (by omega), e1, am_u_up]
          have fr : lmF g h2 m := (f3.trans (lmF.u e1 (by omega))).trans (lmF.u e2 (by omega))
          have met : lMet (h2 (m + 24)) (A 2).toNat = lMet (g3 (m + 24)) (A 2).toNat + 1 := by
            rw [h24, lMet_up (by omega), f3j, if_neg (by omega), if_pos f0]
            omega
          have go := jh h2 (by omega) (by omega) fr (fun i hi => ?_) ?_ (fun p hp => ?_)
          · rw [met] at go
            exact go
          · rw [h24, jn]
            by_cases e : i = j.toNat
            · rw [e, upl_s]
              unfold lBeg
              rw [if_pos ⟨by omega, f0⟩]
            · rw [upl_n e, e3 i hi]
              unfold lBeg
              by_cases z : i < j.toNat ∧ 0 ≤ F i
              · rw [if_pos z, if_pos ⟨by omega, z.2⟩]
              · rw [if_neg z, if_neg (by omega)]
          · rw [h24]
            refine v3.up (by omega) (Or.inr Fa) fun p hp e => ?_
            rw [e, f3j, if_neg jpos]
            omega
          · rw [h24, h25, lCnt_up (by omega), f3j, if_neg (by omega)]
            by_cases pj : p = (F j.toNat).toNat
            · rw [pj, upl_s, show (((F j.toNat).toNat : Nat) : Int) = F j.toNat from by omega, if_pos rfl]
              omega
            · rw [upl_n pj, l3 p hp, if_neg (by omega)]
              omega
        · rw [am_qI_s]
          refine ⟨f3, Or.inl ⟨rfl, fun G hG cG => ?_⟩⟩
          have le : lCnt (up (g3 (m + 24)) j.toNat (F j.toNat)) (F j.toNat) (A 2).toNat ≤ lCnt G (F j.toNat) (A 2).toNat := by
            refine sm_mono _ fun i hi => ?_
            by_cases z : up (g3 (m + 24)) j.toNat (F j.toNat) i = F j.toNat
            · have gi : G i = F j.toNat := by
                by_cases e : i = j.toNat
                · rw [e]
                  exact cG _ (by omega) (by omega)
                · rw [upl_n e, e3 i (by omega)] at z
                  unfold lBeg at z
                  by_cases y : i < j.toNat ∧ 0 ≤ F i
                  · rw [if_pos y] at z
                    rw [cG i (by omega) (by omega), z]
                  · rw [if_neg y] at z
                    omega
              rw [if_pos z, if_pos gi]
              omega
            · rw [if_neg z]
              split <;> omega
          rw [lCnt_up (by omega), f3j, if_neg jpos, if_pos rfl] at le
          have := hG.2 (F j.toNat).toNat (by omega)
          rw [show (((F j.toNat).toNat : Nat) : Int) = F j.toNat from by omega] at this
          omega
      · rw [e3 i hi, jn]
        unfold lBeg
        by_cases e : i = j.toNat
        · rw [e, if_neg (by omega), if_neg (by omega)]
        · by_cases z : i < j.toNat ∧ 0 ≤ F i
          · rw [if_pos z, if_pos ⟨by omega, z.2⟩]
          · rw [if_neg z, if_neg (by omega)]
  have b24 : ∀ i : Nat, i < (A 2).toNat → g2 (m + 24) i = -1 := fun i hi => b2 i (by omega)
  have c0 : ∀ p : Nat, lCnt (g2 (m + 24)) (p : Int) (A 2).toNat = 0 := fun p => sm_zero _ fun i hi => by rw [b24 i hi, if_neg (by omega)]
  have m0 : lMet (g2 (m + 24)) (A 2).toNat = 0 := sm_zero _ fun i hi => by rw [b24 i hi, if_neg (by omega)]
  have go := lp 0 g2 (by omega) (by omega) fr2 (fun i hi => ?_) ⟨fun i hi => Or.inl (b2 i hi), fun p _ => by rw [c0]; omega⟩ (fun p hp => by rw [c0, ld2 p hp])
  · rw [m0] at go
    exact go
  · rw [b2 i hi]
    unfold lBeg
    rw [if_neg (by omega)]
end

/-! contracts: the reference's reader of a book's line, whole -/
section
variable {d : Nat} {Y : am_Y} {h : am_H} {m : Nat} {s : Nat → Int} {n lim : Nat} {r : List TK}
theorem endK {K : Int → am_H → Prop} : (∀ v h1, ((v = 0 ∨ v = 1) ∧ am_qI K (some (.inl v)) h1) → ((v = 0 ∨ v = 1) ∧ am_qI K (some (.inl v)) h1)) := fun _ _ h => h
theorem line99 {h0 : am_H} {c : Nat} {lo : Int} {e : PE (LN × List TK)} (hY : am_at Y m am_L12) (hc : MC h0 m s n lim) (F : mFb h0 h m) (hr : M0 h m s n lim r) (hk : h m 24 = (c : Int)) (hc60 : c < 60) (hL : ∀ i, i < 4 * c → h (m + 4) i = h0 (m + 4) i) (he : e = pbd (pN r lo 99) fun x => .inr ((0, x.1, 0, 0), x.2)) : aw_Md_readBookLine_99 (d + 4) Y m (4 * (c : Int)) lo h (am_qI (mBO h0 m s n lim c e)) := by
  refine ab_Md_readBookLine_99 hY (numK hY (hc.bk F) hr (by omega) ?_)
  intro x h1 f1 o1
  have F1 := F.trans f1.bk
  cases hB : pN r lo 99 with
  | inl q =>
    rw [hB] at o1 he
    obtain ⟨rfl, e10, e11⟩ := o1
    refine ⟨fun z => absurd rfl z, fun _ => ?_⟩
    rw [am_qI_s, he]
    exact ⟨F1, rfl, e10, e11⟩
  | inr B =>
    rw [hB] at o1 he
    obtain ⟨rfl, b13, r1⟩ := o1
    have e0 : (4 * (c : Int)).toNat = 4 * c := by omega
    have e1 : (4 * (c : Int) + 1).toNat = 4 * c + 1 := by omega
    refine ⟨fun _ => ⟨by omega, fun h3 e3 => ⟨⟨by omega, by omega⟩, by omega, fun h4 e4 => ?_⟩⟩, fun z => absurd z (by decide)⟩
    rw [e0] at e3
    rw [e1] at e4
    have g13 : h3 m 13 = B.1 := by rw [e3, am_u_o (by omega)]; exact b13
    rw [g13] at e4
    have k4 : h4 m 24 = c := by rw [e4, am_u_o (by omega), e3, am_u_o (by omega), f1.2 24 (by omega)]; exact hk
    rw [k4]
    refine ⟨⟨by omega, by omega⟩, fun h5 e5 => ?_⟩
    have L5 : h5 (m + 4) = up (up (h (m + 4)) (4 * c) 0) (4 * c + 1) B.1 := by rw [e5, am_u_n _ _ _ _ _ (by omega), e4, am_u_up, e3, am_u_up, f1.1 _ (by omega)]
    refine lineEnd (A := ((0, B.1, 0, 0), B.2)) hY hc (((F1.trans (mFb.l e3)).trans (mFb.l e4)).trans (mFb.c e5)) (r1.but fun j a b _ _ => by rw [e5, am_u_j (by omega), e4, am_u_o (by omega), e3, am_u_o (by omega)]) (by rw [e5, am_u_s]; omega) ⟨?_, ?_, fun z => absurd rfl z⟩ (fun i hi => ?_) he (by omega)
    · show 0 = h5 (m + 4) (4 * c)
      rw [L5, up_n (by omega), up_s]
    · show B.1 = h5 (m + 4) (4 * c + 1)
      rw [L5, up_s]
    · rw [L5, up_n (by omega), up_n (by omega)]
      exact hL i hi
theorem line199 {h0 : am_H} {c : Nat} {p w v : Int} {e : PE (LN × List TK)} (hY : am_at Y m am_L12) (hc : MC h0 m s n lim) (F : mFb h0 h m) (hr : M0 h m s n lim r) (hz : rz (h0 (m + 2))) (hk : h m 24 = (c : Int)) (hc60 : c < 60) (hL : ∀ i, i < 4 * c → h (m + 4) i = h0 (m + 4) i) (hp : h (m + 4) (4 * c + 1) = p) (hv : v = (if (hd r).1 = 10 then 1 else 0)) (hw : w = (if (hd r).1 = 10 then 1 else if (hd r).1 = 12 then 3 else 4)) (ck : (hd r).1 = 10 ∨ (hd r).1 = 12 ∨ (hd r).1 = 13) (he : e = pDeed (h0 (m + 2)) (h0 (m + 6)) p r) : aw_Md_readBookLine_199 (d + 5) Y m p (4 * (c : Int)) v (4 * (c : Int)) w h (am_qI (mBO h0 m s n lim c e)) := by
  have hz' := hz
  unfold rz at hz'
  have e0 : (4 * (c : Int)).toNat = 4 * c := by omega
  have e2 : (4 * (c : Int) + 2).toNat = 4 * c + 2 := by omega
  have e3 : (4 * (c : Int) + 3).toNat = 4 * c + 3 := by omega
  have ep : e = pbd (pWhoB (h0 (m + 2)) (h0 (m + 6)) (nx r)) fun q => if q = p then pb (nx r) 3 else pbd (pWhatB (h0 (m + 2)) (h0 (m + 6)) (nx (nx r))) fun k => if (hd r).1 = 10 then (if (hd (nx (nx (nx r)))).1 = 11 then .inr ((2, p, q, k), nx (nx (nx (nx r)))) else .inr ((1, p, q, k), nx (nx (nx r)))) else .inr ((if (hd r).1 = 12 then 3 else 4, p, q, k), nx (nx (nx r))) := by
    rw [he]
    unfold pDeed
    rw [if_pos ck]
  have hw1 : (hd r).1 = 10 → w = 1 := fun z => by rw [hw, if_pos z]
  have hw2 : ¬ (hd r).1 = 10 → w = (if (hd r).1 = 12 then 3 else 4) := fun z => by rw [hw, if_neg z]
  have hv1 : (hd r).1 = 10 → v = 1 := fun z => by rw [hv, if_pos z]
  have hv2 : ¬ (hd r).1 = 10 → v = 0 := fun z => by rw [hv, if_neg z]
  clear hw hv
  refine ab_Md_readBookLine_199 hY ⟨by omega, fun h1 x1 => ?_⟩
  rw [e0] at x1
  have F1 := F.trans (mFb.l x1)
  have r1 : M0 h1 m s n lim r := hr.but fun j _ _ _ _ => by rw [x1, am_u_o (by omega)]
  refine goK hY (hc.bk F1) r1 (by omega) ?_
  intro h2 f2 _ r2
  have F2 := F1.trans f2.bk
  refine persK hY (by omega) ?_
  have A2 : h2 (m + 2) = h0 (m + 2) := F2.1 _ (by omega) (by omega)
  have N2 : h2 (m + 6) = h0 (m + 6) := F2.1 _ (by omega) (by omega)
  have L2 : h2 (m + 4) = up (h (m + 4)) (4 * c) w := by rw [f2.1 _ (by omega), x1, am_u_up]
  have k2 : h2 m 24 = c := by rw [f2.2 24 (by omega), x1, am_u_o (by omega)]; exact hk
  refine readNamedK (r := nx r) hY (hc.bk F2) r2 (by rw [A2]; omega) (by omega) ?_
  intro x h5 f5 o5
  have F5 := F2.trans f5.bk
  rw [A2, N2] at o5
  have o5' : ro h5 m x (pbd (pWhoB (h0 (m + 2)) (h0 (m + 6)) (nx r)) fun a => if a = p then pb (nx r) 3 else .inr a) (fun a => h5 m 13 = a ∧ M0 h5 m s n lim (nx (nx r))) := o5
  cases hq : pWhoB (h0 (m + 2)) (h0 (m + 6)) (nx r) with
  | inl q =>
    rw [hq] at o5' ep
    obtain ⟨rfl, e10, e11⟩ := o5'
    refine ⟨fun z => absurd rfl z, fun _ => ?_⟩
    rw [am_qI_s, ep]
    exact ⟨F5, rfl, e10, e11⟩
  | inr q =>
    rw [hq] at o5' ep
    have o6 : ro h5 m x (if q = p then pb (nx r) 3 else .inr q) (fun a => h5 m 13 = a ∧ M0 h5 m s n lim (nx (nx r))) := o5'
    have ep6 : e = if q = p then pb (nx r) 3 else pbd (pWhatB (h0 (m + 2)) (h0 (m + 6)) (nx (nx r))) fun k => if (hd r).1 = 10 then (if (hd (nx (nx (nx r)))).1 = 11 then .inr ((2, p, q, k), nx (nx (nx (nx r)))) else .inr ((1, p, q, k), nx (nx (nx r)))) else .inr ((if (hd r).1 = 12 then 3 else 4, p, q, k), nx (nx (nx r))) := ep
    by_cases cq : q = p
    · rw [if_pos cq] at o6 ep6
      obtain ⟨rfl, e10, e11⟩ := o6
      refine ⟨fun z => absurd rfl z, fun _ => ?_⟩
      rw [am_qI_s, ep6]
      exact ⟨F5, rfl, e10, e11⟩
    · rw [if_neg cq] at o6 ep6
      obtain ⟨rfl, b13, r5⟩ := o6
      refine ⟨fun _ => ⟨⟨by omega, by omega⟩, by omega, fun h7 x7 => ?_⟩, fun z => absurd z (by decide)⟩
      rw [e2, b13] at x7
      have F7 := F5.trans (mFb.l x7)
      have A7 : h7 (m + 2) = h0 (m + 2) := F7.1 _ (by omega) (by omega)
      have N7 : h7 (m + 6) = h0 (m + 6) := F7.1 _ (by omega) (by omega)
      have L7 : h7 (m + 4) = up (up (h (m + 4)) (4 * c) w) (4 * c + 2) q := by rw [x7, am_u_up, f5.1 _ (by omega), L2]
      have k7 : h7 m 24 = c := by rw [x7, am_u_o (by omega), f5.2 24 (by omega), k2]
      have r7 : M0 h7 m s n lim (nx (nx r)) := r5.but fun j _ _ _ _ => by rw [x7, am_u_o (by omega)]
      refine helpsK hY (by omega) (readNamedK (r := nx (nx r)) hY (hc.bk F7) r7 (by rw [A7]; omega) (by omega) ?_)
      intro y h10 f10 o10
      have F10 := F7.trans f10.bk
      rw [A7, N7] at o10
      have o10' : ro h10 m y (pbd (pWhatB (h0 (m + 2)) (h0 (m + 6)) (nx (nx r))) fun a => if a = -6 then pb (nx (nx r)) 3 else .inr a) (fun a => h10 m 13 = a ∧ M0 h10 m s n lim (nx (nx (nx r)))) := o10
      cases hk' : pWhatB (h0 (m + 2)) (h0 (m + 6)) (nx (nx r)) with
      | inl q' =>
        rw [hk'] at o10' ep6
        obtain ⟨rfl, e10, e11⟩ := o10'
        refine ⟨fun z => absurd rfl z, fun _ => ?_⟩
        rw [am_qI_s, ep6]
        exact ⟨F10, rfl, e10, e11⟩
      | inr k =>
        have kr := pWhatB_r hz hk'
        rw [hk'] at o10' ep6
        have o11 : ro h10 m y (if k = -6 then pb (nx (nx r)) 3 else .inr k) (fun a => h10 m 13 = a ∧ M0 h10 m s n lim (nx (nx (nx r)))) := o10'
        rw [if_neg (by omega)] at o11
        obtain ⟨rfl, b13', r10⟩ := o11
        have ep7 : e = if (hd r).1 = 10 then (if (hd (nx (nx (nx r)))).1 = 11 then .inr ((2, p, q, k), nx (nx (nx (nx r)))) else .inr ((1, p, q, k), nx (nx (nx r)))) else .inr ((if (hd r).1 = 12 then 3 else 4, p, q, k), nx (nx (nx r))) := ep6
        refine ⟨fun _ => ⟨⟨by omega, by omega⟩, by omega, fun h12 x12 => ?_⟩, fun z => absurd z (by decide)⟩
        rw [e3, b13'] at x12
        have F12 := F10.trans (mFb.l x12)
        have L12 : h12 (m + 4) = up (up (up (h (m + 4)) (4 * c) w) (4 * c + 2) q) (4 * c + 3) k := by rw [x12, am_u_up, f10.1 _ (by omega), L7]
        have k12 : h12 m 24 = c := by rw [x12, am_u_o (by omega), f10.2 24 (by omega), k7]
        have r12 : M0 h12 m s n lim (nx (nx (nx r))) := r10.but fun j _ _ _ _ => by rw [x12, am_u_o (by omega)]
        have lnq : ∀ (z : Int) (L : Nat → Int), L = up (up (up (up (h (m + 4)) (4 * c) w) (4 * c + 2) q) (4 * c + 3) k) (4 * c) z → lnM (z, p, q, k) (lnL L c) ∧ ∀ i, i < 4 * c → L i = h0 (m + 4) i := by
          intro z L eL
          subst eL
          refine ⟨⟨?_, ?_, fun _ => ?_⟩, fun i hi => ?_⟩
          · show z = up _ (4 * c) z (4 * c)
            rw [up_s]
          · show p = up (up (up (up (h (m + 4)) (4 * c) w) (4 * c + 2) q) (4 * c + 3) k) (4 * c) z (4 * c + 1)
            rw [up_n (by omega), up_n (by omega), up_n (by omega), up_n (by omega)]
            exact hp.symm
          · show (q, k) = (up (up (up (up (h (m + 4)) (4 * c) w) (4 * c + 2) q) (4 * c + 3) k) (4 * c) z (4 * c + 2), up (up (up (up (h (m + 4)) (4 * c) w) (4 * c + 2) q) (4 * c + 3) k) (4 * c) z (4 * c + 3))
            rw [up_n (by omega), up_n (by omega), up_s, up_n (by omega), up_s]
          · rw [up_n (by omega), up_n (by omega), up_n (by omega), up_n (by omega)]
            exact hL i hi
        have same : up (up (up (up (h (m + 4)) (4 * c) w) (4 * c + 2) q) (4 * c + 3) k) (4 * c) w = up (up (up (h (m + 4)) (4 * c) w) (4 * c + 2) q) (4 * c + 3) k := by
          funext i
          unfold up
          by_cases z : i = 4 * c
          · rw [if_pos z, if_neg (by omega), if_neg (by omega), if_pos z]
          · rw [if_neg z]
        -- no hidden
        have plain : ∀ h13, h13 = am_u h12 m 24 (h12 m 24 + 1) → e = .inr ((w, p, q, k), nx (nx (nx r))) → am_kI am_Md_readEnd (d + 5) Y [.inr (.inr m)] h13 (fun v h1 => (v = 0 ∨ v = 1) ∧ am_qI (mBO h0 m s n lim c e) (some (.inl v)) h1) := by
          intro h13 x13 ee
          have L13 : h13 (m + 4) = h12 (m + 4) := by rw [x13, am_u_n _ _ _ _ _ (by omega)]
          have lq := lnq w (h13 (m + 4)) (by rw [L13, L12, same])
          exact lineEnd (A := ((w, p, q, k), nx (nx (nx r)))) hY hc (F12.trans (mFb.c x13)) (r12.but fun j _ _ _ _ => by rw [x13, am_u_j (by omega)]) (by rw [x13, am_u_s, k12]; omega) lq.1 lq.2 ee (by omega)
        refine ⟨fun cv => ⟨by rw [k12]; exact ⟨by omega, by omega⟩, fun h13 x13 => plain h13 x13 ?_⟩, fun cv => ?_⟩
        · have n10 : ¬ (hd r).1 = 10 := fun z => by rw [hv1 z] at cv; omega
          rw [ep7, if_neg n10, hw2 n10]
        · have c10 : (hd r).1 = 10 := Classical.byContradiction fun z => cv (hv2 z)
          rw [if_pos c10] at ep7
          refine wordK hY r12 ⟨by omega, by omega⟩ (by omega) ?_
          rw [mW9 ⟨by omega, by omega⟩]
          by_cases c11 : (hd (nx (nx (nx r)))).1 = 11
          · rw [if_pos c11] at ep7 ⊢
            refine ⟨fun z => absurd z (by decide), fun _ => ⟨by omega, fun h23 x23 => ?_⟩⟩
            rw [e0] at x23
            have F23 := F12.trans (mFb.l x23)
            refine goK hY (hc.bk F23) (r12.but fun j _ _ _ _ => by rw [x23, am_u_o (by omega)]) (by omega) ?_
            intro h24 f24 _ r24
            have k24 : h24 m 24 = c := by rw [f24.2 24 (by omega), x23, am_u_o (by omega), k12]
            rw [k24]
            refine ⟨⟨by omega, by omega⟩, fun h25 x25 => ?_⟩
            have L25 : h25 (m + 4) = up (up (up (up (h (m + 4)) (4 * c) w) (4 * c + 2) q) (4 * c + 3) k) (4 * c) 2 := by rw [x25, am_u_n _ _ _ _ _ (by omega), f24.1 _ (by omega), x23, am_u_up, L12]
            have lq := lnq 2 (h25 (m + 4)) L25
            exact lineEnd (A := ((2, p, q, k), nx (nx (nx (nx r))))) hY hc ((F23.trans f24.bk).trans (mFb.c x25)) (r24.but fun j _ _ _ _ => by rw [x25, am_u_j (by omega)]) (by rw [x25, am_u_s]; omega) lq.1 lq.2 ep7 (by omega)
          · rw [if_neg c11] at ep7 ⊢
            refine ⟨fun _ => ⟨by rw [k12]; exact ⟨by omega, by omega⟩, fun h13 x13 => plain h13 x13 (by rw [ep7, hw1 c10])⟩, fun z => absurd rfl z⟩
theorem line43 {c : Nat} {y g p : Int} {e : PE (LN × List TK)} (hY : am_at Y m am_L12) (hc : MC h m s n lim) (hr : M0 h m s n lim r) (hz : rz (h (m + 2))) (hk : h m 24 = (c : Int)) (hc60 : c ≤ 60) (hy : 0 ≤ y ∧ y ≤ 99)
    (hg1 : g = 0 → e = (if (c : Int) = 60 then pb r 4 else pDeed (h (m + 2)) (h (m + 6)) p (nx r)) ∧ 0 ≤ p ∧ p < 8) (hg2 : ¬ g = 0 → e = (if (c : Int) = 60 then pb r 4 else pbd (pN (nx r) (if (c : Int) = 0 then 0 else y + 1) 99) fun x => .inr ((0, x.1, 0, 0), x.2))) : aw_Md_readBookLine_43 (d + 6) Y m y g p h (am_qI (mBO h m s n lim c e)) := by
  refine ab_Md_readBookLine_43 hY ?_
  rw [hk]
  refine ⟨fun w => ⟨⟨by omega, by omega⟩, goK hY hc hr (by omega) ?_⟩, fun w => badK hY hr (by omega) ?_⟩
  · intro h1 f1 _ r1
    refine ⟨⟨by omega, by omega⟩, ⟨by omega, by omega⟩, fun h2 x2 => ?_⟩
    rw [show (4 * (c : Int) + 1).toNat = 4 * c + 1 by omega] at x2
    have F2 : mFb h h2 m := f1.bk.trans (mFb.l x2)
    have r2 : M0 h2 m s n lim (nx r) := r1.but fun j _ _ _ _ => by rw [x2, am_u_o (by omega)]
    have k2 : h2 m 24 = c := by rw [x2, am_u_o (by omega), f1.2 24 (by omega), hk]
    have L2 : h2 (m + 4) = up (h (m + 4)) (4 * c + 1) p := by rw [x2, am_u_up, f1.1 _ (by omega)]
    have hL : ∀ i, i < 4 * c → h2 (m + 4) i = h (m + 4) i := fun i hi => by rw [L2, up_n (by omega)]
    rw [k2]
    refine ⟨fun g0 => ?_, fun g1 => ⟨fun c0 => ⟨⟨by omega, by omega⟩, ?_⟩, fun c0 => ?_⟩⟩
    · obtain ⟨he, hp⟩ := hg1 g0
      rw [if_neg w] at he
      have at199 : ∀ (v w' : Int), ((hd (nx r)).1 = 10 ∨ (hd (nx r)).1 = 12 ∨ (hd (nx r)).1 = 13) → v = (if (hd (nx r)).1 = 10 then 1 else 0) → w' = (if (hd (nx r)).1 = 10 then 1 else if (hd (nx r)).1 = 12 then 3 else 4) → aw_Md_readBookLine_199 (d + 6) Y m p (4 * (c : Int)) v (4 * (c : Int)) w' h2 (am_qI (mBO h m s n lim c e)) := by
        intro v w' ck hv hw
        exact line199 (d := d + 1) (r := nx r) hY hc F2 r2 hz k2 (by omega) hL (by rw [L2, up_s]) hv hw ck he
      refine wordK hY r2 ⟨by omega, by omega⟩ (by omega) ?_
      rw [mW9 ⟨by omega, by omega⟩]
      by_cases c10 : (hd (nx r)).1 = 10
      · rw [if_pos c10]
        exact ⟨fun _ => ⟨fun z => absurd z (by decide), fun _ => at199 1 1 (Or.inl c10) (by rw [if_pos c10]) (by rw [if_pos c10])⟩, fun z => absurd z (by decide)⟩
      · rw [if_neg c10]
        refine ⟨fun z => absurd rfl z, fun _ => wordK hY r2 ⟨by omega, by omega⟩ (by omega) ?_⟩
        rw [mW9 ⟨by omega, by omega⟩]
        by_cases c12 : (hd (nx r)).1 = 12
        · rw [if_pos c12]
          refine ⟨fun _ => ⟨fun _ => wordK hY r2 ⟨by omega, by omega⟩ (by omega) ?_, fun z => absurd rfl z⟩, fun z => absurd z (by decide)⟩
          rw [mW9 ⟨by omega, by omega⟩, if_pos c12]
          exact ⟨fun z => absurd z (by decide), fun _ => at199 0 3 (Or.inr (Or.inl c12)) (by rw [if_neg c10]) (by rw [if_neg c10, if_pos c12])⟩
        · rw [if_neg c12]
          refine ⟨fun z => absurd rfl z, fun _ => wordK hY r2 ⟨by omega, by omega⟩ (by omega) ?_⟩
          rw [mW9 ⟨by omega, by omega⟩]
          by_cases c13 : (hd (nx r)).1 = 13
          · rw [if_pos c13]
            refine ⟨fun _ => ⟨fun _ => wordK hY r2 ⟨by omega, by omega⟩ (by omega) ?_, fun z => absurd rfl z⟩, fun z => absurd z (by decide)⟩
            rw [mW9 ⟨by omega, by omega⟩, if_neg c12]
            exact ⟨fun _ => at199 0 4 (Or.inr (Or.inr c13)) (by rw [if_neg c10]) (by rw [if_neg c10, if_neg c12]), fun z => absurd rfl z⟩
          · rw [if_neg c13]
            refine ⟨fun z => absurd rfl z, fun _ => badK hY r2 (by omega) ?_⟩
            intro h3 f3 e10 e11
            refine mBO.bad (F2.trans f3.bk) e10 e11 ?_
            rw [he]
            unfold pDeed
            rw [if_neg (by omega)]
    · have he := hg2 g1
      rw [if_neg w, if_neg (by omega)] at he
      exact line99 (d := d + 2) (r := nx r) hY hc F2 r2 k2 (by omega) hL he
    · have he := hg2 g1
      rw [if_neg w, if_pos (by omega)] at he
      exact line99 (d := d + 2) (r := nx r) hY hc F2 r2 k2 (by omega) hL he
  · intro h1 f1 e10 e11
    refine mBO.bad f1.bk e10 e11 ?_
    by_cases g0 : g = 0
    · rw [(hg1 g0).1, if_pos w]
    · rw [hg2 g0, if_pos w]
theorem ac_m_readBookLine {c : Nat} {y : Int} (hY : am_at Y m am_L12) (hc : MC h m s n lim) (hr : M0 h m s n lim r) (hz : rz (h (m + 2))) (hk : h m 24 = (c : Int)) (hc60 : c ≤ 60) (hy : 0 ≤ y ∧ y ≤ 99) : am_cI am_Md_readBookLine (d + 6) Y [.inr (.inr m), .inl y] h (mBO h m s n lim c (pBLn (h (m + 2)) (h (m + 6)) c y r)) := by
  have hz' := hz
  unfold rz at hz'
  refine am_Met.of (by decide) rfl (Nat.le_of_ble_eq_true rfl) (ab_Md_readBookLine_0 hY (wordK hY hr ⟨by omega, by omega⟩ (by omega) ?_))
  rw [mW9 ⟨by omega, by omega⟩]
  unfold pBLn
  by_cases c9 : (hd r).1 = 9
  · rw [if_pos c9, if_pos c9]
    exact ⟨fun _ => line43 (d := d) hY hc hr hz hk hc60 hy (fun z => absurd z (by decide)) (fun _ => rfl), fun z => absurd z (by decide)⟩
  · rw [if_neg c9, if_neg c9]
    refine ⟨fun z => absurd rfl z, fun _ => persK hY (by omega) (namedK hY hr (by omega) (by omega) ?_)⟩
    have hf := fnd_rg (h (m + 6)) (hd r).2.2 6 (h (m + 2) 1).toNat
    cases hp : pWhoB (h (m + 2)) (h (m + 6)) r with
    | inl q =>
      have hp' := hp
      unfold pWhoB pAt at hp'
      by_cases c24 : (hd r).1 = 24
      · rw [if_pos c24] at hp' ⊢
        have i0 : fnd (h (m + 6)) (hd r).2.2 6 (h (m + 2) 1).toNat = -1 := by
          by_cases z : fnd (h (m + 6)) (hd r).2.2 6 (h (m + 2) 1).toNat < 0
          · omega
          · rw [if_neg z] at hp'; cases hp'
        rw [i0, if_pos (by decide)] at hp'
        refine ⟨fun z => ?_, fun _ => ⟨fun z => ?_, fun _ => badK hY hr (by omega) ?_⟩⟩
        · have : (0 : Int) ≤ fnd (h (m + 6)) (hd r).2.2 6 (h (m + 2) 1).toNat := z
          omega
        · exact absurd i0 z
        · intro h1 f1 e10 e11
          exact mBO.bad f1.bk e10 e11 (by rw [← hp']; rfl)
      · rw [if_neg c24] at hp' ⊢
        refine ⟨fun z => absurd z (by decide), fun _ => ⟨fun _ => badK hY hr (by omega) ?_, fun z => absurd z (by decide)⟩⟩
        intro h1 f1 e10 e11
        exact mBO.bad f1.bk e10 e11 (by rw [← hp']; rfl)
    | inr p =>
      have pr := pWhoB_r hz hp
      have pa := pAt_r hp
      rw [if_pos pr.2.2]
      have ei : fnd (h (m + 6)) (hd r).2.2 (6 : Int).toNat (h (m + 2) 1).toNat = p := pa.2.1.symm
      rw [ei]
      exact ⟨fun _ => line43 (d := d) hY hc hr hz hk hc60 hy (fun _ => ⟨rfl, pr.1, by omega⟩) (fun z => absurd rfl z), fun z => by omega⟩
end

/-! contracts: the class reads a whole book -/
theorem pDeed_i {R N : Nat → Int} {p : Int} {r : List TK} {A : LN × List TK} (hz : rz R) (hp : 0 ≤ p ∧ p < R 1) (e : pDeed R N p r = .inr A) : lnOK R A.1 ∧ ¬ A.1.1 = 0 ∧ A.2.length ≤ (nx r).length := by
  have l1 := nx_le (nx r)
  have l2 := nx_le (nx (nx r))
  have l3 := nx_le (nx (nx (nx r)))
  unfold pDeed at e
  split at e
  · cases hq : pWhoB R N (nx r) with
    | inl q => rw [hq] at e; cases e
    | inr q =>
      rw [hq] at e
      have qr := pWhoB_r hz hq
      have e' : (if q = p then pb (nx r) 3 else pbd (pWhatB R N (nx (nx r))) fun k => if (hd r).1 = 10 then (if (hd (nx (nx (nx r)))).1 = 11 then .inr (((2 : Int), p, q, k), nx (nx (nx (nx r)))) else .inr ((1, p, q, k), nx (nx (nx r)))) else .inr ((if (hd r).1 = 12 then 3 else 4, p, q, k), nx (nx (nx r)))) = .inr A := e
      by_cases c : q = p
      · rw [if_pos c] at e'; cases e'
      · rw [if_neg c] at e'
        cases hk : pWhatB R N (nx (nx r)) with
        | inl q => rw [hk] at e'; cases e'
        | inr k =>
          rw [hk] at e'
          have kr := pWhatB_r hz hk
          have e2 : (if (hd r).1 = 10 then (if (hd (nx (nx (nx r)))).1 = 11 then .inr (((2 : Int), p, q, k), nx (nx (nx (nx r)))) else .inr ((1, p, q, k), nx (nx (nx r)))) else .inr ((if (hd r).1 = 12 then 3 else 4, p, q, k), nx (nx (nx r))) : PE (LN × List TK)) = .inr A := e'
          have ok : ∀ w : Int, 1 ≤ w ∧ w ≤ 4 → lnOK R (w, p, q, k) := fun w hw => Or.inr ⟨hw.1, hw.2, hp.1, hp.2, qr.1, qr.2.1, fun z => c z.symm, kr.1, kr.2.1⟩
          split at e2
          · split at e2
            · cases e2
              exact ⟨ok 2 (by omega), by dsimp only; omega, by dsimp only; omega⟩
            · cases e2
              exact ⟨ok 1 (by omega), by dsimp only; omega, by dsimp only; omega⟩
          · cases e2
            refine ⟨ok _ (by split <;> omega), ?_, by dsimp only; omega⟩
            dsimp only
            split <;> omega
  · cases e
theorem pBLn_i {R N : Nat → Int} {c : Nat} {y : Int} {r : List TK} {A : LN × List TK} (hz : rz R) (hy : 0 ≤ y ∧ y ≤ 99) (h0 : c = 0 → y = 0) (hc : c ≤ 60) (e : pBLn R N c y r = .inr A) : lnOK R A.1 ∧ (A.1.1 = 0 → y ≤ A.1.2.1 ∧ A.1.2.1 ≤ 99) ∧ c < 60 ∧ (hd r).1 < 32 ∧ A.2.length ≤ (nx r).length := by
  have l1 := nx_le (nx r)
  unfold pBLn at e
  split at e
  · next k9 =>
    split at e
    · cases e
    · next c60 =>
      cases hB : pN (nx r) (if (c : Int) = 0 then 0 else y + 1) 99 with
      | inl q => rw [hB] at e; cases e
      | inr B =>
        rw [hB] at e
        have pn := pN_r hB
        cases e
        have lo : y ≤ B.1 ∧ 0 ≤ B.1 := by
          by_cases z : (c : Int) = 0
          · rw [if_pos z] at pn
            have := h0 (by omega)
            omega
          · rw [if_neg z] at pn
            omega
        refine ⟨Or.inl ⟨rfl, lo.2, pn.2.2⟩, fun _ => ⟨lo.1, pn.2.2⟩, by omega, by omega, ?_⟩
        dsimp only
        rw [pn.1]
        omega
  · cases hp : pWhoB R N r with
    | inl q => rw [hp] at e; cases e
    | inr p =>
      rw [hp] at e
      have pr := pWhoB_r hz hp
      have e' : (if (c : Int) = 60 then pb r 4 else pDeed R N p (nx r)) = .inr A := e
      split at e'
      · cases e'
      · have di := pDeed_i hz ⟨pr.1, pr.2.1⟩ e'
        exact ⟨di.1, fun z => absurd z di.2.1, by omega, by omega, by omega⟩
theorem pBkSem_i {r r' : List TK} (e : pBkSem r = .inr r') : (hd r).1 = 26 ∧ r' = nx r := by
  unfold pBkSem at e
  split at e
  · next c =>
    cases e
    exact ⟨c, rfl⟩
  · cases e
theorem jLns_up (R : Nat → Int) (f : Nat → LN) (c : Nat) (ln : LN) (X : am_H) : lp (fun i J => jLine R (updL f c ln i) i J) (c + 1) X = jLine R ln c (lp (fun i J => jLine R (f i) i J) c X) := by
  show jLine R (updL f c ln c) c (lp (fun i J => jLine R (updL f c ln i) i J) c X) = _
  rw [show updL f c ln c = ln from if_pos rfl]
  congr 1
  refine lp_congr c fun i hi y => ?_
  rw [show updL f c ln i = f i from if_neg (by omega)]
theorem bkR.fin {h h1 : am_H} {b : Nat} {R : Nat → Int} {J : am_H} {i : Nat} {y : Int} (c : bkR h b R J i y) (hV : wV R) (hy : h b 1 = y) (f4 : ∀ p, p < 8 → h1 (b + 4) p = jEnd R J 6 p) (F : ∀ q, q ≠ b + 4 → h1 q = h q) : fkR h1 b R (jEnd R J) i := by
  have hz := hV.1.z
  obtain ⟨a1, a2, a3, a4, a5, a6⟩ := c.ends hV f4 F
  have kD := c.rg
  obtain ⟨⟨k1, k2, k3⟩, k4, -⟩ := c
  obtain ⟨e8, e80, e6, e2, e3, e4, e1, e0⟩ := jEnd_is (R := R) (J := J) hz
  refine ⟨by rw [F b (by omega), hy, a5, e0 0 (by omega), e0 1 (by omega)]; exact ⟨k1, rfl, k2, k3⟩, fun j hj => ?_, a1, a2, a3, by rw [a5]; exact a4, by rw [a5]; omega, a6.le (by omega)⟩
  rw [F _ (by omega), e1 7 (by omega)]
  exact k4 j hj
section
variable {d : Nat} {Y : am_Y} {h : am_H} {o v : Nat} {R N : Nat → Int}
def bAll (h : am_H) (o : Nat) (R : Nat → Int) (e : PE ((Nat → LN) × Nat)) (x : Int) (h1 : am_H) : Prop := (∀ q, (q < o ∨ o + 14 ≤ q) → h1 q = h q) ∧ tro h1 (o + 1) x e (fun A => h1 (o + 1) 4 = 0 ∧ fkR h1 (o + 5) R (jBook R A.1 A.2 jZ) A.2 ∧ A.2 ≤ 60 ∧ ∀ j, j < A.2 → lnOK R (A.1 j))
theorem loopB22 {q1 n1 : Nat} {h0 : am_H} (hY : am_at Y o am_L3) (hq : Y[q1]? = some (13, n1)) (hYv : am_at Y v am_L9) (hd2 : v + 11 ≤ o ∨ o + 14 ≤ v) (cv : vR h0 v (R 1) R N) (hV : wV R) : ∀ (n : Nat) (h : am_H) (f : Nat → LN) (c : Nat) (y ii : Int) (r : List TK), r.length ≤ n → 0 ≤ ii → ii + n ≤ 1000 → c ≤ 60 → (c = 0 → y = 0) → TR h (o + 1) r → h (o + 1) 4 = 0 → tE r → bkR h (o + 5) R (lp (fun i J => jLine R (f i) i J) c (jClr jZ)) c y → h (o + 5) 1 = y → (∀ j, j < c → lnOK R (f j)) → (∀ q, (q < o ∨ o + 14 ≤ q) → h q = h0 q) → aw_BookText_readAll_22 (d + 8) Y o q1 n1 v ii h (am_qI (bAll h0 o R (pBks R N n f c y r)))
  | 0, h, f, c, y, ii, r, hl, _, _, _, _, ht, _, _, _, _, _, _ => by
    have := ht.ne
    omega
  | n + 1, h, f, c, y, ii, r, hl, i0, hi, hc, hcy, ht, h4, te, hb, hy, hf, F => by
    have hYT : am_at Y (o + 1) am_L8 := hY.sub 1 rfl
    have hYb : am_at Y (o + 5) am_L2 := hY.sub 5 rfl
    have hz := hV.1.z
    have kD := hb.rg
    have cv' : vR h v (R 1) R N := cv.but fun q a b => F q (by omega)
    refine ab_BookText_readAll_22 hY hq hYv ?_
    rw [ht.hd.1, hy]
    refine ⟨fun z => by omega, fun _ => ⟨fun c32 => ?_, fun c32 => ?_⟩⟩
    · have e : pBks R N (n + 1) f c y r = .inr (f, c) := if_pos c32
      refine am_kV.of (ac_Book_endYear (d := 0) hYb hYv (by omega) cv' hV hb) (by omega) (fun h1 _ p1 => ?_)
      rw [am_qI_s, e]
      exact ⟨fun q hq => by rw [p1.2 q (by omega), F q hq], rfl, by rw [p1.2 _ (by omega)]; exact h4, hb.fin hV hy p1.1 p1.2, hc, hf⟩
    · have e : pBks R N (n + 1) f c y r = pbd (pBLn R N c y r) fun A => pbd (pBkSem A.2) fun r' => pBks R N n (updL f c A.1) (c + 1) (if A.1.1 = 0 then A.1.2.1 else y) r' := if_neg c32
      rw [e]
      refine am_kI.of (ac_B_readLine (d := d) (i := c) (y := y) hY hYv hd2 cv' hV ht h4 te hb.1.1 hc hy kD) (by omega) ?_
      rintro x h1 - - ⟨f1, o1⟩
      have F1 : ∀ q, (q < o ∨ o + 14 ≤ q) → h1 q = h0 q := fun q hq => (f1 q (by omega)).trans (F q hq)
      cases hA : pBLn R N c y r with
      | inl q =>
        rw [hA] at o1
        obtain ⟨rfl, e4, e5⟩ := o1
        refine ⟨fun _ => ?_, fun z => absurd rfl z⟩
        rw [am_qI_s]
        exact ⟨F1, rfl, e4, e5⟩
      | inr A =>
        rw [hA] at o1
        obtain ⟨rfl, t1, g1, te1, l1⟩ := o1
        have inv := pBLn_i hz kD hcy hc hA
        refine ⟨fun z => absurd z (by decide), fun _ => ?_⟩
        obtain ⟨a, l, er, q0, q1', q2⟩ := t1.head
        have ea : hd A.2 = a := by rw [er]; rfl
        refine am_kI.of (ac_take (d := 0) hYT t1 er g1) (by omega) ?_
        rintro x h2 - - o2
        rcases o2 with ⟨a1, rfl, g2⟩ | ⟨a1, rfl, g2⟩
        · have e26 : pBkSem A.2 = .inr (nx A.2) := by
            unfold pBkSem
            rw [if_pos (by rw [ea]; exact a1)]
          have f2 : ∀ q, (q < o + 1 ∨ o + 5 ≤ q) → h2 q = h1 q := fun q hq => g2.2.1 q (by omega)
          have E2 : ∀ q, o + 5 ≤ q → h2 q = h q := fun q hq => by rw [f2 q (by omega), f1 q (by omega)]
          have b2 : bkR h2 (o + 5) R (lp (fun i J => jLine R (f i) i J) c (jClr jZ)) c y := by
            obtain ⟨k, k4, k5, k6, k7, k8, k9, kA, kB, kC, kD'⟩ := hb
            unfold bkR
            rw [E2 (o + 5) (by omega), E2 (o + 5 + 1) (by omega), E2 (o + 5 + 2) (by omega), E2 (o + 5 + 3) (by omega), E2 (o + 5 + 4) (by omega), E2 (o + 5 + 8) (by omega), E2 (o + 5 + 7) (by omega)]
            exact ⟨k, k4, k5, k6, k7, k8, k9.but (fun q a b => E2 q (by omega)), kA, kB, kC, kD'⟩
          refine ⟨fun _ => judgeK (ln := A.1) hY hYv hd2 (cv.but fun q a b => by rw [f2 q (by omega), F1 q (by omega)]) hV b2 (by rw [E2 _ (by omega)]; exact hy) inv.2.2.1 ?_ inv.1 (fun z => (inv.2.1 z).1) (by omega) ?_, fun z => absurd z (by decide)⟩
          · unfold lnF
            rw [f2 o (by omega)]
            exact l1
          · intro h3 b3 y3 F3
            refine ⟨⟨by omega, by omega⟩, ?_⟩
            have ep : pbd (pbd (Sum.inr A : PE (LN × List TK)) fun A => pbd (pBkSem A.2) fun r' => pBks R N n (updL f c A.1) (c + 1) (if A.1.1 = 0 then A.1.2.1 else y) r') (fun z => .inr z) = pBks R N n (updL f c A.1) (c + 1) (if A.1.1 = 0 then A.1.2.1 else y) (nx A.2) := by
              show pbd (pbd (pBkSem A.2) _) _ = _
              rw [e26]
              show pbd (pBks R N n (updL f c A.1) (c + 1) (if A.1.1 = 0 then A.1.2.1 else y) (nx A.2)) _ = _
              cases pBks R N n (updL f c A.1) (c + 1) (if A.1.1 = 0 then A.1.2.1 else y) (nx A.2) <;> rfl
            have ep' : (pbd (Sum.inr A : PE (LN × List TK)) fun A => pbd (pBkSem A.2) fun r' => pBks R N n (updL f c A.1) (c + 1) (if A.1.1 = 0 then A.1.2.1 else y) r') = pBks R N n (updL f c A.1) (c + 1) (if A.1.1 = 0 then A.1.2.1 else y) (nx A.2) := by
              show pbd (pBkSem A.2) _ = _
              rw [e26]
              rfl
            rw [ep']
            have len := te.len inv.2.2.2.1
            have len2 := nx_le A.2
            refine loopB22 hY hq hYv hd2 cv hV n h3 (updL f c A.1) (c + 1) _ (ii + 1) (nx A.2) (by omega) (by omega) (by omega) (by omega) (fun z => by omega) (g2.1.of4 fun q a b => F3 q (by omega)) (by rw [F3 _ (by omega), g2.2.2.1]; exact g1) te1.n1 ?_ y3 (fun j hj => ?_) (fun q hq => by rw [F3 q (by omega), f2 q (by omega), F1 q hq])
            · rw [jLns_up]
              exact b3
            · unfold updL
              split
              · exact inv.1
              · exact hf j (by omega)
        · have e26 : pBkSem A.2 = pb A.2 1 := by
            unfold pBkSem
            rw [if_neg (by rw [ea]; exact a1)]
          refine ⟨fun z => absurd rfl z, fun _ => ?_⟩
          have ep' : (pbd (Sum.inr A : PE (LN × List TK)) fun A => pbd (pBkSem A.2) fun r' => pBks R N n (updL f c A.1) (c + 1) (if A.1.1 = 0 then A.1.2.1 else y) r') = pb A.2 1 := by
            show pbd (pBkSem A.2) _ = _
            rw [e26]
            rfl
          rw [am_qI_s, ep']
          refine ⟨fun q hq => by rw [g2.2.2 q (by omega), F1 q hq], rfl, ?_, ?_⟩
          · rw [g2.1]
            unfold pq
            dsimp only
            split <;> rfl
          · rw [g2.2.1, q1', ea.symm]
            rfl
theorem ac_B_readAll {q1 n1 n : Nat} (hY : am_at Y o am_L3) (hq : Y[q1]? = some (13, n1)) (hYv : am_at Y v am_L9) (hqo : q1 < o ∨ o + 14 ≤ q1) (hd2 : v + 11 ≤ o ∨ o + 14 ≤ v) (cv : vR h v (R 1) R N) (hV : wV R) (hn : n ≤ n1) (hn1 : n1 ≤ 940) : am_cI am_BookText_readAll (d + 11) Y [.inr (.inr o), .inr (.inr q1), .inl (n : Int), .inr (.inr v)] h (bAll h o R (pBks R N 1000 (fun _ => (0, 0, 0, 0)) 0 0 (lxs (h q1) n 700 0))) := by
  have hYT : am_at Y (o + 1) am_L8 := hY.sub 1 rfl
  have hYb : am_at Y (o + 5) am_L2 := hY.sub 5 rfl
  refine am_Met.of (by decide) rfl (Nat.le_of_ble_eq_true rfl) (ab_BookText_readAll_0 hY hq hYv ?_)
  refine am_kV.of (ac_open (d := 0) (lim := 700) hYT hq (by omega) hn hn1) (by omega) (fun h1 _ p1 => ?_)
  obtain ⟨t1, g4, g5, f1⟩ := p1
  refine am_kV.of (ac_Book_begin (d := 0) hYb hV) (by omega) (fun h2 _ p2 => ?_)
  obtain ⟨b1, b2, b3⟩ := p2
  have len : (lxs (h q1) n 700 0).length ≤ 1000 := by
    have := lxS_len (h q1) n 700 (min n 700 - 0) 0
    unfold lxs
    omega
  exact loopB22 (d := d + 3) (h0 := h) hY hq hYv hd2 cv hV 1000 h2 (fun _ => (0, 0, 0, 0)) 0 0 0 _ len (by omega) (by omega) (by omega) (fun _ => rfl) (t1.of4 fun q a b => b3 q (by omega)) (by rw [b3 _ (by omega)]; exact g4) (tE_lxS _ _ _ _ _) (b1 jZ) b2 (fun j hj => by omega) (fun q hq => by rw [b3 q (by omega), f1 q (by omega)])
end

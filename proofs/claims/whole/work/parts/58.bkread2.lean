/-! contracts: the class reads a book, and judges it along the way -/
def jZ : am_H := fun _ _ => 0
theorem lp_congr {α : Type} {f g : Nat → α → α} {x : α} : ∀ n, (∀ i, i < n → ∀ y, f i y = g i y) → lp f n x = lp g n x
  | 0, _ => rfl
  | n + 1, h => by
    show f n (lp f n x) = g n (lp g n x)
    rw [lp_congr n fun i hi => h i (by omega), h n (by omega)]
theorem am_u_id {h : am_H} {o j : Nat} {x : Int} (e : h o j = x) : am_u h o j x = h := by
  funext q i
  unfold am_u
  split
  · next c => rw [c.1, c.2, e]
  · rfl
theorem bkR.rg {h : am_H} {b : Nat} {R : Nat → Int} {J : am_H} {i : Nat} {y : Int} (c : bkR h b R J i y) : 0 ≤ y ∧ y ≤ 99 := c.2.2.2.2.2.2.2.2.2.2
section
variable {d : Nat} {Y : am_Y} {h : am_H} {o v : Nat} {R N : Nat → Int} {r : List TK} {J : am_H} {i : Nat} {y : Int}
theorem ac_B_readYear (hY : am_at Y o am_L3) (ht : TR h (o + 1) r) (h4 : h (o + 1) 4 = 0) (te : tE r) (hi : h (o + 5) 0 = i) (hy : h (o + 5) 1 = y) (hr : 0 ≤ y ∧ y ≤ 99) : am_cI am_BookText_readYear (d + 3) Y [.inr (.inr o)] h (bO h o (pbd (pN r (if (i : Int) = 0 then 0 else y + 1) 99) fun x => .inr ((0, x.1, 0, 0), x.2))) := by
  have hYT : am_at Y (o + 1) am_L8 := hY.sub 1 rfl
  have at23 : ∀ s : Int, s = (if (i : Int) = 0 then 0 else y + 1) → aw_BookText_readYear_23 (d + 3) Y o s h (am_qI (bO h o (pbd (pN r (if (i : Int) = 0 then 0 else y + 1) 99) fun x => .inr ((0, x.1, 0, 0), x.2)))) := by
    intro s es
    refine ab_BookText_readYear_23 hY (cnumK hYT ht h4 (by omega) ?_)
    intro x h1 f1 o1
    rw [es] at o1
    cases hB : pN r (if (i : Int) = 0 then 0 else y + 1) 99 with
    | inl q =>
      rw [hB] at o1
      obtain ⟨rfl, e4, e5⟩ := o1
      refine ⟨fun z => absurd rfl z, fun _ => ?_⟩
      rw [am_qI_s]
      exact ⟨f1.b, rfl, e4, e5⟩
    | inr B =>
      rw [hB] at o1
      obtain ⟨rfl, b3, t1, b4⟩ := o1
      refine ⟨fun _ h3 e3 h5 e5 => ?_, fun z => absurd z (by decide)⟩
      have s3 : ∀ q, q ≠ o → h3 q = h1 q := fun q hq => by rw [e3, am_u_n _ _ _ _ q hq]
      have s5 : ∀ q, q ≠ o → h5 q = h1 q := fun q hq => by rw [e5, am_u_n _ _ _ _ q hq, s3 q hq]
      rw [am_qI_s]
      refine ⟨(f1.b.trans (bkT.u e3)).trans (bkT.u e5), rfl, t1.of4 fun q a b => s5 q (by omega), by rw [s5 _ (by omega)]; exact b4, by rw [(pN_r hB).1]; exact te.n1, Or.inl ⟨rfl, ?_, ?_⟩⟩
      · rw [e5, am_u_j (by omega), e3, am_u_s]
      · rw [e5, am_u_s, s3 _ (by omega), b3]
  refine am_Met.of (by decide) rfl (Nat.le_of_ble_eq_true rfl) (ab_BookText_readYear_0 hY ?_)
  rw [hi, hy]
  exact ⟨fun c => ⟨⟨by omega, by omega⟩, at23 _ (by rw [if_neg c])⟩, fun c => at23 _ (by rw [if_pos c])⟩
theorem ac_B_readLine (hY : am_at Y o am_L3) (hYv : am_at Y v am_L9) (hd2 : v + 11 ≤ o ∨ o + 14 ≤ v) (cv : vR h v (R 1) R N) (hV : wV R) (ht : TR h (o + 1) r) (h4 : h (o + 1) 4 = 0) (te : tE r) (hi : h (o + 5) 0 = i) (hi60 : i ≤ 60) (hy : h (o + 5) 1 = y) (hr : 0 ≤ y ∧ y ≤ 99) : am_cI am_BookText_readLine (d + 7) Y [.inr (.inr o), .inr (.inr v)] h (bO h o (pBLn R N i y r)) := by
  have hYT : am_at Y (o + 1) am_L8 := hY.sub 1 rfl
  have hz := hV.1.z
  have hz' := hz
  unfold rz at hz'
  -- behind the name, or at the year
  have at51 : ∀ (h2 : am_H) (s p : Int), (∀ q, q ≠ o → h2 q = h q) → h2 o 4 = p → (s = 0 → ¬ (hd r).1 = 9 ∧ pWhoB R N r = .inr p) → (¬ s = 0 → (hd r).1 = 9) → aw_BookText_readLine_51 (d + 7) Y o v s h2 (am_qI (bO h o (pBLn R N i y r))) := by
    intro h2 s p s2 ep c0 c1
    have F2 : bkT h h2 o := fun q hq => s2 q (by omega)
    have t2 : TR h2 (o + 1) r := ht.of4 fun q a b => s2 q (by omega)
    have g2 : h2 (o + 1) 4 = 0 := by rw [s2 _ (by omega)]; exact h4
    have k33 : ¬ (hd r).1 = 33 := by
      by_cases z : s = 0
      · have := pWhoB_r hz (c0 z).2
        omega
      · have := c1 z
        omega
    refine ab_BookText_readLine_51 hY hYv ?_
    rw [s2 (o + 5) (by omega), hi]
    refine ⟨fun c => advK hYT t2 (by omega) ?_, fun c => failK (k := 4) hYT t2 g2 (by omega) (by rw [if_neg k33]) ?_⟩
    · intro h3 t3 f3 j3
      have g3 : h3 (o + 1) 4 = 0 := (j3 4 (by omega) (by omega) (by omega) (by omega)).trans g2
      refine ⟨fun z => ?_, fun z => ?_⟩
      · refine am_kI.of (ac_B_readDeed (d := d) (p := p) hY hYv hd2 (cv.but fun q a b => by rw [f3 q (by omega), s2 q (by omega)]) hV t3 g3 te.n1 (by rw [f3 o (by omega)]; exact ep)) (by omega) ?_
        rintro x h5 - - ⟨f5, t5⟩
        rw [am_qI_s]
        have e : pBLn R N i y r = pDeed R N p (nx r) := by
          unfold pBLn
          rw [if_neg (c0 z).1, (c0 z).2]
          show (if (i : Int) = 60 then pb r 4 else pDeed R N p (nx r)) = _
          rw [if_neg (by omega)]
        rw [e]
        exact ⟨t5.x, (F2.trans f3.b).trans f5, t5⟩
      · refine am_kI.of (ac_B_readYear (d := d) (i := i) (y := y) hY t3 g3 te.n1 (by rw [f3 _ (by omega), s2 _ (by omega), hi]) (by rw [f3 _ (by omega), s2 _ (by omega), hy]) hr) (by omega) ?_
        rintro x h5 - - ⟨f5, t5⟩
        rw [am_qI_s]
        have e : pBLn R N i y r = pbd (pN (nx r) (if (i : Int) = 0 then 0 else y + 1) 99) fun x => .inr ((0, x.1, 0, 0), x.2) := by
          unfold pBLn
          rw [if_pos (c1 z), if_neg (by omega)]
        rw [e]
        exact ⟨t5.x, (F2.trans f3.b).trans f5, t5⟩
    · intro h5 f5 e4 e5 _
      rw [am_qI_s]
      refine ⟨Or.inl rfl, bO.bad (F2.trans f5.b) e4 e5 ?_⟩
      unfold pBLn
      by_cases z : s = 0
      · rw [if_neg (c0 z).1, (c0 z).2]
        show (if (i : Int) = 60 then pb r 4 else pDeed R N p (nx r)) = _
        rw [if_pos (by omega)]
      · rw [if_pos (c1 z), if_pos (by omega)]
  refine am_Met.of (by decide) rfl (Nat.le_of_ble_eq_true rfl) (ab_BookText_readLine_0 hY hYv ?_)
  rw [ht.hd.1]
  refine ⟨fun c => ab_BookText_readLine_17 hY hYv ⟨fun _ => personAtK hYv hYT cv ⟨hz'.2.2.1, hz'.2.2.2⟩ ht h4 (by omega) ?_, fun z => absurd rfl z⟩, fun c => ab_BookText_readLine_17 hY hYv ⟨fun z => absurd z (by decide), fun _ h7 e7 => ⟨fun _ => ?_, fun z => absurd z (by decide)⟩⟩⟩
  · intro x h1 f1 o1 h3 e3
    have o1' : match pWhoB R N r with | .inl q => x = -1 ∧ h1 (o + 1) 4 = q.1 ∧ h1 (o + 1) 5 = q.2 | .inr a => x = a ∧ 0 ≤ a ∧ h1 = h := o1
    refine ⟨fun z => absurd rfl z, fun _ => ?_⟩
    have w3 : h3 o 4 = x := by rw [e3, am_u_s]
    rw [w3]
    cases hp : pWhoB R N r with
    | inl q =>
      rw [hp] at o1'
      obtain ⟨rfl, e4, e5⟩ := o1'
      refine ⟨fun z => absurd z (by decide), fun _ => ?_⟩
      rw [am_qI_s]
      have e : pBLn R N i y r = .inl q := by
        unfold pBLn
        rw [if_neg c, hp]
        rfl
      rw [e]
      exact ⟨f1.b.trans (bkT.u e3), rfl, by rw [e3, am_u_n _ _ _ _ _ (by omega)]; exact e4, by rw [e3, am_u_n _ _ _ _ _ (by omega)]; exact e5⟩
    | inr p =>
      rw [hp] at o1'
      obtain ⟨rfl, p0, rfl⟩ := o1'
      exact ⟨fun _ => at51 h3 0 x (fun q hq => by rw [e3, am_u_n _ _ _ _ q hq]) w3 (fun _ => ⟨c, hp⟩) (fun z => absurd rfl z), fun z => by omega⟩
  · exact at51 h7 1 (-1) (fun q hq => by rw [e7, am_u_n _ _ _ _ q hq]) (by rw [e7, am_u_s]) (fun z => absurd z (by decide)) (fun _ => c)
/-- a line judged, and put behind the others -/
theorem judgeK {ln : LN} {K : am_H → Prop} (hY : am_at Y o am_L3) (hYv : am_at Y v am_L9) (hd2 : v + 11 ≤ o ∨ o + 14 ≤ v) (cv : vR h v (R 1) R N) (hV : wV R) (c : bkR h (o + 5) R J i y) (hy : h (o + 5) 1 = y) (hi : i < 60) (hl : lnF h o ln) (ok : lnOK R ln) (hyl : ln.1 = 0 → y ≤ ln.2.1) (hd : 5 < d)
    (hK : ∀ h1, bkR h1 (o + 5) R (jLine R ln i J) (i + 1) (if ln.1 = 0 then ln.2.1 else y) → h1 (o + 5) 1 = (if ln.1 = 0 then ln.2.1 else y) → (∀ q, (q < o + 5 ∨ o + 14 ≤ q) → h1 q = h q) → K h1) :
    am_kI am_BookText_judgeLine d Y [.inr (.inr o), .inr (.inr v)] h (fun x h1 => am_kV am_Book_addLine d Y [.inr (.inr (o + 5)), .inl x] h1 K) := by
  have hYb : am_at Y (o + 5) am_L2 := hY.sub 5 rfl
  have hz := hV.1.z
  have c0 := c.lines
  -- the line put behind
  have put : ∀ (x : Int) (h1 : am_H) (E : am_H) (y' : Int), bkR h1 (o + 5) R E i y' → h1 (o + 5) 1 = y' → (∀ q, (q < o + 5 ∨ o + 14 ≤ q) → h1 q = h q) → (if x = 0 then am_u E 7 i x else am_u (am_u E 7 i x) 0 0 (am_w (E 0 0 + 1))) = jLine R ln i J → y' = (if ln.1 = 0 then ln.2.1 else y) → am_kV am_Book_addLine d Y [.inr (.inr (o + 5)), .inl x] h1 K := by
    intro x h1 E y' c1 hy1 F1 eE ey
    refine am_kV.of (ac_addLine (d := 0) (x := x) hYb c1 hi) (by omega) (fun h2 _ p2 => ?_)
    rw [eE, ey] at p2
    refine hK h2 p2.1 (by rw [p2.2.2, hy1, ey]) (fun q hq => by rw [p2.2.1 q (by omega), F1 q hq])
  -- helps, thanks, leavings
  have deed : ∀ (x : Int) (h1 : am_H) , ¬ ln.1 = 0 → x = (jL R (am_u J 7 i 0) ln.1 ln.2.1 ln.2.2.1 ln.2.2.2).1 → bkR h1 (o + 5) R (jL R (am_u J 7 i 0) ln.1 ln.2.1 ln.2.2.1 ln.2.2.2).2 i y → bkF h h1 (o + 5) → am_kV am_Book_addLine d Y [.inr (.inr (o + 5)), .inl x] h1 K := by
    intro x h1 n0 ex c1 F1
    refine put x h1 _ y c1 (by rw [F1.2, hy]) (fun q hq => F1.1 q (by omega)) ?_ (by rw [if_neg n0])
    unfold jLine
    rw [if_neg n0, ← ex]
  have dis : v + 11 ≤ o + 5 ∨ o + 5 + 9 ≤ v := by omega
  refine ⟨5, hd, am_Met.of (by decide) rfl (Nat.le_of_ble_eq_true rfl) (ab_BookText_judgeLine_0 hY hYv ?_)⟩
  have okd : ¬ ln.1 = 0 → 1 ≤ ln.1 ∧ ln.1 ≤ 4 ∧ (0 ≤ ln.2.1 ∧ ln.2.1 < R 1) ∧ (0 ≤ ln.2.2.1 ∧ ln.2.2.1 < R 1) ∧ (0 ≤ ln.2.2.2 ∧ ln.2.2.2 < R 0) := by
    intro n0
    rcases ok with ok | ok
    · exact absurd ok.1 n0
    · obtain ⟨o1, o2, o3, o4, o5, o6, o7, o8, o9⟩ := ok
      exact ⟨o1, o2, ⟨o3, o4⟩, ⟨o5, o6⟩, ⟨o8, o9⟩⟩
  rcases hl with ⟨l0, l2, l3⟩ | ⟨lw, l4, l5, l6⟩
  · have ok0 : 0 ≤ ln.2.1 ∧ ln.2.1 ≤ 99 := by
      rcases ok with ok | ok
      · exact ⟨ok.2.1, ok.2.2⟩
      · omega
    rw [l2, l3]
    refine ⟨fun _ => am_kV.of (ac_beginYear (d := 0) hYb hYv dis hV ok0 cv c0 hy (hyl l0)) (by omega) (fun h1 _ p1 => ?_), fun z => absurd z (by decide), fun z => absurd z (by decide), fun z => absurd z (by decide), fun z => absurd z (by decide)⟩
    rw [am_qI_s]
    obtain ⟨p1, p2, p3⟩ := p1
    refine put 0 h1 _ ln.2.1 p1 p2 (fun q hq => p3 q (by omega)) ?_ (by rw [if_pos l0])
    rw [if_pos rfl]
    have e7 : jYrs R 100 ln.2.1 (am_u J 7 i 0) 7 i = 0 := by rw [jYrs_7 R hz, am_u_s]
    rw [am_u_id e7]
    exact (if_pos l0).symm
  · rw [l4, l5, l6]
    rcases lw with ⟨w, l2, l7⟩ | ⟨w, l2, l7⟩ | ⟨w, l2⟩ | ⟨w, l2⟩
    · have k := okd (by omega)
      rw [l2, l7]
      refine ⟨fun z => by omega, fun _ => am_kI.of (ac_tellHelp (d := 0) (w := ln.1) (g := 0) hYb hYv dis cv hV c0 (Or.inl w) k.2.2.1 k.2.2.2.1 k.2.2.2.2 (Or.inl ⟨rfl, w⟩)) (by omega) ?_, fun z => absurd z (by decide), fun z => absurd z (by decide), fun z => absurd z (by decide)⟩
      rintro x h1 - - ⟨ex, c1, F1⟩
      rw [am_qI_s]
      exact deed x h1 (by omega) ex c1 F1
    · have k := okd (by omega)
      rw [l2, l7]
      refine ⟨fun z => by omega, fun _ => am_kI.of (ac_tellHelp (d := 0) (w := ln.1) (g := 1) hYb hYv dis cv hV c0 (Or.inr w) k.2.2.1 k.2.2.2.1 k.2.2.2.2 (Or.inr ⟨rfl, w⟩)) (by omega) ?_, fun z => absurd z (by decide), fun z => absurd z (by decide), fun z => absurd z (by decide)⟩
      rintro x h1 - - ⟨ex, c1, F1⟩
      rw [am_qI_s]
      exact deed x h1 (by omega) ex c1 F1
    · have k := okd (by omega)
      rw [l2]
      refine ⟨fun z => by omega, fun z => absurd z (by decide), fun z => absurd z (by decide), fun _ => am_kI.of (ac_tellThanks (d := 0) hYb hYv dis cv hV c0 hy k.2.2.1 k.2.2.2.1 k.2.2.2.2) (by omega) ?_, fun z => absurd z (by decide)⟩
      rintro x h1 - - ⟨ex, c1, F1⟩
      rw [am_qI_s]
      rw [← w] at ex c1
      exact deed x h1 (by omega) ex c1 F1
    · have k := okd (by omega)
      rw [l2]
      refine ⟨fun z => by omega, fun z => absurd z (by decide), fun z => absurd z (by decide), fun z => absurd z (by decide), fun _ => am_kI.of (ac_tellLeaving (d := 0) hYb hYv dis cv hV c0 hy k.2.2.1 k.2.2.2.1 k.2.2.2.2) (by omega) ?_⟩
      rintro x h1 - - ⟨ex, c1, F1⟩
      rw [am_qI_s]
      rw [← w] at ex c1
      exact deed x h1 (by omega) ex c1 F1
end

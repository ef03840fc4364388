/-! contracts: the class's sentence: what it looks at; the whole of it -/
theorem fkR.but {h h1 : am_H} {b i : Nat} {R : Nat → Int} {J : am_H} (c : fkR h b R J i) (e : ∀ q, b ≤ q → q < b + 9 → h1 q = h q) : fkR h1 b R J i := by
  obtain ⟨c1, c2, c3, c4, c5, c6, c7, c8⟩ := c
  refine ⟨?_, ?_, ?_, c4, c5, c6.but (fun q a b => e q (by omega) (by omega)), c7, c8⟩
  · rw [e b (by omega) (by omega)]; exact c1
  · rw [e (b + 1) (by omega) (by omega)]; exact c2
  · rw [e (b + 2) (by omega) (by omega), e (b + 3) (by omega) (by omega), e (b + 4) (by omega) (by omega)]; exact c3
def lkF (h h1 : am_H) (o : Nat) : Prop := (∀ q, q ≠ o → q ≠ o + 5 → h1 q = h q) ∧ ∀ j, j ≠ 3 → j ≠ 5 → j ≠ 6 → h1 o j = h o j
def lkI (h0 h : am_H) (o : Nat) (P : Int) (F : Nat → Int → Int) (fr : Nat → Prop) (p : Nat) : Prop :=
  lkF h0 h o ∧ h o 3 = am_shl 1 P - 1 ∧ (∀ p' w : Nat, p' < p → w < 5 → h (o + 5) (5 * p' + w) = F p' (w : Int)) ∧
  (by8 (h o 5) ∧ ∀ p' : Nat, p' < 8 → (hb (h o 5) (p' : Int) ↔ p' < p ∧ 0 < F p' 3)) ∧ by8 (h o 6) ∧ ∀ p' : Nat, p' < 8 → (hb (h o 6) (p' : Int) ↔ (p' : Int) < P ∧ fr p')
section
variable {d : Nat} {Y : am_Y} {h : am_H} {o b v : Nat} {R N : Nat → Int} {J : am_H} {i : Nat}
abbrev sFig (R : Nat → Int) (J : am_H) : Nat → Int → Int := fun p w => jFig R J p w
abbrev sFre (J : am_H) : Nat → Prop := fun p => ¬ hb (J 0 3) (p : Int)
theorem ac_S_look (hY : am_at Y o am_L6) (hYv : am_at Y v am_L9) (hYb : am_at Y b am_L2) (hdv : v + 11 ≤ o ∨ o + 6 ≤ v) (hdb : b + 9 ≤ o ∨ o + 6 ≤ b) (cv : vR h v (R 1) R N) (hV : wV R) (c : fkR h b R J i) : am_cV am_SentenceText_look (d + 4) Y [.inr (.inr o), .inr (.inr v), .inr (.inr b)] h (fun h1 => lkF h h1 o ∧ sLk h1 o (R 1) (sFig R J) (sFre J)) := by
  have hz := hV.1.z
  unfold rz at hz
  have cvH {h2 : am_H} (f : lkF h h2 o) : vR h2 v (R 1) R N := cv.but fun q a b => f.1 q (by omega) (by omega)
  have cH {h2 : am_H} (f : lkF h h2 o) : fkR h2 b R J i := c.but fun q a b => f.1 q (by omega) (by omega)
  have eP {h2 : am_H} (f : lkF h h2 o) : h2 v 2 = R 1 := (cvH f).1.2.1
  have outer : ∀ p : Nat, p ≤ (R 1).toNat → ∀ h2 : am_H, lkI h h2 o (R 1) (sFig R J) (sFre J) p → aw_SentenceText_look_37 (d + 4) Y o v b (p : Int) h2 (am_qV (fun h1 => lkF h h1 o ∧ sLk h1 o (R 1) (sFig R J) (sFre J))) := by
    refine am_upN _ _ ?_ ?_
    · intro h2 g
      obtain ⟨g0, g1, g2, g3, g4, g5⟩ := g
      have fin : am_qV (fun h1 => lkF h h1 o ∧ sLk h1 o (R 1) (sFig R J) (sFre J)) none h2 := by
        rw [am_qV_s]
        refine ⟨g0, g1, by omega, fun p w hp hw => g2 p w (by omega) hw, ⟨g3.1, fun p hp => ?_⟩, g4, g5⟩
        rw [g3.2 p hp]
        exact and_congr ⟨fun z => by omega, fun z => by omega⟩ Iff.rfl
      exact ab_SentenceText_look_37 hY hYv hYb ⟨fun _ => fin, fun z => by rw [eP g0] at z; omega⟩
    · intro p hp ih h2 g
      refine ab_SentenceText_look_37 hY hYv hYb ⟨fun z => by rw [eP g.1] at z; omega, fun _ => ⟨fun z => by omega, fun _ => ?_⟩⟩
      have inner : ∀ w : Nat, w ≤ 5 → ∀ h3 : am_H, lkI h h3 o (R 1) (sFig R J) (sFre J) p → (∀ w' : Nat, w' < w → h3 (o + 5) (5 * p + w') = jFig R J p (w' : Int)) → aw_SentenceText_look_54 (d + 4) Y o v b (p : Int) (w : Int) h3 (am_qV (fun h1 => lkF h h1 o ∧ sLk h1 o (R 1) (sFig R J) (sFre J))) := by
        refine am_upN _ _ ?_ ?_
        · intro h3 g gw
          obtain ⟨g0, g1, g2, g3, g4, g5⟩ := g
          have f3 : h3 (o + 5) (5 * p + 3) = jFig R J p 3 := gw 3 (by omega)
          have en : ((p : Int) * 5 + 3).toNat = 5 * p + 3 := by omega
          -- with the one bit more, or not
          have go : ∀ x : Int, by8 x → (∀ p' : Nat, p' < 8 → (hb x (p' : Int) ↔ p' < p + 1 ∧ 0 < jFig R J p' 3)) → ∀ h4 : am_H, h4 = am_u h3 o 5 x → aw_SentenceText_look_37 (d + 4) Y o v b ((p : Int) + 1) h4 (am_qV (fun h1 => lkF h h1 o ∧ sLk h1 o (R 1) (sFig R J) (sFre J))) := by
            intro x x8 hx h4 e4
            have s4 : ∀ q, q ≠ o → h4 q = h3 q := fun q hq => by rw [e4, am_u_n _ _ _ _ q hq]
            have u4 : ∀ j, j ≠ 5 → h4 o j = h3 o j := fun j hj => by rw [e4, am_u_j hj]
            refine ih h4 ⟨⟨fun q a b => by rw [s4 q a, g0.1 q a b], fun j a b c => by rw [u4 j b, g0.2 j a b c]⟩, by rw [u4 3 (by omega)]; exact g1, ?_, ?_, ?_⟩
            · intro p' w hp' hw
              rw [s4 _ (by omega)]
              by_cases e : p' = p
              · subst e; exact gw w hw
              · exact g2 p' w (by omega) hw
            · rw [e4, am_u_s]
              exact ⟨x8, hx⟩
            · rw [u4 6 (by omega)]
              exact ⟨g4, g5⟩
          refine ab_SentenceText_look_54 hY hYv hYb ⟨fun _ => ⟨⟨by omega, by omega⟩, ⟨by omega, by omega⟩, ⟨by omega, by omega⟩, fun z h4 e4 => ⟨⟨by omega, by omega⟩, ?_⟩, fun z h4 e4 => ⟨⟨by omega, by omega⟩, ?_⟩⟩, fun z => by omega⟩
          · rw [en, f3] at z
            refine go _ (hb_or8 (k := 0) g3.1 by8_0 (by omega)).1 (fun p' hp' => ?_) h4 e4
            rw [(hb_or8 (k := p') g3.1 by8_0 (by omega)).2, g3.2 p' hp']
            have z0 : ¬ hb 0 (p' : Int) := sh_0 (by omega)
            constructor
            · rintro (q | q)
              · exact ⟨by omega, q.2⟩
              · exact absurd q z0
            · rintro ⟨q1, q2⟩
              by_cases e : p' = p
              · subst e; omega
              · exact Or.inl ⟨by omega, q2⟩
          · rw [en, f3] at z
            have sb := shl_b (p := p) (by omega)
            refine go _ (hb_or8 (k := 0) g3.1 sb.1 (by omega)).1 (fun p' hp' => ?_) h4 e4
            rw [(hb_or8 (k := p') g3.1 sb.1 (by omega)).2, g3.2 p' hp', sb.2 p' hp']
            constructor
            · rintro (q | q)
              · exact ⟨by omega, q.2⟩
              · subst q; exact ⟨by omega, z⟩
            · rintro ⟨q1, q2⟩
              by_cases e : p' = p
              · exact Or.inr e
              · exact Or.inl ⟨by omega, q2⟩
        · intro w hw ih2 h3 g gw
          refine ab_SentenceText_look_54 hY hYv hYb ⟨fun z => by omega, fun _ => ⟨⟨by omega, by omega⟩, ⟨by omega, by omega⟩, ?_⟩⟩
          refine am_kI.of (ac_Book_figure (d := 0) hYb hYv (cvH g.1) hV (cH g.1) (by omega)) (by omega) ?_
          rintro x h4 - - ⟨rfl, rfl⟩
          refine ⟨⟨by omega, by omega⟩, fun h6 e6 => ⟨⟨by omega, by omega⟩, ?_⟩⟩
          rw [show ((p : Int) * 5 + (w : Int)).toNat = 5 * p + w by omega] at e6
          obtain ⟨g0, g1, g2, g3, g4, g5⟩ := g
          have s6 : ∀ q, q ≠ o + 5 → h6 q = h4 q := fun q hq => by rw [e6, am_u_n _ _ _ _ q hq]
          refine ih2 h6 ⟨⟨fun q a b => by rw [s6 q b, g0.1 q a b], fun j a b c => by rw [s6 o (by omega), g0.2 j a b c]⟩, by rw [s6 o (by omega)]; exact g1, ?_, ?_, ?_⟩ ?_
          · intro p' w' hp' hw'
            rw [e6, am_u_j (by omega)]
            exact g2 p' w' hp' hw'
          · rw [s6 o (by omega)]; exact g3
          · rw [s6 o (by omega)]; exact ⟨g4, g5⟩
          · intro w' hw'
            by_cases e : w' = w
            · subst e; rw [e6, am_u_s]
            · rw [e6, am_u_j (by omega)]; exact gw w' (by omega)
      exact inner 0 (by omega) h2 g fun w' hw' => by omega
  have al := all_b (P := R 1) (by omega)
  have r31 : am_ri (am_shl 1 (R 1) - 1) := by
    have := al.1
    unfold by8 at this
    exact ⟨by omega, by omega⟩
  refine am_Met.of (by decide) rfl (Nat.le_of_ble_eq_true rfl) (ab_SentenceText_look_0 hY hYv hYb ?_)
  have e2 : h v 2 = R 1 := cv.1.2.1
  rw [e2]
  refine ⟨r31, fun h1 e1 h2 e2 h3 e3 => ?_⟩
  have ev : h2 (b + 5) 2 = J 0 3 := by
    rw [e2, am_u_n _ _ _ _ _ (by omega), e1, am_u_n _ _ _ _ _ (by omega)]
    exact c.2.2.2.2.2.1.2.2.2.1
  have ev8 : by8 (J 0 3) := by
    have := c.2.2.2.2.2.1.2.2.2
    rw [this.1] at this
    exact ⟨this.2.1, this.2.2.1⟩
  have e23 : h2 o 3 = am_shl 1 (R 1) - 1 := by rw [e2, am_u_j (by omega), e1, am_u_s]
  rw [ev, e23] at e3
  refine outer 0 (by omega) h3 ⟨⟨fun q a b => by rw [e3, am_u_n _ _ _ _ q a, e2, am_u_n _ _ _ _ q a, e1, am_u_n _ _ _ _ q a], fun j a b c => by rw [e3, am_u_j c, e2, am_u_j b, e1, am_u_j a]⟩, ?_, fun p' w' z => by omega, ?_, ?_⟩
  · rw [e3, am_u_j (by omega)]; exact e23
  · rw [e3, am_u_j (by omega), e2, am_u_s]
    exact ⟨by8_0, fun p' hp' => ⟨fun z => absurd z (sh_0 (by omega)), fun z => by omega⟩⟩
  · rw [e3, am_u_s]
    refine ⟨(hb_not (k := 0) al.1 ev8 (by omega)).1, fun p' hp' => ?_⟩
    rw [(hb_not (k := p') al.1 ev8 (by omega)).2, al.2 p' hp']
/-- the whole of it -/
def sAll (h : am_H) (o : Nat) (P : Int) (F : Nat → Int → Int) (fr : Nat → Prop) (e : PE (SS × Int)) (x : Int) (h1 : am_H) : Prop := (∀ q, (q < o ∨ o + 6 ≤ q) → h1 q = h q) ∧ tro h1 (o + 1) x e (fun T => h1 (o + 1) 4 = 0 ∧ h1 o 1 = T.1.2.1 ∧ sBits (h1 o 2) P F fr T.1.1 T.2)
theorem ac_S_readAll {q1 n1 n : Nat} (hY : am_at Y o am_L6) (hq : Y[q1]? = some (13, n1)) (hYv : am_at Y v am_L9) (hYb : am_at Y b am_L2) (hqo : q1 < o ∨ o + 6 ≤ q1) (hdv : v + 11 ≤ o ∨ o + 6 ≤ v) (hdb : b + 9 ≤ o ∨ o + 6 ≤ b) (cv : vR h v (R 1) R N) (hV : wV R) (c : fkR h b R J i) (hn : n ≤ n1) (hn1 : n1 ≤ 940) : am_cI am_SentenceText_readAll (d + 41) Y [.inr (.inr o), .inr (.inr q1), .inl (n : Int), .inr (.inr v), .inr (.inr b)] h (sAll h o (R 1) (sFig R J) (sFre J) (pSen (lxs (h q1) n 200 0))) := by
  have hYT : am_at Y (o + 1) am_L8 := hY.sub 1 rfl
  refine am_Met.of (by decide) rfl (Nat.le_of_ble_eq_true rfl) (ab_SentenceText_readAll_0 hY hq hYv hYb ?_)
  refine am_kV.of (ac_open (d := 0) (lim := 200) hYT hq (by omega) hn hn1) (by omega) (fun h1 _ p1 => ?_)
  obtain ⟨t1, g4, g5, f1⟩ := p1
  intro h2 e2
  have s2 : ∀ q, q ≠ o → h2 q = h1 q := fun q hq => by rw [e2, am_u_n _ _ _ _ q hq]
  refine am_kV.of (ac_S_look (d := 0) hY hYv hYb hdv hdb (cv.but fun q a b => by rw [s2 q (by omega), f1 q (by omega)]) hV (c.but fun q a b => by rw [s2 q (by omega), f1 q (by omega)])) (by omega) (fun h3 _ p3 => ?_)
  obtain ⟨f3, lk⟩ := p3
  have len : (lxs (h q1) n 200 0).length ≤ 1000 := by
    have := lxS_len (h q1) n 200 (min n 200 - 0) 0
    unfold lxs
    omega
  have s3 : ∀ q, o + 1 ≤ q → q < o + 5 → h3 q = h1 q := fun q a b => by rw [f3.1 q (by omega) (by omega), s2 q (by omega)]
  have p3 : sPre h3 o (R 1) (sFig R J) (sFre J) ([], 0, lxs (h q1) n 200 0) := by
    refine ⟨t1.of4 fun q a b => s3 q (by omega) (by omega), by rw [s3 _ (by omega) (by omega)]; exact g4, ?_, lk, tE_lxS _ _ _ _ _, fun i n e => ?_, by show (0 : Int) ≤ 0; omega, by show (0 : Int) ≤ 20; omega⟩
    · rw [f3.2 1 (by omega) (by omega) (by omega), e2, am_u_s]
    · simp at e
  have rd := (sR (P := R 1) (F := sFig R J) (fr := sFre J) hY 6009).2.2.2.1 0 ([], 0, lxs (h q1) n 200 0) h3 40 (by omega) (by show 6 * (lxs (h q1) n 200 0).length + 3 ≤ 6009; omega) p3 (by omega)
  refine am_kI.of rd (by omega) ?_
  intro x h4 _ _ c4 h6 e6
  have s6 : ∀ q, q ≠ o → h6 q = h4 q := fun q hq => by rw [e6, am_u_n _ _ _ _ q hq]
  have F6 : ∀ q, (q < o ∨ o + 6 ≤ q) → h6 q = h q := fun q hq => by rw [s6 q (by omega), c4.1.1 q (by omega) (by omega), f3.1 q (by omega) (by omega), s2 q (by omega), f1 q (by omega)]
  unfold pSen
  have c0 : ((0 : Nat) : Int) = 0 := rfl
  rw [c0] at c4
  cases e : sP 6009 3 0 0 ([], 0, lxs (h q1) n 200 0) with
  | inl q =>
    rw [e] at c4
    rw [pbd_l rfl]
    have ne : ¬ h6 (o + 1) 4 = 0 := by rw [s6 _ (by omega), c4.2.1]; exact c4.2.2.2
    refine ⟨fun _ => ⟨fun _ => ?_, fun z => absurd z ne⟩, fun z => absurd z ne⟩
    rw [am_qI_s]
    exact ⟨F6, rfl, by rw [s6 _ (by omega)]; exact c4.2.1, by rw [s6 _ (by omega)]; exact c4.2.2.1⟩
  | inr T =>
    rw [e] at c4
    rw [pbd_r rfl]
    obtain ⟨-, t4, k4, n4, b4⟩ := c4
    have ye : h6 (o + 1) 4 = 0 := by rw [s6 _ (by omega)]; exact k4
    have t6 : TR h6 (o + 1) T.1.2.2 := t4.of4 fun q a b => s6 q (by omega)
    refine ⟨fun z => absurd ye z, fun _ => ⟨fun z => ⟨fun z => absurd ye z, fun _ => ?_⟩, fun z => failK (k := 1) hYT t6 ye (by omega) (by split <;> rfl) ?_⟩⟩
    · rw [am_qI_s, if_pos (by rw [← t6.hd.1]; exact z)]
      refine ⟨F6, rfl, ye, ?_, ?_⟩
      · rw [e6, am_u_j (by omega)]; exact n4
      · rw [e6, am_u_s]; exact b4
    · intro h9 f9 e4 e5 _
      rw [if_neg (by rw [← t6.hd.1]; exact z)]
      have ne : ¬ h9 (o + 1) 4 = 0 := by rw [e4]; exact pq_ne (by omega)
      refine ⟨fun _ => ?_, fun z => absurd z ne⟩
      rw [am_qI_s]
      exact ⟨fun q hq => by rw [f9 q (by omega), F6 q hq], rfl, e4, e5⟩
end

/-! contracts: the class reads all lines of a village -/
def fl (h : am_H) (o : Nat) (g : Int) : Prop := h o 2 = (if hb g 4 then 1 else 0) ∧ h o 3 = (if hb g 5 then 1 else 0) ∧ h o 4 = (if hb g 6 then 1 else 0) ∧ 0 ≤ g ∧ g < 128
theorem fl_t : ∀ g : Fin 128, ∀ w : Fin 3, 0 ≤ am_or (g.val : Int) (am_shl 1 ((w.val : Int) + 4)) ∧ am_or (g.val : Int) (am_shl 1 ((w.val : Int) + 4)) < 128 ∧ ∀ j : Fin 3, (hb (am_or (g.val : Int) (am_shl 1 ((w.val : Int) + 4))) ((j.val : Int) + 4) ↔ (j = w ∨ hb (g.val : Int) ((j.val : Int) + 4))) := by decide +kernel
theorem fl.up {h h1 : am_H} {o : Nat} {g : Int} (c : fl h o g) {w : Nat} (hw : w < 3) (e : h1 o = up (h o) (w + 2) 1) : fl h1 o (am_or g (am_shl 1 ((w : Int) + 4))) := by
  obtain ⟨c2, c3, c4, g0, g1⟩ := c
  have t := fl_t ⟨g.toNat, by omega⟩ ⟨w, hw⟩
  simp only [show ((g.toNat : Nat) : Int) = g by omega] at t
  obtain ⟨t0, t1, t2⟩ := t
  have b : ∀ j : Nat, j < 3 → h o (j + 2) = (if hb g ((j : Int) + 4) then 1 else 0) → h1 o (j + 2) = (if hb (am_or g (am_shl 1 ((w : Int) + 4))) ((j : Int) + 4) then 1 else 0) := by
    intro j hj hh
    have t3 := t2 ⟨j, hj⟩
    simp only [Fin.mk.injEq] at t3
    rw [e]
    by_cases z : j = w
    · subst z
      rw [up_s, if_pos (t3.mpr (Or.inl rfl))]
    · rw [up_n (by omega), hh]
      by_cases z2 : hb g ((j : Int) + 4)
      · rw [if_pos z2, if_pos (t3.mpr (Or.inr z2))]
      · rw [if_neg z2, if_neg (fun y => (t3.mp y).elim z z2)]
  exact ⟨b 0 (by omega) c2, b 1 (by omega) c3, b 2 (by omega) c4, t0, t1⟩
theorem fl.same {h h1 : am_H} {o : Nat} {g : Int} (c : fl h o g) (e : h1 o = h o) : fl h1 o g := by
  unfold fl
  rw [e]
  exact c
/-- a line of the class, ahead of its semicolon -/
def qW (g : Int) (e : PE VS) : PE (Int × VS) := pbd e fun A => .inr (g, A)
def qLine (g : Int) (S : VS) : PE (Int × VS) := if (hd S.2.2).1 = 0 then qW g (pHelp S) else if (hd S.2.2).1 = 1 then qW g (pbd (pPerson S) pSm) else if (hd S.2.2).1 = 4 then qW g (pTie S 95) else if (hd S.2.2).1 = 5 then qW g (pTie S 160) else if (hd S.2.2).1 = 6 then qW (am_or g (am_shl 1 4)) (pOnce g S 4) else if (hd S.2.2).1 = 7 then qW (am_or g (am_shl 1 5)) (pOnce g S 5) else if (hd S.2.2).1 = 8 then qW (am_or g (am_shl 1 6)) (pOnce g S 6) else pb S.2.2 1
def qSem (B : Int × VS) : PE (Int × VS) := if (hd B.2.2.2).1 = 26 then .inr (B.1, B.2.1, B.2.2.1, nx B.2.2.2) else pb B.2.2.2 1
theorem qW_sem (g : Int) (e : PE VS) : pbd (qW g e) qSem = pTail g e := by
  cases e with
  | inl q => rfl
  | inr A =>
    show qSem (g, A) = pbd (pSem A) _
    unfold qSem pSem
    simp only
    split <;> rfl
theorem qW_sm (g : Int) (e : PE VS) : pbd (qW g (pbd e pSm)) qSem = pTail g e := by
  rw [qW_sem]
  cases e with
  | inl q => rfl
  | inr A =>
    show pbd (pSm A) _ = pbd (pSem A) _
    unfold pSm pSem
    by_cases c : (hd A.2.2).1 = 26
    · rw [if_pos c, if_pos c]
      show pbd (pSem A) _ = _
      unfold pSem
      rw [if_pos c]
    · rw [if_neg c, if_neg c]
      rfl
theorem qLine_sem (g : Int) (S : VS) : pbd (qLine g S) qSem = pLine g S := by
  unfold qLine pLine pWord
  by_cases c0 : (hd S.2.2).1 = 0
  · rw [if_pos c0, if_pos c0, if_pos rfl, qW_sem]
  rw [if_neg c0, if_neg c0]
  by_cases c1 : (hd S.2.2).1 = 1
  · rw [if_pos c1, if_pos c1, if_neg (by decide), if_pos rfl, qW_sm]
  rw [if_neg c1, if_neg c1]
  by_cases c4 : (hd S.2.2).1 = 4
  · rw [if_pos c4, if_pos (by omega), c4, if_neg (by decide), if_neg (by decide), if_pos (by decide), qW_sem]
  rw [if_neg c4]
  by_cases c5 : (hd S.2.2).1 = 5
  · rw [if_pos c5, if_pos (by omega), c5, if_neg (by decide), if_neg (by decide), if_neg (by decide), if_pos (by decide), qW_sem]
  rw [if_neg c5]
  by_cases c6 : (hd S.2.2).1 = 6
  · rw [if_pos c6, if_pos (by omega), c6, if_neg (by decide), if_neg (by decide), if_neg (by decide), if_neg (by decide), qW_sem]
    rfl
  rw [if_neg c6]
  by_cases c7 : (hd S.2.2).1 = 7
  · rw [if_pos c7, if_pos (by omega), c7, if_neg (by decide), if_neg (by decide), if_neg (by decide), if_neg (by decide), qW_sem]
    rfl
  rw [if_neg c7]
  by_cases c8 : (hd S.2.2).1 = 8
  · rw [if_pos c8, if_pos (by omega), c8, if_neg (by decide), if_neg (by decide), if_neg (by decide), if_neg (by decide), qW_sem]
    rfl
  rw [if_neg c8, if_neg (by omega)]
  rfl
section
variable {d : Nat} {Y : am_Y} {h : am_H} {o : Nat} {S : VS} {g : Int}
def cQ (h : am_H) (o : Nat) (e : PE (Int × VS)) (x : Int) (h1 : am_H) : Prop := cF h h1 o ∧ tro h1 (o + 1) x e (fun B => cS h1 o (B.2.1 1) B.2 ∧ fl h1 o B.1)
theorem tro.x {α : Type} {h1 : am_H} {T : Nat} {x : Int} {e : PE α} {P : α → Prop} (t : tro h1 T x e P) : x = 0 ∨ x = 1 := by
  cases e with
  | inl q => exact Or.inl t.1
  | inr a => exact Or.inr t.1
theorem cQ.of {h1 : am_H} {e : PE VS} {x g' : Int} (hg : fl h o g') (F : cF h h1 o) (G : h1 o = h o) (t : tro h1 (o + 1) x e (fun S1 => cS h1 o (S1.1 1) S1)) : cQ h o (qW g' e) x h1 := by
  refine ⟨F, ?_⟩
  cases e with
  | inl q => exact t
  | inr A => exact ⟨t.1, t.2, hg.same G⟩
theorem cQ.once {h1 : am_H} {e : PE VS} {x : Int} {w : Nat} (hg : fl h o g) (hw : w < 3) (F : cF h h1 o) (t : tro h1 (o + 1) x e (fun S1 => cS h1 o (S1.1 1) S1 ∧ h1 o = up (h o) (w + 2) 1)) : cQ h o (qW (am_or g (am_shl 1 ((w : Int) + 4))) e) x h1 := by
  refine ⟨F, ?_⟩
  cases e with
  | inl q => exact t
  | inr A => exact ⟨t.1, t.2.1, hg.up hw t.2.2⟩
theorem ac_V_readLine (hY : am_at Y o am_L10) (hS : cS h o (S.1 1) S) (hV : wV S.1) (hg : fl h o g) (hl : S.2.2.length ≤ 1000) : am_cI am_VillageText_readLine (d + 7) Y [.inr (.inr o)] h (cQ h o (qLine g S)) := by
  have hYT : am_at Y (o + 1) am_L8 := hY.sub 1 rfl
  have hS' := hS
  obtain ⟨ht, h4, hv, te⟩ := hS'
  have bad : ∀ h2, h2 = h → ((hd S.2.2).1 < 0 ∨ 8 < (hd S.2.2).1) ∨ (hd S.2.2).1 = 2 ∨ (hd S.2.2).1 = 3 → am_kI am_Tokens_fail (d + 7) Y [.inr (.inr (o + 1)), .inl 1] h2 (fun v2 h1 => (v2 = 0 ∨ v2 = 1) ∧ am_qI (cQ h o (qLine g S)) (some (.inl v2)) h1) := by
    rintro h2 rfl c
    refine failK (k := 1) hYT ht h4 (by omega) (by split <;> rfl) ?_
    intro h1 f1 e4 e5 _
    rw [am_qI_s]
    refine ⟨Or.inl rfl, f1.c, ?_⟩
    have : qLine g S = pb S.2.2 1 := by
      unfold qLine
      rw [if_neg (by omega), if_neg (by omega), if_neg (by omega), if_neg (by omega), if_neg (by omega), if_neg (by omega), if_neg (by omega)]
    rw [this]
    exact ⟨rfl, e4, e5⟩
  refine am_Met.of (by decide) rfl (Nat.le_of_ble_eq_true rfl) (ab_VillageText_readLine_0 hY ?_)
  rw [ht.hd.1]
  refine ⟨fun c => bad h rfl (Or.inl c), fun c => ?_, fun c => ?_, fun c => bad h rfl (Or.inr (Or.inl c)), fun c => bad h rfl (Or.inr (Or.inr c)), fun c => ?_, fun c => ?_, fun c => ?_, fun c => ?_, fun c => ?_⟩
  · refine am_kI.of (ac_readHelp (d := d) hY hS hV.1 (by omega)) (by omega) ?_
    rintro x h1 - - ⟨F, G, t⟩
    rw [am_qI_s]
    refine ⟨t.x, ?_⟩
    have : qLine g S = qW g (pHelp S) := by
      unfold qLine
      rw [if_pos c]
    rw [this]
    exact cQ.of hg F G t
  · refine am_kI.of (ac_readPerson (d := d) hY hS hV (by omega) hl) (by omega) ?_
    rintro x h1 - - ⟨F, G, t⟩
    rw [am_qI_s]
    refine ⟨t.x, ?_⟩
    have : qLine g S = qW g (pbd (pPerson S) pSm) := by
      unfold qLine
      rw [if_neg (by omega), if_pos c]
    rw [this]
    exact cQ.of hg F G t
  · refine am_kI.of (ac_readTie (d := d) (base := 95) hY hS hV (Or.inl ⟨rfl, rfl⟩)) (by omega) ?_
    rintro x h1 - - ⟨F, G, t⟩
    rw [am_qI_s]
    refine ⟨t.x, ?_⟩
    have : qLine g S = qW g (pTie S 95) := by
      unfold qLine
      rw [if_neg (by omega), if_neg (by omega), if_pos c]
    rw [this]
    exact cQ.of hg F G t
  · refine am_kI.of (ac_readTie (d := d) (base := 160) hY hS hV (Or.inr ⟨rfl, rfl⟩)) (by omega) ?_
    rintro x h1 - - ⟨F, G, t⟩
    rw [am_qI_s]
    refine ⟨t.x, ?_⟩
    have : qLine g S = qW g (pTie S 160) := by
      unfold qLine
      rw [if_neg (by omega), if_neg (by omega), if_neg (by omega), if_pos c]
    rw [this]
    exact cQ.of hg F G t
  · refine am_kI.of (ac_readBinds (d := d) (g := g) hY hS (by omega) hg.1) (by omega) ?_
    rintro x h1 - - ⟨F, t⟩
    rw [am_qI_s]
    refine ⟨t.x, ?_⟩
    have : qLine g S = qW (am_or g (am_shl 1 4)) (pOnce g S 4) := by
      unfold qLine
      rw [if_neg (by omega), if_neg (by omega), if_neg (by omega), if_neg (by omega), if_pos c]
    rw [this]
    exact cQ.once (w := 0) hg (by omega) F t
  · refine am_kI.of (ac_readOut (d := d) (g := g) hY hS (by omega) hg.2.1) (by omega) ?_
    rintro x h1 - - ⟨F, t⟩
    rw [am_qI_s]
    refine ⟨t.x, ?_⟩
    have : qLine g S = qW (am_or g (am_shl 1 5)) (pOnce g S 5) := by
      unfold qLine
      rw [if_neg (by omega), if_neg (by omega), if_neg (by omega), if_neg (by omega), if_neg (by omega), if_pos c]
    rw [this]
    exact cQ.once (w := 1) hg (by omega) F t
  · refine am_kI.of (ac_readGift (d := d) (g := g) hY hS (by omega) hg.2.2.1) (by omega) ?_
    rintro x h1 - - ⟨F, t⟩
    rw [am_qI_s]
    refine ⟨t.x, ?_⟩
    have : qLine g S = qW (am_or g (am_shl 1 6)) (pOnce g S 6) := by
      unfold qLine
      rw [if_neg (by omega), if_neg (by omega), if_neg (by omega), if_neg (by omega), if_neg (by omega), if_neg (by omega), if_pos c]
    rw [this]
    exact cQ.once (w := 2) hg (by omega) F t
/-- all lines -/
def vAll (h : am_H) (o : Nat) (e : PE (Int × VS)) (x : Int) (h1 : am_H) : Prop := (∀ q, (q < o ∨ o + 16 ≤ q) → h1 q = h q) ∧ tro h1 (o + 1) x e (fun B => h1 (o + 1) 4 = 0 ∧ h1 (o + 5) 0 = B.1 ∧ vR h1 (o + 5) (B.2.1 1) B.2.1 B.2.2.1 ∧ wV B.2.1)
theorem loopV36 {q1 n1 : Nat} {h0 : am_H} (hY : am_at Y o am_L10) (hq : Y[q1]? = some (13, n1)) : ∀ (f : Nat) (h : am_H) (g c i : Int) (S : VS), S.2.2.length ≤ f → 0 ≤ i → i + f ≤ 1000 → 0 ≤ c → c + f ≤ 100000 → cS h o (S.1 1) S → fl h o g → wV S.1 → (∀ q, (q < o ∨ o + 16 ≤ q) → h q = h0 q) → h (o + 5) 0 = c → aw_VillageText_readAll_36 (d + 8) Y o q1 n1 i h (am_qI (vAll h0 o (pLines f g c S)))
  | 0, h, g, c, i, S, hl, _, _, _, _, hS, _, _, _, _ => by
    have := hS.1.ne
    omega
  | f + 1, h, g, c, i, S, hl, i0, hi, c0, c1, hS, hg, hV, F, C => by
    have hYT : am_at Y (o + 1) am_L8 := hY.sub 1 rfl
    have hS' := hS
    obtain ⟨ht, h4, hv, te⟩ := hS'
    refine ab_VillageText_readAll_36 hY hq ?_
    rw [ht.hd.1]
    refine ⟨fun z => by omega, fun _ => ⟨fun c32 => ?_, fun c32 => ?_⟩⟩
    · rw [am_qI_s]
      have e : pLines (f + 1) g c S = .inr (c, S) := if_pos c32
      rw [e]
      exact ⟨F, rfl, h4, C, hv, hV⟩
    · have e : pLines (f + 1) g c S = pbd (pLine g S) fun B => pLines f B.1 (c + 1) B.2 := if_neg c32
      rw [e]
      refine am_kI.of (ac_V_readLine (d := d) hY hS hV hg (by omega)) (by omega) ?_
      rintro x h1 - - ⟨f1, o1⟩
      have F1 : ∀ q, (q < o ∨ o + 16 ≤ q) → h1 q = h0 q := fun q hq => (f1.1 q hq).trans (F q hq)
      have eq := qLine_sem g S
      cases hQ : qLine g S with
      | inl q =>
        rw [hQ] at o1 eq
        obtain ⟨rfl, e4, e5⟩ := o1
        refine ⟨fun _ => ?_, fun z => absurd rfl z⟩
        rw [am_qI_s, ← eq]
        exact ⟨F1, rfl, e4, e5⟩
      | inr B =>
        rw [hQ] at o1 eq
        obtain ⟨rfl, b1, b2⟩ := o1
        have eq' : qSem B = pLine g S := eq
        obtain ⟨bt, b4, bv, be⟩ := b1
        refine ⟨fun z => absurd z (by decide), fun _ => ?_⟩
        obtain ⟨a, l, er, q0, q1', q2⟩ := bt.head
        have ea : hd B.2.2.2 = a := by rw [er]; rfl
        refine am_kI.of (ac_take (d := 0) hYT bt er b4) (by omega) ?_
        rintro y h2 - - o2
        rcases o2 with ⟨a1, rfl, g2⟩ | ⟨a1, rfl, g2⟩
        · have e26 : pLine g S = .inr (B.1, B.2.1, B.2.2.1, nx B.2.2.2) := by
            rw [← eq']
            unfold qSem
            rw [if_pos (by rw [ea]; exact a1)]
          have inv := pLine_i (g' := B.1) (B := (B.2.1, B.2.2.1, nx B.2.2.2)) hV e26
          have lt := pLine_lt e26
          have len := te.len (by omega)
          have f2 : cF h1 h2 o := fr4.c g2.2.1
          have c2 : h2 (o + 5) 0 = c := by rw [f2.2, f1.2, C]
          refine ⟨fun _ => ⟨by rw [c2]; exact ⟨by omega, by omega⟩, fun h3 e3 => ⟨⟨by omega, by omega⟩, ?_⟩⟩, fun z => absurd z (by decide)⟩
          rw [c2] at e3
          have s3 : ∀ q, q ≠ o + 5 → h3 q = h2 q := fun q a => by rw [e3, am_u_n _ _ _ _ q a]
          rw [e26]
          have l2 := inv.2
          simp only at l2
          refine loopV36 hY hq f h3 B.1 (c + 1) (i + 1) (B.2.1, B.2.2.1, nx B.2.2.2) (by simp only; omega) (by omega) (by omega) (by omega) (by omega) ⟨g2.1.of4 fun q a b => s3 q (by omega), by rw [s3 _ (by omega), g2.2.2.1]; exact b4, ?_, be.n1⟩ (b2.same (by rw [s3 o (by omega), g2.2.1 o (by omega)])) inv.1 (fun q hq => by rw [s3 q (by omega), f2.1 q hq, F1 q hq]) (by rw [e3, am_u_s])
          have v2 := bv.but (fr4.v g2.2.1)
          -- only the count of lines is another one
          obtain ⟨⟨d1, d2, d3, d4, d5, d6⟩, dr⟩ := v2
          have ev : ∀ j, j ≠ 0 → h3 (o + 5) j = h2 (o + 5) j := fun j hj => by rw [e3, am_u_j hj]
          refine ⟨by rw [ev 1 (by omega), ev 2 (by omega), ev 3 (by omega), ev 4 (by omega), ev 5 (by omega), ev 6 (by omega)]; exact ⟨d1, d2, d3, d4, d5, d6⟩, ?_⟩
          rw [s3 (o + 5 + 1) (by omega), s3 (o + 5 + 2) (by omega), s3 (o + 5 + 3) (by omega), s3 (o + 5 + 4) (by omega), s3 (o + 5 + 5) (by omega), s3 (o + 5 + 6) (by omega), s3 (o + 5 + 7) (by omega), s3 (o + 5 + 8) (by omega), s3 (o + 5 + 9) (by omega), s3 (o + 5 + 10) (by omega)]
          exact dr
        · have e26 : pLine g S = pb B.2.2.2 1 := by
            rw [← eq']
            unfold qSem
            rw [if_neg (by rw [ea]; exact a1)]
          refine ⟨fun z => absurd rfl z, fun _ => ?_⟩
          rw [am_qI_s, e26]
          refine ⟨fun q hq => by rw [g2.2.2 q (by omega), F1 q hq], rfl, ?_, ?_⟩
          · rw [g2.1]
            unfold pq
            simp only
            split <;> rfl
          · rw [g2.2.1, q1', ea.symm]
            rfl
theorem ac_Village_begin {v : Nat} (hY : am_at Y v am_L9) : am_cV am_Village_begin (d + 1) Y [.inr (.inr v)] h (fun h1 => (∀ j, j < 7 → h1 v j = if j = 4 then 3 else if j = 5 then 50 else if j = 6 then 10 else 0) ∧ (∀ j, j < 48 → h1 (v + 6) j = 0) ∧ (∀ j, j < 64 → h1 (v + 7) j = 0 ∧ h1 (v + 8) j = 0) ∧ ∀ q, q ≠ v → q ≠ v + 6 → q ≠ v + 7 → q ≠ v + 8 → h1 q = h q) := by
  refine am_Met.of (by decide) rfl (Nat.le_of_ble_eq_true rfl) (ab_Village_begin_0 hY ?_)
  intro h1 e1 h2 e2 h3 e3 h4 e4 h5 e5 h6 e6 h7 e7
  refine am_kV.of (ac_fillI (d := 0) (hY 6 _ rfl) (by omega)) (by omega) (fun k1 _ p1 => ?_)
  refine am_kV.of (ac_fillI (d := 0) (hY 7 _ rfl) (by omega)) (by omega) (fun k2 _ p2 => ?_)
  refine am_kV.of (ac_fillI (d := 0) (hY 8 _ rfl) (by omega)) (by omega) (fun k3 _ p3 => ?_)
  rw [am_qV_s]
  have s : ∀ q, q ≠ v → h7 q = h q := fun q a => by rw [e7, am_u_n _ _ _ _ q a, e6, am_u_n _ _ _ _ q a, e5, am_u_n _ _ _ _ q a, e4, am_u_n _ _ _ _ q a, e3, am_u_n _ _ _ _ q a, e2, am_u_n _ _ _ _ q a, e1, am_u_n _ _ _ _ q a]
  refine ⟨fun j hj => ?_, fun j hj => ?_, fun j hj => ⟨?_, p3.2 j hj⟩, fun q q0 q6 q7 q8 => by rw [p3.1 q q8, p2.1 q q7, p1.1 q q6, s q q0]⟩
  · rw [p3.1 v (by omega), p2.1 v (by omega), p1.1 v (by omega), e7, am_u_up, e6, am_u_up, e5, am_u_up, e4, am_u_up, e3, am_u_up, e2, am_u_up, e1, am_u_up]
    unfold up
    have : j = 0 ∨ j = 1 ∨ j = 2 ∨ j = 3 ∨ j = 4 ∨ j = 5 ∨ j = 6 := by omega
    rcases this with rfl | rfl | rfl | rfl | rfl | rfl | rfl <;> rfl
  · rw [p3.1 _ (by omega), p2.1 _ (by omega)]
    exact p1.2 j hj
  · rw [p3.1 _ (by omega)]
    exact p2.2 j hj
theorem pInit_c {R : Nat → Int} {i : Nat} (hi : i < 325) : pInit R i = if i = 3 then 3 else if i = 4 then 50 else if i = 5 then 10 else 0 := by
  unfold pInit up zer
  by_cases h5 : i = 5
  · subst h5; rfl
  · by_cases h4 : i = 4
    · subst h4; rfl
    · by_cases h3 : i = 3
      · subst h3; rfl
      · rw [if_neg h5, if_neg h4, if_neg h3, if_neg h3, if_neg h4, if_neg h5, if_pos (by omega)]
theorem ac_V_readAll {q1 n1 n : Nat} (RR NN : Nat → Int) (hY : am_at Y o am_L10) (hq : Y[q1]? = some (13, n1)) (hqo : q1 < o ∨ o + 16 ≤ q1) (hn : n ≤ n1) (hn1 : n1 ≤ 940) : am_cI am_VillageText_readAll (d + 12) Y [.inr (.inr o), .inr (.inr q1), .inl (n : Int)] h (vAll h o (pLines 1000 0 0 (pInit RR, NN, lxs (h q1) n 900 0))) := by
  have hYT : am_at Y (o + 1) am_L8 := hY.sub 1 rfl
  have hYv : am_at Y (o + 5) am_L9 := hY.sub 5 rfl
  refine am_Met.of (by decide) rfl (Nat.le_of_ble_eq_true rfl) (ab_VillageText_readAll_0 hY hq ?_)
  refine am_kV.of (ac_open (d := 0) (lim := 900) hYT hq (by omega) hn hn1) (by omega) (fun h1 _ p1 => ?_)
  obtain ⟨t1, g4, g5, f1⟩ := p1
  refine am_kV.of (ac_Village_begin (d := 0) hYv) (by omega) (fun h2 _ p2 => ?_)
  obtain ⟨b1, b2, b3, b4⟩ := p2
  intro h3 e3 h4 e4 h5 e5
  have s5 : ∀ q, q ≠ o → h5 q = h2 q := fun q a => by rw [e5, am_u_n _ _ _ _ q a, e4, am_u_n _ _ _ _ q a, e3, am_u_n _ _ _ _ q a]
  have len : (lxs (h q1) n 900 0).length ≤ 1000 := by
    have := lxS_len (h q1) n 900 (min n 900 - 0) 0
    unfold lxs
    omega
  have I : ∀ i, i < 325 → pInit RR i = if i = 3 then 3 else if i = 4 then 50 else if i = 5 then 10 else 0 := fun i hi => pInit_c hi
  have I0 : ∀ i, i < 325 → i ≠ 3 → i ≠ 4 → i ≠ 5 → pInit RR i = 0 := fun i a b c e => by rw [I i a, if_neg b, if_neg c, if_neg e]
  have z0 : pInit RR 0 = 0 := I0 0 (by omega) (by omega) (by omega) (by omega)
  have z1 : pInit RR 1 = 0 := I0 1 (by omega) (by omega) (by omega) (by omega)
  have z2 : pInit RR 2 = 0 := I0 2 (by omega) (by omega) (by omega) (by omega)
  have key := loopV36 (d := d + 4) (h0 := h) hY hq 1000 h5 0 0 0 (pInit RR, NN, lxs (h q1) n 900 0) len (by omega) (by omega) (by omega) (by omega) ⟨t1.of4 fun q a b => by rw [s5 q (by omega), b4 q (by omega) (by omega) (by omega) (by omega)], by rw [s5 _ (by omega), b4 _ (by omega) (by omega) (by omega) (by omega)]; exact g4, ?_, ?_⟩ ?_ (pInit_v RR) (fun q hq => by rw [s5 q (by omega), b4 q (by omega) (by omega) (by omega) (by omega), f1 q (by omega)]) ?_
  · exact key
  · show vR h5 (o + 5) (pInit RR 1) (pInit RR) NN
    unfold vR
    rw [s5 (o + 5) (by omega), s5 (o + 5 + 6) (by omega), s5 (o + 5 + 7) (by omega), s5 (o + 5 + 8) (by omega), b1 1 (by omega), b1 2 (by omega), b1 3 (by omega), b1 4 (by omega), b1 5 (by omega), b1 6 (by omega), z0, z1, z2]
    refine ⟨⟨rfl, rfl, rfl, by rw [I 3 (by omega)]; rfl, by rw [I 4 (by omega)]; rfl, by rw [I 5 (by omega)]; rfl⟩, fun k hk => by omega, fun p hp => by omega, fun i hi => ?_, fun i hi => ?_, fun n hn => by omega, ⟨fun p k hp hk hh => ?_, fun p q hp hq hh => ?_⟩, fun k p hk hp => by rw [z0] at hk; omega⟩
    · rw [b2 i hi, I0 _ (by omega) (by omega) (by omega) (by omega)]
    · rw [(b3 i hi).1, (b3 i hi).2, I0 _ (by omega) (by omega) (by omega) (by omega), I0 _ (by omega) (by omega) (by omega) (by omega)]
      exact ⟨rfl, rfl⟩
    · exact I0 _ (by omega) (by omega) (by omega) (by omega)
    · exact ⟨I0 _ (by omega) (by omega) (by omega) (by omega), I0 _ (by omega) (by omega) (by omega) (by omega)⟩
  · exact tE_lxS _ _ _ _ _
  · have n4 : ¬ hb 0 4 := by decide +kernel
    have n5 : ¬ hb 0 5 := by decide +kernel
    have n6 : ¬ hb 0 6 := by decide +kernel
    refine ⟨?_, ?_, ?_, by omega, by omega⟩
    · rw [if_neg n4, e5, am_u_j (by omega), e4, am_u_j (by omega), e3, am_u_s]
    · rw [if_neg n5, e5, am_u_j (by omega), e4, am_u_s]
    · rw [if_neg n6, e5, am_u_s]
  · rw [s5 _ (by omega), b1 0 (by omega)]
    rfl
end

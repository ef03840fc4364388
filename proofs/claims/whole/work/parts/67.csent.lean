/-! contracts: the class's readers of a sentence: what stands beside; a comparison -/
theorem pq_ne {r : List TK} {k : Int} (hk : k ≠ 0) : (pq r k).1 ≠ 0 := by
  unfold pq
  dsimp only
  split <;> omega
theorem pN_l {r : List TK} {a b : Int} {q : Int × Int} (e : pN r a b = .inl q) : q.1 ≠ 0 := by
  unfold pN pb at e
  split at e
  · split at e
    · cases e
    · cases e; exact pq_ne (by omega)
  · cases e; exact pq_ne (by omega)
/-- the sentence's own figures, and who is bound and free -/
def sLk (h : am_H) (o : Nat) (P : Int) (F : Nat → Int → Int) (fr : Nat → Prop) : Prop :=
  h o 3 = am_shl 1 P - 1 ∧ (0 ≤ P ∧ P ≤ 8) ∧ (∀ p w : Nat, (p : Int) < P → w < 5 → h (o + 5) (5 * p + w) = F p (w : Int)) ∧
  (by8 (h o 5) ∧ ∀ p : Nat, p < 8 → (hb (h o 5) (p : Int) ↔ (p : Int) < P ∧ 0 < F p 3)) ∧ by8 (h o 6) ∧ ∀ p : Nat, p < 8 → (hb (h o 6) (p : Int) ↔ (p : Int) < P ∧ fr p)
def sfr (h h1 : am_H) (o : Nat) : Prop := (∀ q, q ≠ o → (q < o + 1 ∨ o + 5 ≤ q) → h1 q = h q) ∧ ∀ j, j ≠ 1 → h1 o j = h o j
theorem sfr.refl {h : am_H} {o : Nat} : sfr h h o := ⟨fun _ _ _ => rfl, fun _ _ => rfl⟩
theorem sfr.trans {h h1 h2 : am_H} {o : Nat} (a : sfr h h1 o) (b : sfr h1 h2 o) : sfr h h2 o := ⟨fun q i j => (b.1 q i j).trans (a.1 q i j), fun j i => (b.2 j i).trans (a.2 j i)⟩
theorem sfr.t {h h1 : am_H} {o : Nat} (f : fr4 h h1 (o + 1)) : sfr h h1 o := ⟨fun q a b => f q (by omega), fun j _ => by rw [f o (by omega)]⟩
theorem sfr.u {h h1 : am_H} {o : Nat} {x : Int} (e : h1 = am_u h o 1 x) : sfr h h1 o := ⟨fun q a b => by rw [e, am_u_n _ _ _ _ q a], fun j a => by rw [e, am_u_j a]⟩
theorem sLk.of {h h1 : am_H} {o : Nat} {P : Int} {F : Nat → Int → Int} {fr : Nat → Prop} (l : sLk h o P F fr) (s : sfr h h1 o) : sLk h1 o P F fr := by
  unfold sLk at l ⊢
  rw [s.2 3 (by omega), s.2 5 (by omega), s.2 6 (by omega), s.1 (o + 5) (by omega) (by omega)]
  exact l
/-- the outcome of a reader of a sentence -/
def sO (h : am_H) (o : Nat) (P : Int) (F : Nat → Int → Int) (fr : Nat → Prop) (e : PE (SS × Int)) (x : Int) (h1 : am_H) : Prop := sfr h h1 o ∧ match e with
  | .inl q => h1 (o + 1) 4 = q.1 ∧ h1 (o + 1) 5 = q.2 ∧ q.1 ≠ 0
  | .inr T => TR h1 (o + 1) T.1.2.2 ∧ h1 (o + 1) 4 = 0 ∧ h1 o 1 = T.1.2.1 ∧ sBits x P F fr T.1.1 T.2
section
variable {d : Nat} {Y : am_Y} {h : am_H} {o : Nat} {P : Int} {F : Nat → Int → Int} {fr : Nat → Prop} {r : List TK}
theorem sO.bad {h1 : am_H} {k x : Int} {e : PE (SS × Int)} (s : sfr h h1 o) (g4 : h1 (o + 1) 4 = (pq r k).1) (g5 : h1 (o + 1) 5 = (pq r k).2) (hk : k ≠ 0) (he : e = pb r k) : sO h o P F fr e x h1 := by
  subst he
  exact ⟨s, g4, g5, pq_ne hk⟩
theorem compareK {a b s : Int} {K : Int → am_H → Prop} (hs : s = 27 ∨ s = 28 ∨ s = 29) (hd : 0 < d) (hK : ∀ v, (v = 0 ∧ ¬ sCm a b (s + 33)) ∨ (v = 1 ∧ sCm a b (s + 33)) → K v h) : am_kI am_SentenceText_compare d Y [.inl a, .inl b, .inl s] h K := by
  refine ⟨0, hd, am_Met.of (by decide) rfl (Nat.le_of_ble_eq_true rfl) (ab_SentenceText_compare_0 ?_)⟩
  unfold sCm at hK
  refine ⟨fun n27 => ⟨fun n28 => ⟨fun c => ?_, fun c => ?_⟩, fun c28 => ⟨fun c => ?_, fun c => ?_⟩⟩, fun c27 => ⟨fun c => ?_, fun c => ?_⟩⟩
  all_goals rw [am_qI_s]
  · exact hK 0 (Or.inl ⟨rfl, by omega⟩)
  · exact hK 1 (Or.inr ⟨rfl, by omega⟩)
  · exact hK 0 (Or.inl ⟨rfl, by omega⟩)
  · exact hK 1 (Or.inr ⟨rfl, by omega⟩)
  · exact hK 0 (Or.inl ⟨rfl, by omega⟩)
  · exact hK 1 (Or.inr ⟨rfl, by omega⟩)
/-- those bits that are through -/
def sGo (h : am_H) (o : Nat) (w : Nat) (num sg : Int) (i : Nat) (B : Int) : Prop := by8 B ∧ ∀ p : Nat, p < 8 → (hb B (p : Int) ↔ p < i ∧ sCm (h (o + 5) (5 * p + w)) num (sg + 33))
theorem loopF65 {w : Nat} {num sg : Int} {K : Int → am_H → Prop} (hY : am_at Y o am_L6) (hw : w < 5) (hs : sg = 27 ∨ sg = 28 ∨ sg = 29) (hn : h (o + 1) 3 = num) (hK : ∀ B, sGo h o w num sg 8 B → K (am_and B (h o 3)) h) : ∀ i : Nat, i ≤ 8 → ∀ B : Int, sGo h o w num sg i B → aw_SentenceText_readFigure_65 (d + 2) Y o (w : Int) sg B (i : Int) h (am_qI K) := by
  refine am_upN _ 8 ?_ ?_
  · intro B g
    refine ab_SentenceText_readFigure_65 hY ⟨fun _ => ?_, fun z => by omega⟩
    rw [am_qI_s]
    exact hK B g
  · intro i hi ih B g
    refine ab_SentenceText_readFigure_65 hY ⟨fun z => by omega, fun _ => ⟨⟨by omega, by omega⟩, ⟨by omega, by omega⟩, ⟨by omega, by omega⟩, ?_⟩⟩
    rw [hn, show (((i : Int) * 5 + (w : Int)).toNat) = 5 * i + w by omega]
    refine compareK hs (by omega) fun v hv => ⟨fun z => ⟨⟨by omega, by omega⟩, ?_⟩, fun z => ⟨⟨by omega, by omega⟩, ?_⟩⟩
    · have nv : ¬ sCm (h (o + 5) (5 * i + w)) num (sg + 33) := by
        rcases hv with hv | hv
        · exact hv.2
        · omega
      have b0 (p : Nat) (hp : p < 8) := hb_or8 (k := p) g.1 by8_0 (by omega)
      refine ih _ ⟨(b0 0 (by omega)).1, fun p hp => ?_⟩
      rw [(b0 p hp).2, g.2 p hp]
      have z0 : ¬ hb 0 (p : Int) := sh_0 (by omega)
      constructor
      · rintro (q | q)
        · exact ⟨by omega, q.2⟩
        · exact absurd q z0
      · rintro ⟨q1, q2⟩
        by_cases e : p = i
        · subst e; exact absurd q2 nv
        · exact Or.inl ⟨by omega, q2⟩
    · have nv : sCm (h (o + 5) (5 * i + w)) num (sg + 33) := by
        rcases hv with hv | hv
        · exact absurd hv.1 z
        · exact hv.2
      have sb := shl_b hi
      have b0 (p : Nat) (hp : p < 8) := hb_or8 (k := p) g.1 sb.1 (by omega)
      refine ih _ ⟨(b0 0 (by omega)).1, fun p hp => ?_⟩
      rw [(b0 p hp).2, g.2 p hp, sb.2 p hp]
      constructor
      · rintro (q | q)
        · exact ⟨by omega, q.2⟩
        · subst q; exact ⟨by omega, nv⟩
      · rintro ⟨q1, q2⟩
        by_cases e : p = i
        · exact Or.inr e
        · exact Or.inl ⟨by omega, q2⟩
theorem ac_readFigure {w : Nat} {nl : List LN} {n : Int} (hY : am_at Y o am_L6) (hw : w < 5) (lk : sLk h o P F fr) (ok : sOK nl) (ht : TR h (o + 1) r) (h4 : h (o + 1) 4 = 0) (h1n : h o 1 = n) : am_cI am_SentenceText_readFigure (d + 4) Y [.inr (.inr o), .inl (w : Int)] h (sO h o P F fr (sCmp (w : Int) (nl, n, r))) := by
  have hYT : am_at Y (o + 1) am_L8 := hY.sub 1 rfl
  have k0 := ht.hd.1
  have at37 : ((hd r).1 = 27 ∨ (hd r).1 = 28 ∨ (hd r).1 = 29) → aw_SentenceText_readFigure_37 (d + 4) Y o (w : Int) (h (o + 1) 0) h (am_qI (sO h o P F fr (sCmp (w : Int) (nl, n, r)))) := by
    intro ck
    have ep : sCmp (w : Int) (nl, n, r) = pbd (pN (nx r) 0 999) fun v => .inr (slay (nl, n, v.2) (6, (w : Int), v.1, (hd r).1 + 33)) := by
      unfold sCmp
      rw [if_pos ck]
    rw [ep, k0]
    refine ab_SentenceText_readFigure_37 hY (advK hYT ht (by omega) ?_)
    intro h1 t1 f1 j1
    refine cnumK hYT t1 ((j1 4 (by omega) (by omega) (by omega) (by omega)).trans h4) (by omega) ?_
    intro x h2 f2 o2
    have S2 : sfr h h2 o := (sfr.t f1).trans (sfr.t f2)
    cases hB : pN (nx r) 0 999 with
    | inl q =>
      rw [hB] at o2
      obtain ⟨rfl, e4, e5⟩ := o2
      refine ⟨fun z => absurd rfl z, fun _ => ?_⟩
      rw [am_qI_s]
      exact ⟨S2, e4, e5, pN_l hB⟩
    | inr A =>
      rw [hB] at o2
      obtain ⟨rfl, e3, t2, g2⟩ := o2
      refine ⟨fun _ => ?_, fun z => absurd z (by decide)⟩
      have lk2 := lk.of S2
      refine loopF65 (d := d + 2) hY hw ck e3 (fun B g => ?_) 0 (by omega) 0 ⟨by8_0, fun p hp => ⟨fun z => absurd z (sh_0 (by omega)), fun z => by omega⟩⟩
      obtain ⟨l3, lP, lF, -⟩ := lk2
      have al := all_b lP
      refine ⟨S2, t2, g2, (S2.1 |> fun _ => ?_), ?_⟩
      · show h2 o 1 = n
        rw [f2 o (by omega), f1 o (by omega)]
        exact h1n
      · refine sBits.leaf ok (sOK_add ok ⟨by show (1 : Int) ≤ 6; omega, by show (6 : Int) ≤ 6; omega⟩ (fun z => absurd z (by show ¬ (6 : Int) = 1; omega)) (fun z => absurd z (by show ¬ ((6 : Int) = 2 ∨ (6 : Int) = 3); omega)) (fun _ => ⟨by show (0 : Int) ≤ (w : Int); omega, by show (w : Int) ≤ 4; omega, by show (hd r).1 + 33 = 60 ∨ (hd r).1 + 33 = 61 ∨ (hd r).1 + 33 = 62; omega⟩)) ?_ (by show (4 : Int) ≤ 6; omega) ?_
        · rw [l3]; exact (hb_and (k := 0) g.1 al.1 (by omega)).1
        · intro p hp
          rw [l3, (hb_and (k := p) g.1 al.1 (by omega)).2, g.2 p hp, al.2 p hp]
          dsimp only
          constructor
          · rintro ⟨⟨-, q⟩, q2⟩
            rw [lF p w q2 hw] at q
            exact ⟨q2, Or.inr (Or.inr ⟨rfl, q⟩)⟩
          · rintro ⟨q2, q⟩
            rcases q with q | q | q
            · exact absurd q.1 (by decide)
            · exact absurd q.1 (by decide)
            · refine ⟨⟨hp, ?_⟩, q2⟩
              rw [lF p w q2 hw]
              exact q.2
  refine am_Met.of (by decide) rfl (Nat.le_of_ble_eq_true rfl) (ab_SentenceText_readFigure_0 hY ?_)
  rw [k0] at at37 ⊢
  refine ⟨fun c => at37 (Or.inl c), fun c1 => ⟨fun c => at37 (Or.inr (Or.inl c)), fun c2 => ⟨fun c => at37 (Or.inr (Or.inr c)), fun c3 => failK (k := 1) hYT ht h4 (by omega) (by split <;> rfl) ?_⟩⟩⟩
  intro h1 f1 e4 e5 _
  rw [am_qI_s]
  refine sO.bad (sfr.t f1) e4 e5 (by omega) ?_
  unfold sCmp
  rw [if_neg (by dsimp only; omega)]
end

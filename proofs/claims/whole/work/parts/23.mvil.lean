/-! a village's text, read: pure, in the reference's layout; and the reference's readers -/
abbrev TK := Int × Int × Int
abbrev PE (α : Type) := Sum (Int × Int) α
def hd (r : List TK) : TK := r.headD (32, 0, 0)
def pq (r : List TK) (k : Int) : Int × Int := (if (hd r).1 = 33 then 1 else k, (hd r).2.1)
def pb {α : Type} (r : List TK) (k : Int) : PE α := .inl (pq r k)
def pbd {α β : Type} (e : PE α) (f : α → PE β) : PE β := match e with
  | .inl q => .inl q
  | .inr x => f x
def up (R : Nat → Int) (j : Nat) (x : Int) : Nat → Int := fun i => if i = j then x else R i
def pN (r : List TK) (a b : Int) : PE (Int × List TK) := if (hd r).1 = 25 then (if a ≤ (hd r).2.2 ∧ (hd r).2.2 ≤ b then .inr ((hd r).2.2, nx r) else pb r 2) else pb r 1
/-- the least k of many with f (b + k) = w; -1: none -/
def fnd (f : Nat → Int) (w : Int) (b : Nat) : Nat → Int
  | 0 => -1
  | k + 1 => if fnd f w b k = -1 then (if f (b + k) = w then (k : Int) else -1) else fnd f w b k
theorem fnd_rg (f : Nat → Int) (w : Int) (b : Nat) : ∀ k, -1 ≤ fnd f w b k ∧ fnd f w b k < k
  | 0 => by unfold fnd; omega
  | k + 1 => by
    have := fnd_rg f w b k
    unfold fnd
    grind
theorem fnd_no (f : Nat → Int) (w : Int) (b : Nat) : ∀ k, fnd f w b k = -1 ↔ ∀ j, j < k → f (b + j) ≠ w
  | 0 => by simp [fnd]
  | k + 1 => by
    have ih := fnd_no f w b k
    have hr := fnd_rg f w b k
    unfold fnd
    constructor
    · intro e j hj
      by_cases c : fnd f w b k = -1
      · rw [if_pos c] at e
        by_cases c2 : f (b + k) = w
        · rw [if_pos c2] at e
          omega
        · by_cases ej : j = k
          · rw [ej]; exact c2
          · exact ih.mp c j (by omega)
      · rw [if_neg c] at e
        exact absurd e c
    · intro e
      rw [if_pos (ih.mpr fun j hj => e j (by omega)), if_neg (e k (by omega))]
theorem fnd_is (f : Nat → Int) (w : Int) (b : Nat) : ∀ (k i : Nat), i < k → f (b + i) = w → (∀ j, j < i → f (b + j) ≠ w) → fnd f w b k = (i : Int)
  | 0, i, h, _, _ => by omega
  | k + 1, i, h, e, hn => by
    unfold fnd
    by_cases c : i = k
    · subst c
      rw [if_pos ((fnd_no f w b i).mpr hn), if_pos e]
    · have := fnd_is f w b k i (by omega) e hn
      rw [if_neg (by omega), this]
theorem fnd_least {f : Nat → Int} {w : Int} {b k : Nat} {r : Int} (hl : am_least (fun j => f (b + j) = w) k r) : r = fnd f w b k := by
  rcases hl with ⟨e, hn⟩ | ⟨i, e, hi, hp, hn⟩
  · rw [e, (fnd_no f w b k).mpr hn]
  · rw [e, fnd_is f w b k i hi hp hn]
def pF (R N : Nat → Int) (w : Int) : Int := if fnd N w 0 (R 0).toNat = -1 then (if fnd N w 6 (R 1).toNat = -1 then -1 else 6 + fnd N w 6 (R 1).toNat) else fnd N w 0 (R 0).toNat
abbrev VS := (Nat → Int) × (Nat → Int) × List TK
def pNew (S : VS) (slot : Int) : PE VS := if (hd S.2.2).1 = 24 then (if pF S.1 S.2.1 (hd S.2.2).2.2 = -1 then .inr (S.1, up S.2.1 slot.toNat (hd S.2.2).2.2, nx S.2.2) else pb S.2.2 3) else pb S.2.2 1
/-- a number into a cell -/
def pNum (S : VS) (a b j : Int) : PE VS := pbd (pN S.2.2 a b) fun x => .inr (up S.1 j.toNat x.1, S.2.1, x.2)
def pHelp (S : VS) : PE VS := if S.1 0 = 6 then pb S.2.2 4 else
  pbd (pNew (S.1, S.2.1, nx S.2.2) (S.1 0)) fun A => pbd (pNum A 1 99 (10 + 2 * S.1 0)) fun B => pbd (pNum B 0 99 (10 + 2 * S.1 0 + 1)) fun C => .inr (up C.1 0 (C.1 0 + 1), C.2)
def pHT (S : VS) : PE Int := if (hd S.2.2).1 = 24 then (if pF S.1 S.2.1 (hd S.2.2).2.2 = -1 ∨ 6 ≤ pF S.1 S.2.1 (hd S.2.2).2.2 then pb S.2.2 3 else .inr (pF S.1 S.2.1 (hd S.2.2).2.2)) else pb S.2.2 1
/-- who is named here, less 6 -/
def pWho (S : VS) : PE Int := if (hd S.2.2).1 = 24 then (if pF S.1 S.2.1 (hd S.2.2).2.2 < 6 then pb S.2.2 3 else .inr (pF S.1 S.2.1 (hd S.2.2).2.2 - 6)) else pb S.2.2 1
def pTie (S : VS) (base : Int) : PE VS := pbd (pWho (S.1, S.2.1, nx S.2.2)) fun p => pbd (pWho (S.1, S.2.1, nx (nx S.2.2))) fun q =>
  if q = p ∨ 0 < S.1 (base + 8 * p + q).toNat then pb (nx (nx S.2.2)) 3 else pNum (S.1, S.2.1, nx (nx (nx S.2.2))) 1 10 (base + 8 * p + q)
/-- the outcome of a reader -/
def ro {α : Type} (h1 : am_H) (m : Nat) (x : Int) (e : PE α) (P : α → Prop) : Prop := match e with
  | .inl q => x = 0 ∧ h1 m 10 = q.1 ∧ h1 m 11 = q.2
  | .inr a => x = 1 ∧ P a
def mFn (h h1 : am_H) (m : Nat) : Prop := (∀ q, q ≠ m → h1 q = h q) ∧ ∀ j, j < 5 ∨ 13 < j → h1 m j = h m j
def mFr (h h1 : am_H) (m : Nat) : Prop := (∀ q, q ≠ m → q ≠ m + 3 → q ≠ m + 7 → h1 q = h q) ∧ ∀ j, j < 5 ∨ 13 < j ∧ j ≠ 23 → h1 m j = h m j
theorem mFn.trans {h h1 h2 : am_H} {m : Nat} (a : mFn h h1 m) (b : mFn h1 h2 m) : mFn h h2 m := ⟨fun q hq => (b.1 q hq).trans (a.1 q hq), fun j hj => (b.2 j hj).trans (a.2 j hj)⟩
theorem mFr.trans {h h1 h2 : am_H} {m : Nat} (a : mFr h h1 m) (b : mFr h1 h2 m) : mFr h h2 m := ⟨fun q h0 h3 h7 => (b.1 q h0 h3 h7).trans (a.1 q h0 h3 h7), fun j hj => (b.2 j hj).trans (a.2 j hj)⟩
theorem mFn.r {h h1 : am_H} {m : Nat} (a : mFn h h1 m) : mFr h h1 m := ⟨fun q h0 _ _ => a.1 q h0, fun j hj => a.2 j (by omega)⟩
theorem mFn.refl {h : am_H} {m : Nat} : mFn h h m := ⟨fun _ _ => rfl, fun _ _ => rfl⟩
theorem mgo.n {h h1 : am_H} {m : Nat} (a : mgo h h1 m) : mFn h h1 m := ⟨a.1, fun j hj => a.2 j (by omega) (by omega) (by omega) (by omega) (by omega) (by omega)⟩
theorem mBad.n {h h1 : am_H} {m : Nat} {f : Int} (a : mBad h h1 m f) : mFn h h1 m := ⟨a.2.2.1, fun j hj => a.2.2.2 j (by omega) (by omega)⟩
theorem mFn.u {h : am_H} {m : Nat} {x : Int} : mFn h (am_u h m 13 x) m := ⟨fun q hq => am_u_n _ _ _ _ q hq, fun j hj => am_u_j (by omega)⟩
theorem mFr.u3 {h : am_H} {m j : Nat} {x : Int} : mFr h (am_u h (m + 3) j x) m := ⟨fun q _ h3 _ => am_u_n _ _ _ _ q h3, fun j hj => am_u_o (by omega)⟩
theorem mFr.u7 {h : am_H} {m j : Nat} {x : Int} : mFr h (am_u h (m + 7) j x) m := ⟨fun q _ _ h7 => am_u_n _ _ _ _ q h7, fun j hj => am_u_o (by omega)⟩
def M0 (h : am_H) (m : Nat) (s : Nat → Int) (n lim : Nat) (r : List TK) : Prop := MR h m s n lim r ∧ h m 10 = 0
theorem am_u_up (h : am_H) (o j : Nat) (x : Int) : am_u h o j x o = up (h o) j x := by
  funext i
  unfold am_u up
  by_cases c : i = j
  · rw [if_pos ⟨rfl, c⟩, if_pos c]
  · rw [if_neg (fun z => c z.2), if_neg c]
section
variable {d : Nat} {Y : am_Y} {h : am_H} {m : Nat} {s : Nat → Int} {n lim : Nat} {r : List TK}
theorem MC.fr {h1 : am_H} (c : MC h m s n lim) (f : mFr h h1 m) : MC h1 m s n lim := by
  obtain ⟨c1, c2, c3, c4⟩ := c
  refine ⟨(f.2 3 (by omega)).trans c1, (f.2 4 (by omega)).trans c2, c3, ?_⟩
  rw [f.1 (m + 1) (by omega) (by omega) (by omega)]
  exact c4
theorem M0.but {h1 : am_H} (c : M0 h m s n lim r) (f : ∀ j, 5 ≤ j → j ≤ 12 → j ≠ 11 → j ≠ 11 → h1 m j = h m j) : M0 h1 m s n lim r := by
  obtain ⟨⟨a, l, e, k, p6, p, p5, pn, pe⟩, c10⟩ := c
  refine ⟨⟨a, l, e, ?_, (f 6 (by omega) (by omega) (by omega) (by omega)).trans p6, p, (f 5 (by omega) (by omega) (by omega) (by omega)).trans p5, pn, pe⟩, (f 10 (by omega) (by omega) (by omega) (by omega)).trans c10⟩
  unfold mK at k ⊢
  rw [f 7 (by omega) (by omega) (by omega) (by omega), f 8 (by omega) (by omega) (by omega) (by omega), f 9 (by omega) (by omega) (by omega) (by omega), f 12 (by omega) (by omega) (by omega) (by omega)]
  exact k
theorem M0.hd (c : M0 h m s n lim r) : mK h m (hd r) ∧ h m 6 = (hd r).2.1 := by
  obtain ⟨⟨a, l, e, k, p6, -⟩, -⟩ := c
  subst e
  exact ⟨k, p6⟩
theorem badK {k : Int} {K : Int → am_H → Prop} (hY : am_at Y m am_L12) (hr : M0 h m s n lim r) (hd : 0 < d) (hK : ∀ h1, mFn h h1 m → h1 m 10 = (pq r k).1 → h1 m 11 = (pq r k).2 → K 0 h1) : am_kI am_Md_bad d Y [.inr (.inr m), .inl k] h (fun v h1 => (v = 0 ∨ v = 1) ∧ am_qI K (some (.inl v)) h1) :=
  am_kI.of (ac_m_bad (d := 0) hY hr.hd.1) hd (by
    rintro x h1 - - ⟨rfl, b⟩
    rw [am_qI_s]
    exact ⟨Or.inl rfl, hK h1 b.n b.1 (b.2.1.trans hr.hd.2)⟩)
theorem goK {K : am_H → Prop} (hY : am_at Y m am_L12) (hc : MC h m s n lim) (hr : M0 h m s n lim r) (hd : 1 < d) (hK : ∀ h1, mFn h h1 m → (∀ j, j = 10 ∨ j = 11 ∨ j = 13 → h1 m j = h m j) → M0 h1 m s n lim (nx r) → K h1) : am_kV am_Md_go d Y [.inr (.inr m)] h K :=
  am_kV.of (ac_m_next (d := 0) hY hc hr.1) hd (by
    rintro h1 - ⟨a, b⟩
    exact hK h1 b.n (fun j hj => b.2 j (by omega) (by omega) (by omega) (by omega) (by omega) (by omega)) ⟨a, (b.2 10 (by omega) (by omega) (by omega) (by omega) (by omega) (by omega)).trans hr.2⟩)
theorem isInK {x lo hi : Int} {K : Int → am_H → Prop} (hd : 0 < d) (hK : K (if lo ≤ x ∧ x ≤ hi then 1 else 0) h) : am_kI am_Md_isIn d Y [.inl x, .inl lo, .inl hi] h K :=
  am_kI.of (ac_m_isIn (d := 0)) hd (by
    rintro x h1 - - ⟨rfl, rfl⟩
    exact hK)
theorem nameK {K : Int → am_H → Prop} (hY : am_at Y m am_L12) (hr : M0 h m s n lim r) (hd2 : 2 < d) (hK : K (if (hd r).1 = 24 then 1 else 0) h) : am_kI am_Md_isName d Y [.inr (.inr m)] h K :=
  am_kI.of (ac_m_isName (d := 0) hY hr.hd.1) hd2 (by
    rintro x h1 - - ⟨rfl, rfl⟩
    exact hK)
theorem wordK {k : Int} {K : Int → am_H → Prop} (hY : am_at Y m am_L12) (hr : M0 h m s n lim r) (hk : 0 ≤ k ∧ k ≤ 23) (hd2 : 2 < d) (hK : K (if (hd r).1 = ((mW.getD k.toNat 23 : Nat) : Int) then 1 else 0) h) : am_kI am_Md_isWord d Y [.inr (.inr m), .inl k] h K :=
  am_kI.of (ac_m_isWord (d := 0) hY hr.hd.1 hk) hd2 (by
    rintro x h1 - - ⟨rfl, rfl⟩
    exact hK)
theorem ac_m_readNumber {lo hi : Int} (hY : am_at Y m am_L12) (hc : MC h m s n lim) (hr : M0 h m s n lim r) : am_cI am_Md_readNumber (d + 2) Y [.inr (.inr m), .inl lo, .inl hi] h (fun x h1 => mFn h h1 m ∧ ro h1 m x (pN r lo hi) (fun a => h1 m 13 = a.1 ∧ M0 h1 m s n lim a.2)) := by
  have h7 := (mK_7 hr.hd.1).2.1
  have h8 := hr.hd.1.2.2.2.1
  refine am_Met.of (by decide) rfl (Nat.le_of_ble_eq_true rfl) (ab_Md_readNumber_0 hY ⟨fun c => isInK (by omega) ?_, fun c => badK hY hr (by omega) ?_⟩)
  · have c25 := h7.mp c
    have e8 := (h8 c25).2
    unfold pN
    rw [if_pos c25, ← e8]
    by_cases ci : lo ≤ h m 8 ∧ h m 8 ≤ hi
    · rw [if_pos ci, if_pos ci]
      refine ⟨fun _ h3 e3 => goK (s := s) (n := n) (lim := lim) (r := r) hY ?_ ?_ (by omega) ?_, fun z => absurd z (by decide)⟩
      · rw [e3]; exact hc.fr mFn.u.r
      · rw [e3]; exact hr.but fun j _ _ _ _ => am_u_j (by omega)
      · intro h4 f4 g4 r4
        rw [am_qI_s]
        refine ⟨(by rw [e3] at f4; exact mFn.u.trans f4), rfl, ?_, r4⟩
        rw [g4 13 (by omega), e3, am_u_s]
    · rw [if_neg ci, if_neg ci]
      refine ⟨fun z => absurd rfl z, fun _ => badK hY hr (by omega) ?_⟩
      intro h1 f1 e10 e11
      exact ⟨f1, rfl, e10, e11⟩
  · intro h1 f1 e10 e11
    unfold pN
    rw [if_neg (fun z => c (h7.mpr z))]
    exact ⟨f1, rfl, e10, e11⟩
theorem ac_m_readEnd (hY : am_at Y m am_L12) (hc : MC h m s n lim) (hr : M0 h m s n lim r) : am_cI am_Md_readEnd (d + 2) Y [.inr (.inr m)] h (fun x h1 => mFn h h1 m ∧ ro h1 m x (if (hd r).1 = 26 then .inr (nx r) else pb r 1) (fun a => M0 h1 m s n lim a)) := by
  refine am_Met.of (by decide) rfl (Nat.le_of_ble_eq_true rfl) (ab_Md_readEnd_0 hY (am_kI.of (ac_m_isSign (d := 0) (c := 59) hY hr.hd.1 (by decide)) (by omega) ?_))
  rintro x h1 - - ⟨rfl, rfl⟩
  have e : lxg 59 = 26 := by decide
  rw [e]
  by_cases c : (hd r).1 = 26
  · rw [if_pos c, if_pos c]
    refine ⟨fun _ => goK hY hc hr (by omega) ?_, fun z => absurd z (by decide)⟩
    intro h1 f1 _ r1
    rw [am_qI_s]
    exact ⟨f1, rfl, r1⟩
  · rw [if_neg c, if_neg c]
    refine ⟨fun z => absurd rfl z, fun _ => badK hY hr (by omega) ?_⟩
    intro h1 f1 e10 e11
    exact ⟨f1, rfl, e10, e11⟩
/-- what is named here -/
theorem ac_m_findRead (hY : am_at Y m am_L12) (h0 : 0 ≤ h (m + 3) 0 ∧ h (m + 3) 0 ≤ 6) (h1 : 0 ≤ h (m + 3) 1 ∧ h (m + 3) 1 ≤ 8) : am_cI am_Md_findRead d Y [.inr (.inr m)] h (fun x h1 => h1 = h ∧ x = pF (h (m + 3)) (h (m + 7)) (h m 12)) := by
  refine am_Met.of (by decide) rfl (Nat.le_of_ble_eq_true rfl) (ab_Md_findRead_0 hY ?_)
  have hN : ∀ (b : Nat) (i : Int), 0 ≤ i → (∀ j : Nat, (j : Int) < i → h (m + 7) (b + j) ≠ h m 12) → h (m + 7) ((b : Int) + i).toNat ≠ h m 12 → ∀ j : Nat, (j : Int) < i + 1 → h (m + 7) (b + j) ≠ h m 12 := fun b i i0 hn hi j hj => by
    by_cases e : (j : Int) = i
    · subst e
      have e2 : ((b : Int) + (j : Int)).toNat = b + j := by omega
      rw [e2] at hi
      exact hi
    · exact hn j (by omega)
  have second : fnd (h (m + 7)) (h m 12) 0 (h (m + 3) 0).toNat = -1 → am_wp am_Md_findRead d Y 36 [some (.inr (.inr m)), some (.inl 0)] [] h (am_qI (fun x h1 => h1 = h ∧ x = pF (h (m + 3)) (h (m + 7)) (h m 12))) := by
    intro hno
    unfold pF
    rw [if_pos hno]
    refine am_up (fun i => 0 ≤ i → (∀ j : Nat, (j : Int) < i → h (m + 7) (6 + j) ≠ h m 12) → am_wp am_Md_findRead d Y 36 [some (.inr (.inr m)), some (.inl i)] [] h _) (h (m + 3) 1) ?_ ?_ 0 (by omega) (fun j hj => by omega)
    · intro i hi i0 hn
      refine ab_Md_findRead_36 hY ⟨fun _ => ?_, fun z => by omega⟩
      rw [am_qI_s, if_pos ((fnd_no _ _ _ _).mpr fun j hj => hn j (by omega))]
      exact ⟨rfl, rfl⟩
    · intro i hi ih i0 hn
      refine ab_Md_findRead_36 hY ⟨fun z => by omega, fun _ => ⟨⟨by omega, by omega⟩, ⟨by omega, by omega⟩, fun z => ⟨⟨by omega, by omega⟩, ih (by omega) (hN 6 i i0 hn (by show h (m + 7) (6 + i).toNat ≠ h m 12; omega))⟩, fun z => ⟨⟨by omega, by omega⟩, ?_⟩, fun z => ⟨⟨by omega, by omega⟩, ih (by omega) (hN 6 i i0 hn (by show h (m + 7) (6 + i).toNat ≠ h m 12; omega))⟩⟩⟩
      have e2 : (6 + i).toNat = 6 + i.toNat := by omega
      rw [e2] at z
      have hf := fnd_is (h (m + 7)) (h m 12) 6 (h (m + 3) 1).toNat i.toNat (by omega) z (fun j hj => hn j (by omega))
      rw [am_qI_s, hf, if_neg (by omega)]
      exact ⟨rfl, by omega⟩
  refine am_up (fun i => 0 ≤ i → (∀ j : Nat, (j : Int) < i → h (m + 7) (0 + j) ≠ h m 12) → am_wp am_Md_findRead d Y 2 [some (.inr (.inr m)), some (.inl i)] [] h _) (h (m + 3) 0) ?_ ?_ 0 (by omega) (fun j hj => by omega)
  · intro i hi i0 hn
    exact ab_Md_findRead_2 hY ⟨fun _ => second ((fnd_no _ _ _ _).mpr fun j hj => hn j (by omega)), fun z => by omega⟩
  · intro i hi ih i0 hn
    have e0 : ((0 : Nat) : Int) + i = i := by omega
    refine ab_Md_findRead_2 hY ⟨fun z => by omega, fun _ => ⟨⟨by omega, by omega⟩, fun z => ⟨⟨by omega, by omega⟩, ih (by omega) (hN 0 i i0 hn (by rw [e0]; omega))⟩, fun z => ?_, fun z => ⟨⟨by omega, by omega⟩, ih (by omega) (hN 0 i i0 hn (by rw [e0]; omega))⟩⟩⟩
    have hf := fnd_is (h (m + 7)) (h m 12) 0 (h (m + 3) 0).toNat i.toNat (by omega) (by rw [Nat.zero_add]; exact z) (fun j hj => hn j (by omega))
    rw [am_qI_s]
    unfold pF
    rw [hf, if_neg (by omega)]
    exact ⟨rfl, by omega⟩
end

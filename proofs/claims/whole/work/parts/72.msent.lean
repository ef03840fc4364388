/-! contracts: the reference's readers of a sentence: its nodes; a comparison -/
def mNd (h : am_H) (m : Nat) (nl : List LN) : Prop := h m 61 = (nl.length : Int) ∧ ∀ (j : Nat) (n : LN), nl[j]? = some n → h (m + 30) (4 * j) = n.1 ∧ h (m + 30) (4 * j + 1) = n.2.1 ∧ h (m + 30) (4 * j + 2) = n.2.2.1 ∧ h (m + 30) (4 * j + 3) = n.2.2.2
def mFs (h h1 : am_H) (m : Nat) : Prop := (∀ q, q ≠ m → q ≠ m + 30 → h1 q = h q) ∧ ∀ j, j < 5 ∨ 13 < j ∧ j ≠ 61 ∧ j ≠ 62 ∧ j ≠ 63 ∧ j ≠ 64 → h1 m j = h m j
theorem mFs.trans {h h1 h2 : am_H} {m : Nat} (a : mFs h h1 m) (b : mFs h1 h2 m) : mFs h h2 m := ⟨fun q i j => (b.1 q i j).trans (a.1 q i j), fun j i => (b.2 j i).trans (a.2 j i)⟩
theorem mFs.refl {h : am_H} {m : Nat} : mFs h h m := ⟨fun _ _ _ => rfl, fun _ _ => rfl⟩
theorem mFn.s {h h1 : am_H} {m : Nat} (a : mFn h h1 m) : mFs h h1 m := ⟨fun q i _ => a.1 q i, fun j i => a.2 j (by omega)⟩
theorem mFs.u {h h1 : am_H} {m j : Nat} {x : Int} (e : h1 = am_u h m j x) (hj : j = 61 ∨ j = 62 ∨ j = 63 ∨ j = 64) : mFs h h1 m := ⟨fun q a _ => by rw [e, am_u_n _ _ _ _ q a], fun i a => by rw [e, am_u_j (by omega)]⟩
theorem lxg_s {x k : Int} (e : lxg x = k) (hk : k = 27 ∨ k = 28 ∨ k = 29) : x = k + 33 := by
  unfold lxg at e
  iterate 6 (split at e; · omega)
  omega
section
variable {d : Nat} {Y : am_Y} {h h1 : am_H} {m : Nat} {s : Nat → Int} {n lim : Nat} {r : List TK} {nl : List LN}
theorem MC.st (c : MC h m s n lim) (f : mFs h h1 m) : MC h1 m s n lim := by
  obtain ⟨c1, c2, c3, c4⟩ := c
  refine ⟨(f.2 3 (by omega)).trans c1, (f.2 4 (by omega)).trans c2, c3, ?_⟩
  rw [f.1 (m + 1) (by omega) (by omega)]
  exact c4
theorem mNd.of (c : mNd h m nl) (e : h1 m 61 = h m 61) (f : h1 (m + 30) = h (m + 30)) : mNd h1 m nl := by
  unfold mNd at c ⊢
  rw [e, f]
  exact c
theorem mNd.fn (c : mNd h m nl) (f : mFn h h1 m) : mNd h1 m nl := c.of (f.2 61 (by omega)) (f.1 _ (by omega))
theorem laysK {a b c e : Int} {K : Int → am_H → Prop} (hY : am_at Y m am_L12) (nd : mNd h m nl) (hl : nl.length < 60) (hd : 0 < d) (hK : ∀ h1, mNd h1 m (nl ++ [(a, b, c, e)]) → (∀ q, q ≠ m → q ≠ m + 30 → h1 q = h q) → (∀ j, j ≠ 61 → h1 m j = h m j) → K (nl.length : Int) h1) : am_kI am_Md_lays d Y [.inr (.inr m), .inl a, .inl b, .inl c, .inl e] h K := by
  obtain ⟨n1, n2⟩ := nd
  refine ⟨0, hd, am_Met.of (by decide) rfl (Nat.le_of_ble_eq_true rfl) (ab_Md_lays_0 hY ?_)⟩
  rw [n1]
  refine ⟨⟨by omega, by omega⟩, ⟨by omega, by omega⟩, fun h1 e1 => ⟨⟨by omega, by omega⟩, ⟨by omega, by omega⟩, fun h2 e2 => ⟨⟨by omega, by omega⟩, ⟨by omega, by omega⟩, fun h3 e3 => ⟨⟨by omega, by omega⟩, ⟨by omega, by omega⟩, fun h4 e4 => ?_⟩⟩⟩⟩
  rw [show (4 * (nl.length : Int)).toNat = 4 * nl.length by omega] at e1
  rw [show (4 * (nl.length : Int) + 1).toNat = 4 * nl.length + 1 by omega] at e2
  rw [show (4 * (nl.length : Int) + 2).toNat = 4 * nl.length + 2 by omega] at e3
  rw [show (4 * (nl.length : Int) + 3).toNat = 4 * nl.length + 3 by omega] at e4
  have m4 : h4 m = h m := by rw [e4, am_u_n _ _ _ _ _ (by omega), e3, am_u_n _ _ _ _ _ (by omega), e2, am_u_n _ _ _ _ _ (by omega), e1, am_u_n _ _ _ _ _ (by omega)]
  have q4 : ∀ q, q ≠ m + 30 → h4 q = h q := fun q hq => by rw [e4, am_u_n _ _ _ _ _ hq, e3, am_u_n _ _ _ _ _ hq, e2, am_u_n _ _ _ _ _ hq, e1, am_u_n _ _ _ _ _ hq]
  have o4 : ∀ j, j < 4 * nl.length → h4 (m + 30) j = h (m + 30) j := fun j hj => by rw [e4, am_u_j (by omega), e3, am_u_j (by omega), e2, am_u_j (by omega), e1, am_u_j (by omega)]
  rw [m4, n1]
  refine ⟨⟨by omega, by omega⟩, fun h5 e5 => ?_⟩
  have k5 : h5 m 61 = (nl.length : Int) + 1 := by rw [e5, am_u_s]
  have q5 : ∀ q, q ≠ m → h5 q = h4 q := fun q hq => by rw [e5, am_u_n _ _ _ _ q hq]
  rw [k5]
  refine ⟨⟨by omega, by omega⟩, ?_⟩
  rw [am_qI_s, show (nl.length : Int) + 1 - 1 = nl.length by omega]
  refine hK h5 ⟨?_, fun j n en => ?_⟩ (fun q a b => by rw [q5 q a, q4 q b]) (fun j hj => by rw [e5, am_u_j hj, m4])
  · rw [k5, List.length_append]
    rfl
  · rw [q5 _ (by omega)]
    by_cases hj : j < nl.length
    · rw [List.getElem?_append_left hj] at en
      rw [o4 _ (by omega), o4 _ (by omega), o4 _ (by omega), o4 _ (by omega)]
      exact n2 j n en
    · rw [List.getElem?_append_right (by omega)] at en
      have hl := (List.getElem?_eq_some_iff.mp en).1
      simp at hl
      have hi2 : j = nl.length := by omega
      subst hi2
      simp at en
      subst en
      refine ⟨?_, ?_, ?_, ?_⟩
      · rw [e4, am_u_j (by omega), e3, am_u_j (by omega), e2, am_u_j (by omega), e1, am_u_s]
      · rw [e4, am_u_j (by omega), e3, am_u_j (by omega), e2, am_u_s]
      · rw [e4, am_u_j (by omega), e3, am_u_s]
      · rw [e4, am_u_s]
theorem signK {c k : Int} {K : Int → am_H → Prop} (hY : am_at Y m am_L12) (hr : M0 h m s n lim r) (hc : lxg c = k) (hk : k ≠ 33) (hd2 : 0 < d) (hK : K (if (hd r).1 = k then 1 else 0) h) : am_kI am_Md_isSign d Y [.inr (.inr m), .inl c] h K := by
  subst hc
  exact am_kI.of (ac_m_isSign (d := 0) hY hr.hd.1 hk) hd2 (by rintro x h1 - - ⟨rfl, rfl⟩; exact hK)
theorem mW_k : ∀ k : Fin 24, 14 ≤ k.val → mW.getD k.val 23 = k.val := by decide
theorem wordSK {k : Nat} {K : Int → am_H → Prop} (hY : am_at Y m am_L12) (hr : M0 h m s n lim r) (hk : 14 ≤ k ∧ k ≤ 23) (hd2 : 2 < d) (hK : K (if (hd r).1 = (k : Int) then 1 else 0) h) : am_kI am_Md_isWord d Y [.inr (.inr m), .inl (k : Int)] h K := by
  refine wordK hY hr (by omega) hd2 ?_
  have := mW_k ⟨k, by omega⟩ hk.1
  dsimp only at this
  rw [Int.toNat_natCast, this]
  exact hK
/-- the outcome of a reader of a sentence -/
def mSO (h : am_H) (m : Nat) (s : Nat → Int) (n lim : Nat) (w : Int) (e : PE (SS × Int)) (x : Int) (h1 : am_H) : Prop := mFs h h1 m ∧ h1 m 63 = w ∧ ro h1 m x e (fun T => M0 h1 m s n lim T.1.2.2 ∧ mNd h1 m T.1.1 ∧ h1 m 62 = T.1.2.1 ∧ h1 m 64 = T.2)
theorem mSO.bad {k w : Int} {e : PE (SS × Int)} (f : mFs h h1 m) (f3 : h1 m 63 = w) (e10 : h1 m 10 = (pq r k).1) (e11 : h1 m 11 = (pq r k).2) (he : e = pb r k) : mSO h m s n lim w e 0 h1 := by
  subst he
  exact ⟨f, f3, rfl, e10, e11⟩
theorem mSO.x {w x : Int} {e : PE (SS × Int)} (o : mSO h m s n lim w e x h1) : x = 0 ∨ x = 1 := by
  obtain ⟨-, -, o⟩ := o
  cases e with
  | inl q => exact Or.inl o.1
  | inr a => exact Or.inr o.1
theorem ac_m_readCompare {k w o1 : Int} (hY : am_at Y m am_L12) (hc : MC h m s n lim) (hr : M0 h m s n lim r) (nd : mNd h m nl) (hl : nl.length < 60) (h63 : h m 63 = w) (h62 : h m 62 = o1) (hk : 19 ≤ k ∧ k ≤ 23) : am_cI am_Md_readCompare (d + 4) Y [.inr (.inr m), .inl k] h (mSO h m s n lim w (sCmp (k - 19) (nl, o1, r))) := by
  have at33 : ((hd r).1 = 27 ∨ (hd r).1 = 28 ∨ (hd r).1 = 29) → aw_Md_readCompare_33 (d + 4) Y m k h (am_qI (mSO h m s n lim w (sCmp (k - 19) (nl, o1, r)))) := by
    intro ck
    have ep : sCmp (k - 19) (nl, o1, r) = pbd (pN (nx r) 0 999) fun v => .inr (slay (nl, o1, v.2) (6, k - 19, v.1, (hd r).1 + 33)) := by
      unfold sCmp
      rw [if_pos ck]
    have k9 : h m 9 = (hd r).1 + 33 := lxg_s (hr.hd.1.2.2.2.2.1 (by omega) (by omega)).2 ck
    rw [ep]
    refine ab_Md_readCompare_33 hY (goK hY hc hr (by omega) ?_)
    intro h1 f1 g1 r1
    refine numK hY (hc.st f1.s) r1 (by omega) ?_
    intro x h2 f2 o2
    have F2 : mFn h h2 m := f1.trans f2
    cases hB : pN (nx r) 0 999 with
    | inl q =>
      rw [hB] at o2
      obtain ⟨rfl, e4, e5⟩ := o2
      refine ⟨fun z => absurd rfl z, fun _ => ?_⟩
      rw [am_qI_s]
      exact ⟨F2.s, (F2.2 63 (by omega)).trans h63, rfl, e4, e5⟩
    | inr A =>
      rw [hB] at o2
      obtain ⟨rfl, e13, r2⟩ := o2
      refine ⟨fun _ => ⟨⟨by omega, by omega⟩, ?_⟩, fun z => absurd z (by decide)⟩
      rw [k9, e13]
      refine laysK hY (nd.fn F2) hl (by omega) ?_
      intro h4 n4 q4 j4 h6 e6
      have q6 : ∀ q, q ≠ m → h6 q = h4 q := fun q hq => by rw [e6, am_u_n _ _ _ _ q hq]
      have j6 : ∀ j, j ≠ 64 → h6 m j = h4 m j := fun j hj => by rw [e6, am_u_j hj]
      rw [am_qI_s]
      refine ⟨⟨fun q a b => by rw [q6 q a, q4 q a b, F2.1 q a], fun j hj => by rw [j6 j (by omega), j4 j (by omega), F2.2 j (by omega)]⟩, by rw [j6 63 (by omega), j4 63 (by omega), F2.2 63 (by omega), h63], rfl, r2.but fun j a b _ _ => by rw [j6 j (by omega), j4 j (by omega)], n4.of (j6 61 (by omega)) (q6 _ (by omega)), ?_, ?_⟩
      · rw [j6 62 (by omega), j4 62 (by omega), F2.2 62 (by omega), h62]
        rfl
      · rw [e6, am_u_s]
        rfl
  refine am_Met.of (by decide) rfl (Nat.le_of_ble_eq_true rfl) (ab_Md_readCompare_0 hY (signK (k := 27) hY hr (by decide) (by decide) (by omega) ?_))
  by_cases c1 : (hd r).1 = 27
  · rw [if_pos c1]
    exact ⟨fun _ => at33 (Or.inl c1), fun z => absurd z (by decide)⟩
  · rw [if_neg c1]
    refine ⟨fun z => absurd rfl z, fun _ => signK (k := 28) hY hr (by decide) (by decide) (by omega) ?_⟩
    by_cases c2 : (hd r).1 = 28
    · rw [if_pos c2]
      exact ⟨fun _ => at33 (Or.inr (Or.inl c2)), fun z => absurd z (by decide)⟩
    · rw [if_neg c2]
      refine ⟨fun z => absurd rfl z, fun _ => signK (k := 29) hY hr (by decide) (by decide) (by omega) ?_⟩
      by_cases c3 : (hd r).1 = 29
      · rw [if_pos c3]
        exact ⟨fun _ => at33 (Or.inr (Or.inr c3)), fun z => absurd z (by decide)⟩
      · rw [if_neg c3]
        refine ⟨fun z => absurd rfl z, fun _ => badK hY hr (by omega) ?_⟩
        intro h1 f1 e10 e11
        refine mSO.bad f1.s ((f1.2 63 (by omega)).trans h63) e10 e11 ?_
        unfold sCmp
        rw [if_neg (by dsimp only; omega)]
end

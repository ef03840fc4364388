/-! contracts: the reference's reader of a person -/
def tE (r : List TK) : Prop := ∃ a, r.getLast? = some a ∧ 32 ≤ a.1
theorem tE_1 {x : TK} (h : 32 ≤ x.1) : tE [x] := ⟨x, rfl, h⟩
theorem tE_end (s : Nat → Int) (n lim : Nat) : tE [(if lim < n then (33 : Int) else 32, ((min n lim : Nat) : Int), (0 : Int))] := by
  refine tE_1 ?_
  show (32 : Int) ≤ if lim < n then (33 : Int) else 32
  split <;> omega
theorem tE_lxS (s : Nat → Int) (n lim : Nat) : ∀ f i, tE (lxS s n lim f i)
  | 0, i => by
    unfold lxS
    exact tE_end s n lim
  | f + 1, i => by
    unfold lxS
    split
    · split
      · exact tE_lxS s n lim f (i + 1)
      · obtain ⟨a, e, ha⟩ := tE_lxS s n lim f (lxN s n i)
        exact ⟨a, by rw [List.getLast?_cons, e]; rfl, ha⟩
    · exact tE_end s n lim
theorem tE_nx {a : TK} {l : List TK} (h : tE (nx (a :: l))) (ha : a.1 < 32) : (nx (a :: l)).length = l.length ∧ nx (a :: l) = l ∧ tE l := by
  cases l with
  | nil =>
    obtain ⟨b, e, hb⟩ := h
    simp [nx] at e
    subst e
    omega
  | cons b l => exact ⟨rfl, rfl, h⟩
theorem M0.tE {h : am_H} {m : Nat} {s : Nat → Int} {n lim : Nat} {r : List TK} (c : M0 h m s n lim r) : tE (nx r) := by
  obtain ⟨⟨a, l, e, -, -, p, -, -, pe⟩, -⟩ := c
  rw [← pe]
  exact tE_lxS s n lim _ _
theorem MR_len {h : am_H} {m : Nat} {s : Nat → Int} {n lim : Nat} {r : List TK} (c : M0 h m s n lim r) (ha : (hd r).1 < 32) : (nx r).length + 1 = r.length := by
  have t := c.tE
  obtain ⟨⟨a, l, e, -⟩, -⟩ := c
  subst e
  have := (tE_nx t ha).1
  rw [this]
  rfl
def zer (R : Nat → Int) (a k : Nat) : Nat → Int := fun i => if a ≤ i ∧ i < a + k then 0 else R i
theorem zer_0 (R : Nat → Int) (a : Nat) : zer R a 0 = R := by
  funext i
  exact if_neg (by omega)
theorem zer_s (R : Nat → Int) (a k : Nat) : up (zer R a k) (a + k) 0 = zer R a (k + 1) := by
  funext i
  unfold up zer
  by_cases e : i = a + k
  · rw [if_pos e, if_pos (by omega)]
  · rw [if_neg e]
    by_cases c : a ≤ i ∧ i < a + k
    · rw [if_pos c, if_pos (by omega)]
    · rw [if_neg c, if_neg (by omega)]
def pBody (p : Int) (S : VS) : PE VS := pbd (pHT (S.1, S.2.1, nx S.2.2)) fun k =>
  if (hd S.2.2).1 = 2 then (if 0 < S.1 (35 + 6 * p + k).toNat then pb (nx S.2.2) 3 else pNum (S.1, S.2.1, nx (nx S.2.2)) 1 99 (35 + 6 * p + k))
  else if hb (S.1 (85 + p).toNat) k then pb (nx S.2.2) 3 else .inr (pNeed S.1 p k, S.2.1, nx (nx S.2.2))
def pLoop : Nat → Int → VS → PE VS
  | 0, _, S => .inr S
  | f + 1, p, S => if (hd S.2.2).1 = 2 ∨ (hd S.2.2).1 = 3 then pbd (pBody p S) (pLoop f p) else .inr S
def pPerson (S : VS) : PE VS := if S.1 1 = 8 then pb S.2.2 4 else
  pbd (pNew (S.1, S.2.1, nx S.2.2) (6 + S.1 1)) fun A => pbd (pNum A 0 9 (25 + S.1 1)) fun B =>
    pbd (pLoop 1000 (S.1 1) (zer (up B.1 (85 + S.1 1).toNat 0) (35 + 6 * S.1 1).toNat 6, B.2)) fun C => .inr (up C.1 1 (C.1 1 + 1), C.2)
/-- after the loop -/
def pEnd1 (e : PE VS) : PE VS := pbd e fun C => .inr (up C.1 1 (C.1 1 + 1), C.2)
section
variable {d : Nat} {Y : am_Y} {h : am_H} {m : Nat} {s : Nat → Int} {n lim : Nat} {r : List TK}
/-- in the loop of a person p -/
def pLS (h0 h : am_H) (m : Nat) (s : Nat → Int) (n lim : Nat) (p : Int) (S : VS) : Prop := rS h m s n lim S ∧ mFr h0 h m ∧ h m 23 = h0 m 23 ∧ wr S.1 ∧ co S.1 (p + 1) ∧ S.1 1 = p ∧ 0 ≤ p ∧ p < 8
theorem wr.z {R : Nat → Int} (w : wr R) : rz R := by
  have a := w 0 (by omega)
  have b := w 1 (by omega)
  exact ⟨a.1, a.2, b.1, b.2⟩
theorem pHT_r {S : VS} {k : Int} (w : wr S.1) (e : pHT S = .inr k) : 0 ≤ k ∧ k < S.1 0 ∧ k < 6 := by
  have hp := pF_rg S.1 S.2.1 (hd S.2.2).2.2 w.z
  unfold pHT at e
  split at e
  · split at e
    · cases e
    · next c =>
      cases e
      omega
  · cases e
/-- what a body of the loop leaves -/
theorem body187 {h0 : am_H} {p k v : Int} {S : VS} {K : PE VS → Prop} (hY : am_at Y m am_L12) (hc : MC h0 m s n lim) (hS : pLS h0 h m s n lim p S) (hk : 0 ≤ k ∧ k < S.1 0 ∧ k < 6) (E : PE VS → PE VS) (hE : ∀ q, E (.inl q) = .inl q)
    (hv : (v = 0 ∧ ¬ hb (S.1 (85 + p).toNat) k) ∨ v = 1)
    (ih : ∀ h1 (S1 : VS), pLS h0 h1 m s n lim p S1 → S1.2.2.length ≤ S.2.2.length → aw_Md_readPerson_98 (d + 4) Y m p h1 (am_qI (rL h0 m s n lim (E (.inr S1))))) :
    aw_Md_readPerson_187 (d + 4) Y m p v k h (am_qI (rL h0 m s n lim (E (if v = 1 then pNum (S.1, S.2.1, nx S.2.2) 1 99 (35 + 6 * p + k) else .inr (pNeed S.1 p k, S.2.1, nx S.2.2))))) := by
  obtain ⟨⟨a3, a7, hr⟩, F, G, w, c, e1, hp⟩ := hS
  have nl : ∀ r : List TK, (nx r).length ≤ r.length := fun r => by
    match r with
    | [] => exact Nat.le_refl _
    | [_] => exact Nat.le_refl _
    | _ :: _ :: _ => simp [nx]
  refine ab_Md_readPerson_187 hY ⟨fun v0 => ?_, fun v0 => ?_⟩
  · have hn : ¬ hb (S.1 (85 + p).toNat) k := by
      rcases hv with hv | hv
      · exact hv.2
      · omega
    rw [if_neg (by omega)]
    have h2 := c.lt w hp ⟨hk.1, hk.2.2⟩ hn
    have hn1 : ∀ h1 : am_H, h1 = am_u h (m + 3) (85 + p).toNat (am_or (h (m + 3) (85 + p).toNat) (am_shl 1 k)) → h1 (m + 3) 2 = S.1 2 := fun h1 e => by rw [e, am_u_j (by omega), a3]
    refine ⟨⟨by omega, by omega⟩, ⟨by omega, by omega⟩, ⟨by omega, by omega⟩, fun h1 x1 => ?_⟩
    have y1 : h1 (m + 3) 2 = S.1 2 := hn1 h1 x1
    refine ⟨⟨by omega, by omega⟩, ⟨by omega, by omega⟩, ⟨by omega, by omega⟩, fun h2' x2 => ?_⟩
    have y2 : h2' (m + 3) 2 = S.1 2 := by rw [x2, am_u_j (by omega), y1]
    refine ⟨⟨by omega, by omega⟩, ⟨by omega, by omega⟩, ⟨by omega, by omega⟩, ⟨by omega, by omega⟩, fun h3 x3 => ?_⟩
    have y3 : h3 (m + 3) 2 = S.1 2 := by rw [x3, am_u_j (by omega), y2]
    refine ⟨⟨by omega, by omega⟩, fun h4 x4 => ?_⟩
    have R4 : h4 (m + 3) = pNeed S.1 p k := by
      rw [x4, y3, am_u_up, x3, y2, am_u_up, x2, y1, am_u_up, x1, am_u_up, a3]
      rfl
    have f4 : mFr h h4 m := by
      have f1 : mFr h h1 m := x1 ▸ mFr.u3
      have f2 : mFr h1 h2' m := x2 ▸ mFr.u3
      have f3 : mFr h2' h3 m := x3 ▸ mFr.u3
      have f4 : mFr h3 h4 m := x4 ▸ mFr.u3
      exact f1.trans (f2.trans (f3.trans f4))
    have m4 : h4 m = h m := by
      rw [x4, am_u_n _ _ _ _ _ (by omega), x3, am_u_n _ _ _ _ _ (by omega), x2, am_u_n _ _ _ _ _ (by omega), x1, am_u_n _ _ _ _ _ (by omega)]
    have N4 : h4 (m + 7) = S.2.1 := by
      rw [x4, am_u_n _ _ _ _ _ (by omega), x3, am_u_n _ _ _ _ _ (by omega), x2, am_u_n _ _ _ _ _ (by omega), x1, am_u_n _ _ _ _ _ (by omega), a7]
    have F4 := F.trans f4
    refine goK hY (hc.fr F4) (hr.but fun j _ _ _ _ => by rw [m4]) (by omega) ?_
    intro h5 f5 _ r5
    refine ih h5 _ ⟨⟨(f5.1 _ (by omega)).trans R4, (f5.1 _ (by omega)).trans N4, r5⟩, F4.trans f5.r, ?_, pNeed_wr w h2 hp ⟨hk.1, hk.2.2⟩ hn, pNeed_co c w h2 hp (by omega) ⟨hk.1, hk.2.2⟩ hk.2.1 hn, ?_, hp⟩ (nl _)
    · rw [f5.2 23 (by omega), m4, G]
    · exact (pNeed_n h2 hp (by omega) (by omega) (by omega) (by omega)).trans e1
  · have v1 : v = 1 := by
      rcases hv with hv | hv
      · omega
      · exact hv
    rw [if_pos v1]
    refine goK hY (hc.fr F) hr (by omega) ?_
    intro h7 f7 _ r7
    have F7 := F.trans f7.r
    have G7 : h7 m 23 = h0 m 23 := (f7.2 23 (by omega)).trans G
    refine numK hY (hc.fr F7) r7 (by omega) ?_
    intro x8 h8 f8 o8
    have F8 := F7.trans f8.r
    have G8 : h8 m 23 = h0 m 23 := (f8.2 23 (by omega)).trans G7
    cases hB : pN (nx S.2.2) 1 99 with
    | inl b =>
      rw [hB] at o8
      obtain ⟨rfl, o5, o6⟩ := o8
      refine ⟨fun z => absurd rfl z, fun _ => ?_⟩
      rw [am_qI_s, pNum_l (by exact hB), hE]
      exact ⟨F8, G8, rfl, o5, o6⟩
    | inr B =>
      rw [hB] at o8
      obtain ⟨rfl, o5, br⟩ := o8
      rw [pNum_r (by exact hB)]
      have hB2 : B.2 = nx (nx S.2.2) ∧ 1 ≤ B.1 ∧ B.1 ≤ 99 := by
        unfold pN at hB
        split at hB
        · split at hB
          · next cc => cases hB; exact ⟨rfl, cc⟩
          · cases hB
        · cases hB
      refine ⟨fun _ => ⟨⟨by omega, by omega⟩, ⟨by omega, by omega⟩, ⟨by omega, by omega⟩, ⟨by omega, by omega⟩, fun h9 e9 => ?_⟩, fun z => absurd z (by decide)⟩
      have ej : wlo (35 + 6 * p + k).toNat = 0 ∧ whi (35 + 6 * p + k).toNat = 99 := by
        unfold wlo whi
        refine ⟨if_neg (by omega), ?_⟩
        rw [if_neg (by omega), if_neg (by omega), if_neg (by omega), if_neg (by omega), if_neg (by omega), if_neg (by omega), if_neg (by omega), if_pos (by omega)]
      refine ih h9 _ ⟨⟨?_, ?_, ?_⟩, F8.trans (e9 ▸ mFr.u3), (by rw [e9]; exact am_u_o (by omega) : h9 m 23 = h8 m 23).trans G8, wr_up w (by rw [ej.1, ej.2]; omega), c.same (w 2 (by omega)).2 (Int.le_of_eq (up_n (by omega)).symm) (Int.le_refl _) (fun i hi => up_n (by omega)), ?_, hp⟩ ?_
      · rw [e9, am_u_up, f8.1 _ (by omega), f7.1 _ (by omega), a3, o5]
      · rw [e9, am_u_n _ _ _ _ _ (by omega), f8.1 _ (by omega), f7.1 _ (by omega), a7]
      · exact br.but fun j _ _ _ _ => by rw [e9]; exact am_u_o (by omega)
      · exact (up_n (by omega)).trans e1
      · show B.2.length ≤ _
        rw [hB2.1]
        exact Nat.le_trans (nl _) (nl _)
end

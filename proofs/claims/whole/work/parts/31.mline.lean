/-! contracts: the reference's reader of a village's line -/
def pSem (S : VS) : PE VS := if (hd S.2.2).1 = 26 then .inr (S.1, S.2.1, nx S.2.2) else pb S.2.2 1
def pTail (g : Int) (e : PE VS) : PE (Int × VS) := pbd e fun A => pbd (pSem A) fun B => .inr (g, B)
def pWord (had : Int) (S : VS) (w : Int) : PE (Int × VS) := if w = 0 then pTail had (pHelp S) else if w = 1 then pTail had (pPerson S) else if w = 2 then pTail had (pTie S 95) else if w = 3 then pTail had (pTie S 160) else pTail (am_or had (am_shl 1 w)) (pOnce had S w)
def pLine (had : Int) (S : VS) : PE (Int × VS) := if (hd S.2.2).1 = 0 then pWord had S 0 else if (hd S.2.2).1 = 1 then pWord had S 1 else if 4 ≤ (hd S.2.2).1 ∧ (hd S.2.2).1 ≤ 8 then pWord had S ((hd S.2.2).1 - 2) else pb S.2.2 1
section
variable {d : Nat} {Y : am_Y} {h : am_H} {m : Nat} {s : Nat → Int} {n lim : Nat} {r : List TK}
def lnQ (h : am_H) (m : Nat) (s : Nat → Int) (n lim : Nat) (e : PE (Int × VS)) : Option am_V → am_H → Prop := am_qI (fun x h1 => mFr h h1 m ∧ ro h1 m x e (fun B => rS h1 m s n lim B.2 ∧ h1 m 23 = B.1))
theorem tailK {h2 : am_H} {x g : Int} {e : PE VS} (hY : am_at Y m am_L12) (hc : MC h m s n lim) (F : mFr h h2 m) (o : ro h2 m x e (fun S1 => rS h2 m s n lim S1 ∧ h2 m 23 = g)) :
    (x = 0 → lnQ h m s n lim (pTail g e) (some (.inl 0)) h2) ∧ (¬ x = 0 → am_kI am_Md_readEnd (d + 5) Y [.inr (.inr m)] h2 (fun v4 h3 => (v4 = 0 → lnQ h m s n lim (pTail g e) (some (.inl 0)) h3) ∧ (¬ v4 = 0 → lnQ h m s n lim (pTail g e) (some (.inl 1)) h3))) := by
  cases e with
  | inl q =>
    obtain ⟨rfl, o1, o2⟩ := o
    refine ⟨fun _ => ?_, fun z => absurd rfl z⟩
    unfold lnQ
    rw [am_qI_s]
    exact ⟨F, rfl, o1, o2⟩
  | inr S =>
    obtain ⟨rfl, ⟨a3, a7, hr⟩, g2⟩ := o
    refine ⟨fun z => absurd z (by decide), fun _ => am_kI.of (ac_m_readEnd (d := 0) hY (hc.fr F) hr) (by omega) ?_⟩
    rintro x h3 - - ⟨f3, o3⟩
    have F3 := F.trans f3.r
    unfold lnQ
    by_cases c : (hd S.2.2).1 = 26
    · rw [if_pos c] at o3
      obtain ⟨rfl, r3⟩ := o3
      refine ⟨fun z => absurd z (by decide), fun _ => ?_⟩
      have e : pTail g (.inr S) = .inr (g, (S.1, S.2.1, nx S.2.2)) := by
        show pbd (pSem S) _ = _
        unfold pSem
        rw [if_pos c]
        rfl
      rw [am_qI_s, e]
      exact ⟨F3, rfl, ⟨(f3.1 _ (by omega)).trans a3, (f3.1 _ (by omega)).trans a7, r3⟩, (f3.2 23 (by omega)).trans g2⟩
    · rw [if_neg c] at o3
      obtain ⟨rfl, o4, o5⟩ := o3
      refine ⟨fun _ => ?_, fun z => absurd rfl z⟩
      have e : pTail g (.inr S) = pb S.2.2 1 := by
        show pbd (pSem S) _ = _
        unfold pSem
        rw [if_neg c]
        rfl
      rw [am_qI_s, e]
      exact ⟨F3, rfl, o4, o5⟩
theorem rL.o {h2 : am_H} {x : Int} {e : PE VS} (k : rL h m s n lim e x h2) : ro h2 m x e (fun S1 => rS h2 m s n lim S1 ∧ h2 m 23 = h m 23) := by
  obtain ⟨-, g, o⟩ := k
  cases e with
  | inl q => exact o
  | inr S => exact ⟨o.1, o.2, g⟩
theorem at22 {w : Int} (hY : am_at Y m am_L12) (hc : MC h m s n lim) (hr : M0 h m s n lim r) (hw : wr (h (m + 3))) (c : co (h (m + 3)) (h (m + 3) 1)) (hl : r.length ≤ 1000) (h06 : 0 ≤ w ∧ w ≤ 6) : aw_Md_readLine_22 (d + 5) Y m w h (lnQ h m s n lim (pWord (h m 23) (h (m + 3), h (m + 7), r) w)) := by
  refine ab_Md_readLine_22 hY ⟨fun _ => ⟨fun w0 => ⟨fun w1 => ⟨fun w2 => ⟨fun w3 => am_kI.of (ac_m_readOnce (d := 0) hY hc hr (by omega)) (by omega) ?_, fun w3 => am_kI.of (ac_m_readTie (d := 0) hY hc hr hw.z (by omega)) (by omega) ?_⟩, fun w2 => am_kI.of (ac_m_readTie (d := 0) hY hc hr hw.z (by omega)) (by omega) ?_⟩, fun w1 => am_kI.of (ac_m_readPerson (d := 0) hY hc hr hw c hl) (by omega) ?_⟩, fun w0 => am_kI.of (ac_m_readHelp (d := 0) hY hc hr hw.z) (by omega) ?_⟩, fun z => by omega⟩
  · rintro x h2 - - ⟨F, o⟩
    have e : pWord (h m 23) (h (m + 3), h (m + 7), r) w = pTail (am_or (h m 23) (am_shl 1 w)) (pOnce (h m 23) (h (m + 3), h (m + 7), r) w) := by
      unfold pWord
      rw [if_neg w0, if_neg w1, if_neg w2, if_neg w3]
    rw [e]
    exact tailK (d := d) hY hc F o
  · rintro x h2 - - k
    have e : pWord (h m 23) (h (m + 3), h (m + 7), r) w = pTail (h m 23) (pTie (h (m + 3), h (m + 7), r) 160) := by
      unfold pWord
      rw [if_neg w0, if_neg w1, if_neg w2, if_pos w3]
    rw [e]
    exact tailK (d := d) hY hc k.1 k.o
  · rintro x h2 - - k
    have e : pWord (h m 23) (h (m + 3), h (m + 7), r) w = pTail (h m 23) (pTie (h (m + 3), h (m + 7), r) 95) := by
      unfold pWord
      rw [if_neg w0, if_neg w1, if_pos w2]
    rw [e]
    exact tailK (d := d) hY hc k.1 k.o
  · rintro x h2 - - k
    have e : pWord (h m 23) (h (m + 3), h (m + 7), r) w = pTail (h m 23) (pPerson (h (m + 3), h (m + 7), r)) := by
      unfold pWord
      rw [if_neg w0, if_pos w1]
    rw [e]
    exact tailK (d := d) hY hc k.1 k.o
  · rintro x h2 - - k
    have e : pWord (h m 23) (h (m + 3), h (m + 7), r) w = pTail (h m 23) (pHelp (h (m + 3), h (m + 7), r)) := by
      unfold pWord
      rw [if_pos w0]
    rw [e]
    exact tailK (d := d) hY hc k.1 k.o
def lnW (w : Int) : Int := if w ≤ 1 then w else w + 2
theorem lnW_e {w : Int} (h : 0 ≤ w ∧ w ≤ 6) : ((mW.getD w.toNat 23 : Nat) : Int) = lnW w := by
  have t : ∀ i : Nat, i ≤ 6 → ((mW.getD i 23 : Nat) : Int) = lnW (i : Int) := by decide
  have := t w.toNat (by omega)
  rw [this, show ((w.toNat : Nat) : Int) = w by omega]
theorem ac_m_readLine (hY : am_at Y m am_L12) (hc : MC h m s n lim) (hr : M0 h m s n lim r) (hw : wr (h (m + 3))) (c : co (h (m + 3)) (h (m + 3) 1)) (hl : r.length ≤ 1000) : am_cI am_Md_readLine (d + 5) Y [.inr (.inr m)] h (fun x h1 => mFr h h1 m ∧ ro h1 m x (pLine (h m 23) (h (m + 3), h (m + 7), r)) (fun B => rS h1 m s n lim B.2 ∧ h1 m 23 = B.1)) := by
  have hk := hr.hd.1.1
  refine am_Met.of (by decide) rfl (Nat.le_of_ble_eq_true rfl) (ab_Md_readLine_0 hY ?_)
  refine am_up (fun i => 0 ≤ i → i ≤ 7 → (∀ j : Int, 0 ≤ j → j < i → (hd r).1 ≠ lnW j) → aw_Md_readLine_2 (d + 5) Y m i h (lnQ h m s n lim (pLine (h m 23) (h (m + 3), h (m + 7), r)))) 7 ?_ ?_ 0 (by omega) (by omega) (fun j h0 h1 => by omega)
  · intro i hi i0 i7 hn
    refine ab_Md_readLine_2 hY ⟨fun _ => ab_Md_readLine_22 hY ⟨fun z => by omega, fun _ => badK hY hr (by omega) ?_⟩, fun z => by omega⟩
    intro h1 f1 e10 e11
    have n0 := hn 0 (by omega) (by omega)
    have n1 := hn 1 (by omega) (by omega)
    have n2 := hn 2 (by omega) (by omega)
    have n3 := hn 3 (by omega) (by omega)
    have n4 := hn 4 (by omega) (by omega)
    have n5 := hn 5 (by omega) (by omega)
    have n6 := hn 6 (by omega) (by omega)
    unfold lnW at n0 n1 n2 n3 n4 n5 n6
    refine ⟨f1.r, ?_⟩
    unfold pLine
    show ro h1 m 0 (if (hd r).1 = 0 then _ else if (hd r).1 = 1 then _ else if 4 ≤ (hd r).1 ∧ (hd r).1 ≤ 8 then _ else _) _
    rw [if_neg (by simpa using n0), if_neg (by simpa using n1), if_neg (by simp at n2 n3 n4 n5 n6; omega)]
    exact ⟨rfl, e10, e11⟩
  · intro i hi ih i0 i7 hn
    refine ab_Md_readLine_2 hY ⟨fun z => by omega, fun _ => wordK hY hr ⟨by omega, by omega⟩ (by omega) ?_⟩
    rw [lnW_e ⟨i0, by omega⟩]
    by_cases e : (hd r).1 = lnW i
    · rw [if_pos e]
      refine ⟨fun _ => ?_, fun z => absurd z (by decide)⟩
      have ep : pLine (h m 23) (h (m + 3), h (m + 7), r) = pWord (h m 23) (h (m + 3), h (m + 7), r) i := by
        unfold lnW at e
        unfold pLine
        show (if (hd r).1 = 0 then _ else if (hd r).1 = 1 then _ else if 4 ≤ (hd r).1 ∧ (hd r).1 ≤ 8 then _ else _) = _
        by_cases c1 : i ≤ 1
        · rw [if_pos c1] at e
          by_cases c0 : i = 0
          · rw [if_pos (by omega), c0]
          · rw [if_neg (by omega), if_pos (by omega), show i = 1 by omega]
        · rw [if_neg c1] at e
          rw [if_neg (by omega), if_neg (by omega), if_pos (by omega), show (hd (h (m + 3), h (m + 7), r).2.2).1 - 2 = i by simp only; omega]
      rw [ep]
      exact at22 (d := d) hY hc hr hw c hl ⟨i0, by omega⟩
    · rw [if_neg e]
      refine ⟨fun z => absurd rfl z, fun _ => ⟨⟨by omega, by omega⟩, ih (by omega) (by omega) fun j j0 j1 => ?_⟩⟩
      by_cases ej : j = i
      · rw [ej]; exact e
      · exact hn j j0 (by omega)
end

/-! contracts: what the reference's readers ask of the token here -/
def MC (h : am_H) (m : Nat) (s : Nat → Int) (n lim : Nat) : Prop := h m 3 = (n : Int) ∧ h m 4 = (lim : Int) ∧ n ≤ 940 ∧ su s (h (m + 1)) n
theorem MC.go {h h1 : am_H} {m : Nat} {s : Nat → Int} {n lim : Nat} (c : MC h m s n lim) (g : mgo h h1 m) : MC h1 m s n lim := by
  obtain ⟨c1, c2, c3, c4⟩ := c
  refine ⟨(g.2 3 (by omega) (by omega) (by omega) (by omega) (by omega) (by omega)).trans c1, (g.2 4 (by omega) (by omega) (by omega) (by omega) (by omega) (by omega)).trans c2, c3, ?_⟩
  rw [g.1 (m + 1) (by omega)]
  exact c4
/-- the words' numbers in the reference, as the class numbers them -/
def mW : List Nat := [0, 1, 4, 5, 6, 7, 8, 2, 3, 9, 10, 11, 12, 13, 14, 15, 16, 17, 18, 19, 20, 21, 22, 23]
def mWd (k : Int) : Int := lxK.getD (mW.getD k.toNat 23) 0
theorem lxk_iff (w : Int) (j : Nat) (hj : j < 24) : lxk w = (j : Int) ↔ w = lxK.getD j 0 := by
  have hl : lxK.length = 24 := by decide +kernel
  have hn : lxK.Nodup := by decide +kernel
  unfold lxk
  constructor
  · intro e
    split at e
    · next c =>
      have e2 : lxK.idxOf w = j := by omega
      have h1 : lxK.idxOf w < lxK.length := List.idxOf_lt_length_iff.mpr c
      have h2 : lxK[lxK.idxOf w] = w := List.getElem_idxOf h1
      subst e2
      rw [List.getD_eq_getElem?_getD, List.getElem?_eq_getElem h1]
      simpa using h2.symm
    · omega
  · intro e
    have hj2 : j < lxK.length := by omega
    have e2 : w = lxK[j] := by
      rw [e, List.getD_eq_getElem?_getD, List.getElem?_eq_getElem hj2]
      rfl
    rw [e2, if_pos (List.getElem_mem hj2), hn.idxOf_getElem]
theorem lxk_24 (w : Int) : lxk w = 24 ↔ ∀ j : Nat, j < 24 → w ≠ lxK.getD j 0 := by
  constructor
  · intro e j hj ew
    have := (lxk_iff w j hj).mpr ew
    omega
  · intro e
    have hr := lxk_rg w
    by_cases c : lxk w = 24
    · exact c
    · exfalso
      have h2 : lxk w = (((lxk w).toNat : Nat) : Int) := by omega
      exact e (lxk w).toNat (by omega) ((lxk_iff w (lxk w).toNat (by omega)).mp h2)
section
variable {d : Nat} {Y : am_Y} {h : am_H} {m : Nat}
def mSp (a b c e : Int) : Int := if 0 < e then 27 * (if 0 < c then 27 * (27 * (a - 96) + b - 96) + c - 96 else 27 * (a - 96) + b - 96) + e - 96 else (if 0 < c then 27 * (27 * (a - 96) + b - 96) + c - 96 else 27 * (a - 96) + b - 96)
def mOn (v a b : Int) : Int := if 0 < b then 27 * (27 * v + a - 96) + b - 96 else 27 * v + a - 96
theorem ac_m_spelt {a b c e : Int} (ha : 0 ≤ a ∧ a < 256) (hb : 0 ≤ b ∧ b < 256) (hc : 0 ≤ c ∧ c < 256) (he : 0 ≤ e ∧ e < 256) : am_cJ am_Md_spelt d Y [.inl a, .inl b, .inl c, .inl e] h (fun r h1 => h1 = h ∧ r = mSp a b c e) := by
  refine am_Met.of (by decide) rfl (Nat.le_of_ble_eq_true rfl) (ab_Md_spelt_0 ?_)
  simp only [am_qJ_s]
  unfold am_rl mSp
  rcases Int.lt_or_le 0 c with hc0 | hc0 <;> rcases Int.lt_or_le 0 e with he0 | he0
  · simp only [if_pos hc0, if_pos he0]
    grind (splits := 60)
  · simp only [if_pos hc0, if_neg (show ¬ 0 < e by omega)]
    grind
  · simp only [if_neg (show ¬ 0 < c by omega), if_pos he0]
    grind
  · simp only [if_neg (show ¬ 0 < c by omega), if_neg (show ¬ 0 < e by omega)]
    grind
theorem ac_m_on {v a b : Int} (hv : -100000000 ≤ v ∧ v ≤ 100000000) (ha : 0 ≤ a ∧ a < 256) (hb : 0 ≤ b ∧ b < 256) : am_cJ am_Md_on d Y [.inr (.inl v), .inl a, .inl b] h (fun r h1 => h1 = h ∧ r = mOn v a b) := by
  refine am_Met.of (by decide) rfl (Nat.le_of_ble_eq_true rfl) (ab_Md_on_0 ?_)
  simp only [am_qJ_s]
  unfold am_rl mOn
  grind
theorem ac_m_wordOf {k : Int} (hk : 0 ≤ k ∧ k ≤ 23) : am_cJ am_Md_wordOf (d + 1) Y [.inl k] h (fun r h1 => h1 = h ∧ r = mWd k) := by
  have sp : ∀ (a b c e : Int) (K : Int → am_H → Prop), 0 ≤ a ∧ a < 256 → 0 ≤ b ∧ b < 256 → 0 ≤ c ∧ c < 256 → 0 ≤ e ∧ e < 256 → K (mSp a b c e) h → am_kJ am_Md_spelt (d + 1) Y [.inl a, .inl b, .inl c, .inl e] h K := fun a b c e K ha hb hc he hK =>
    am_kJ.of (ac_m_spelt (d := d) ha hb hc he) (by omega) (by rintro x h1 - - ⟨rfl, rfl⟩; exact hK)
  have on : ∀ (v a b : Int) (K : Int → am_H → Prop), -100000000 ≤ v ∧ v ≤ 100000000 → 0 ≤ a ∧ a < 256 → 0 ≤ b ∧ b < 256 → K (mOn v a b) h → am_kJ am_Md_on (d + 1) Y [.inr (.inl v), .inl a, .inl b] h K := fun v a b K hv ha hb hK =>
    am_kJ.of (ac_m_on (d := d) hv ha hb) (by omega) (by rintro x h1 - - ⟨rfl, rfl⟩; exact hK)
  have s1 : ∀ (a b c e r : Int), k = r → 0 ≤ a ∧ a < 256 → 0 ≤ b ∧ b < 256 → 0 ≤ c ∧ c < 256 → 0 ≤ e ∧ e < 256 → mSp a b c e = mWd r → am_kJ am_Md_spelt (d + 1) Y [.inl a, .inl b, .inl c, .inl e] h (fun v2 h1 => (am_qJ (fun r h1 => h1 = h ∧ r = mWd k)) (some (.inr (.inl v2))) h1) := fun a b c e r er ha hb hc he e1 =>
    sp a b c e _ ha hb hc he (by rw [am_qJ_s, er]; exact ⟨rfl, e1⟩)
  have s2 : ∀ (a b c e f g r : Int), k = r → 0 ≤ a ∧ a < 256 → 0 ≤ b ∧ b < 256 → 0 ≤ c ∧ c < 256 → 0 ≤ e ∧ e < 256 → -100000000 ≤ mSp a b c e ∧ mSp a b c e ≤ 100000000 → 0 ≤ f ∧ f < 256 → 0 ≤ g ∧ g < 256 → mOn (mSp a b c e) f g = mWd r → am_kJ am_Md_spelt (d + 1) Y [.inl a, .inl b, .inl c, .inl e] h (fun v2 h1 => am_kJ am_Md_on (d + 1) Y [.inr (.inl v2), .inl f, .inl g] h1 (fun v4 h3 => (am_qJ (fun r h1 => h1 = h ∧ r = mWd k)) (some (.inr (.inl v4))) h3)) := fun a b c e f g r er ha hb hc he hm hf hg e1 =>
    sp a b c e _ ha hb hc he (on _ f g _ hm hf hg (by rw [am_qJ_s, er]; exact ⟨rfl, e1⟩))
  refine am_Met.of (by decide) rfl (Nat.le_of_ble_eq_true rfl) (ab_Md_wordOf_0 ?_)
  refine ⟨fun c => ?_, fun e => ?_, fun e => ?_, fun e => ?_, fun e => ?_, fun e => ?_, fun e => ?_, fun e => ?_, fun e => ?_, fun e => ?_, fun e => ?_, fun e => ?_, fun e => ?_, fun e => ?_, fun e => ?_, fun e => ?_, fun e => ?_, fun e => ?_, fun e => ?_, fun e => ?_, fun e => ?_, fun e => ?_, fun e => ?_, fun e => ?_⟩
  · exact s2 _ _ _ _ _ _ 23 (by omega) (by decide) (by decide) (by decide) (by decide) (by decide +kernel) (by decide) (by decide) (by decide +kernel)
  all_goals first
    | exact s1 _ _ _ _ _ e (by decide) (by decide) (by decide) (by decide) (by decide +kernel)
    | exact s2 _ _ _ _ _ _ _ e (by decide) (by decide) (by decide) (by decide) (by decide +kernel) (by decide) (by decide) (by decide +kernel)
/-- is it this word? -/
theorem ac_m_isWord {a : Int × Int × Int} {k : Int} (hY : am_at Y m am_L12) (hm : mK h m a) (hk : 0 ≤ k ∧ k ≤ 23) : am_cI am_Md_isWord (d + 2) Y [.inr (.inr m), .inl k] h (fun r h1 => h1 = h ∧ r = if a.1 = ((mW.getD k.toNat 23 : Nat) : Int) then 1 else 0) := by
  obtain ⟨m1, m2, m3, m4, m5, m6, m7⟩ := hm
  have hj : mW.getD k.toNat 23 < 24 := by
    have : ∀ i : Nat, i < 24 → mW.getD i 23 < 24 := by decide
    exact this _ (by omega)
  refine am_Met.of (by decide) rfl (Nat.le_of_ble_eq_true rfl) (ab_Md_isWord_0 hY ?_)
  simp only [am_qI_s]
  refine ⟨fun c => ⟨trivial, ?_⟩, fun c => am_kJ.of (ac_m_wordOf (d := d) hk) (by omega) ?_⟩
  · rw [if_neg]
    intro e
    exact c (m3 (by omega)).1
  · rintro x h1 - - ⟨rfl, rfl⟩
    by_cases h24 : a.1 ≤ 24
    · obtain ⟨-, q2, q3⟩ := m3 h24
      have hi := lxk_iff a.2.2 _ hj
      rw [← q3] at hi
      rw [q2]
      unfold mWd
      refine ⟨fun z => ⟨rfl, ?_⟩, fun z => ⟨rfl, ?_⟩, fun z => ⟨rfl, ?_⟩⟩
      · rw [if_neg (fun w => by have := hi.mp w; omega)]
      · rw [if_pos (hi.mpr z)]
      · rw [if_neg (fun w => by have := hi.mp w; omega)]
    · exfalso
      by_cases c5 : a.1 = 25
      · have := (m4 c5).1; omega
      · by_cases c6 : a.1 ≤ 31
        · have := (m5 (by omega) c6).1; omega
        · by_cases c7 : a.1 = 32
          · have := m6 c7; omega
          · have := m7 (by omega); omega
theorem mK_7 {a : Int × Int × Int} (hm : mK h m a) : (h m 7 = 2 ↔ a.1 ≤ 24) ∧ (h m 7 = 3 ↔ a.1 = 25) ∧ (h m 7 = 4 ↔ 26 ≤ a.1 ∧ a.1 ≤ 31) ∧ (h m 7 = 0 ↔ a.1 = 32) ∧ (h m 7 = 1 ↔ a.1 = 33) := by
  obtain ⟨m1, m2, m3, m4, m5, m6, m7⟩ := hm
  by_cases h24 : a.1 ≤ 24
  · have := (m3 h24).1; omega
  · by_cases c5 : a.1 = 25
    · have := (m4 c5).1; omega
    · by_cases c6 : a.1 ≤ 31
      · have := (m5 (by omega) c6).1; omega
      · by_cases c7 : a.1 = 32
        · have := m6 c7; omega
        · have := m7 (by omega); omega
theorem ac_m_isName {a : Int × Int × Int} (hY : am_at Y m am_L12) (hm : mK h m a) : am_cI am_Md_isName (d + 2) Y [.inr (.inr m)] h (fun r h1 => h1 = h ∧ r = if a.1 = 24 then 1 else 0) := by
  have h7 := mK_7 hm
  have hm' := hm
  obtain ⟨m1, m2, m3, -⟩ := hm'
  refine am_Met.of (by decide) rfl (Nat.le_of_ble_eq_true rfl) (ab_Md_isName_0 hY ⟨fun c => ?_, fun c => ?_⟩)
  · have h24 := h7.1.mp c
    obtain ⟨-, q2, q3⟩ := m3 h24
    refine am_up (fun i => 0 ≤ i → i ≤ 24 → (∀ j : Nat, (j : Int) < i → a.2.2 ≠ mWd j) → aw_Md_isName_12 (d + 2) Y m i h (am_qI _)) 24 ?_ ?_ 0 (by omega) (by omega) (fun j hj => by omega)
    · intro i hi h0 h1 hne
      refine ab_Md_isName_12 hY ?_
      simp only [am_qI_s]
      refine ⟨fun _ => ⟨trivial, ?_⟩, fun _ => by omega⟩
      rw [if_pos]
      rw [q3, lxk_24]
      intro j hj
      have hsur : ∀ j : Nat, j < 24 → ∃ i : Nat, i < 24 ∧ mW.getD i 23 = j := by decide
      obtain ⟨i', hi', ei⟩ := hsur j hj
      have := hne i' (by omega)
      unfold mWd at this
      rw [Int.toNat_natCast, ei] at this
      exact this
    · intro i hi ih h0 h1 hne
      refine ab_Md_isName_12 hY ?_
      simp only [am_qI_s]
      refine ⟨fun _ => by omega, fun _ => am_kJ.of (ac_m_wordOf (d := d) (by omega)) (by omega) ?_⟩
      rintro x h2 - - ⟨rfl, rfl⟩
      rw [q2]
      have go : a.2.2 ≠ mWd i → ∀ j : Nat, (j : Int) < i + 1 → a.2.2 ≠ mWd j := fun hn j hj => by
        by_cases e : (j : Int) = i
        · rw [e]; exact hn
        · exact hne j (by omega)
      refine ⟨fun z => ⟨⟨by omega, by omega⟩, ih (by omega) (by omega) (go (by omega))⟩, fun z => ⟨rfl, ?_⟩, fun z => ⟨⟨by omega, by omega⟩, ih (by omega) (by omega) (go (by omega))⟩⟩
      rw [if_neg]
      intro e
      rw [q3, lxk_24] at e
      have hj : mW.getD i.toNat 23 < 24 := by
        have : ∀ i : Nat, i < 24 → mW.getD i 23 < 24 := by decide
        exact this _ (by omega)
      exact e _ hj z
  · rw [am_qI_s]
    refine ⟨rfl, ?_⟩
    rw [if_neg]
    intro e
    exact c (h7.1.mpr (by omega))
theorem ac_m_isSign {a : Int × Int × Int} {c : Int} (hY : am_at Y m am_L12) (hm : mK h m a) (hc : lxg c ≠ 33) : am_cI am_Md_isSign d Y [.inr (.inr m), .inl c] h (fun r h1 => h1 = h ∧ r = if a.1 = lxg c then 1 else 0) := by
  have h7 := mK_7 hm
  have hcr := lxg_rg c
  refine am_Met.of (by decide) rfl (Nat.le_of_ble_eq_true rfl) (ab_Md_isSign_0 hY ?_)
  simp only [am_qI_s]
  refine ⟨fun z => ⟨trivial, ?_⟩, fun z => ?_⟩
  · rw [if_neg (fun e => z (h7.2.2.1.mpr (by omega)))]
  · have h9 := (hm.2.2.2.2.1 (by omega) (by omega)).2
    refine ⟨fun z2 => ⟨trivial, ?_⟩, fun z2 => ⟨trivial, ?_⟩⟩
    · rw [if_neg]
      intro e
      rw [← h9] at e
      refine z2 ?_
      -- signs of one kind are one sign
      have inj : ∀ x y : Int, lxg x = lxg y → lxg y ≠ 33 → x = y := by
        intro x y
        unfold lxg
        grind (splits := 40)
      exact inj _ _ e hc
    · rw [if_pos]
      rw [← h9, z2]
/-- a fault is told -/
def mBad (h h1 : am_H) (m : Nat) (f : Int) : Prop := h1 m 10 = f ∧ h1 m 11 = h m 6 ∧ (∀ q, q ≠ m → h1 q = h q) ∧ ∀ j, j ≠ 10 → j ≠ 11 → h1 m j = h m j
theorem ac_m_bad {a : Int × Int × Int} {k : Int} (hY : am_at Y m am_L12) (hm : mK h m a) : am_cI am_Md_bad d Y [.inr (.inr m), .inl k] h (fun r h1 => r = 0 ∧ mBad h h1 m (if a.1 = 33 then 1 else k)) := by
  have h7 := mK_7 hm
  refine am_Met.of (by decide) rfl (Nat.le_of_ble_eq_true rfl) (ab_Md_bad_0 hY ?_)
  simp only [am_qI_s]
  refine ⟨fun c h1 e1 h2 e2 => ⟨trivial, ?_⟩, fun c h1 e1 h2 e2 => ⟨trivial, ?_⟩⟩
  · rw [if_neg (fun e => c (h7.2.2.2.2.mpr e))]
    refine ⟨by rw [e2, am_u_j (by omega), e1, am_u_s], by rw [e2, am_u_s, e1, am_u_j (by omega)], fun q hq => by rw [e2, am_u_n _ _ _ _ q hq, e1, am_u_n _ _ _ _ q hq], fun j j10 j11 => by rw [e2, am_u_j j11, e1, am_u_j j10]⟩
  · rw [if_pos (h7.2.2.2.2.mp c)]
    refine ⟨by rw [e2, am_u_j (by omega), e1, am_u_s], by rw [e2, am_u_s, e1, am_u_j (by omega)], fun q hq => by rw [e2, am_u_n _ _ _ _ q hq, e1, am_u_n _ _ _ _ q hq], fun j j10 j11 => by rw [e2, am_u_j j11, e1, am_u_j j10]⟩
/-- the next token -/
theorem ac_m_next {s : Nat → Int} {n lim : Nat} {r : List (Int × Int × Int)} (hY : am_at Y m am_L12) (hc : MC h m s n lim) (hr : MR h m s n lim r) : am_cV am_Md_go (d + 1) Y [.inr (.inr m)] h (fun h1 => MR h1 m s n lim (nx r) ∧ mgo h h1 m) := by
  obtain ⟨a, l, -, -, -, p, p5, pn, pe⟩ := hr
  rw [← pe]
  exact ac_m_go hY hc.1 hc.2.1 p5 pn hc.2.2.1 hc.2.2.2
end

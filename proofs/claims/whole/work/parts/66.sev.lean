/-! what a sentence says of one person -/
def sCm (v y s : Int) : Prop := (s = 60 ∧ v < y) ∨ (s = 61 ∧ v = y) ∨ (s = 62 ∧ y < v)
def sEv (nl : List LN) (F : Int → Int) (fr : Prop) : Nat → Int → Prop
  | 0, _ => False
  | k + 1, i => match nl[i.toNat]? with
    | none => False
    | some n => (n.1 = 1 ∧ ¬ sEv nl F fr k n.2.1) ∨ (n.1 = 2 ∧ sEv nl F fr k n.2.1 ∧ sEv nl F fr k n.2.2.1) ∨ (n.1 = 3 ∧ (sEv nl F fr k n.2.1 ∨ sEv nl F fr k n.2.2.1)) ∨ (n.1 = 4 ∧ 0 < F 3) ∨ (n.1 = 5 ∧ fr) ∨ (n.1 = 6 ∧ sCm (F n.2.1) n.2.2.1 n.2.2.2)
section
variable {nl : List LN} {F : Int → Int} {fr : Prop}
theorem sEv_st (ok : sOK nl) : ∀ (k k' : Nat) (i : Int), 0 ≤ i → i < k → i < k' → (sEv nl F fr k i ↔ sEv nl F fr k' i)
  | 0, _, i, h0, h1, _ => by omega
  | k + 1, 0, i, h0, _, h2 => by omega
  | k + 1, k' + 1, i, h0, h1, h2 => by
    unfold sEv
    cases e : nl[i.toNat]? with
    | none => exact Iff.rfl
    | some n =>
      dsimp only
      obtain ⟨a, b, c, d⟩ := ok i.toNat n e
      have one (w : n.1 = 1) : sEv nl F fr k n.2.1 ↔ sEv nl F fr k' n.2.1 := by
        have := b w
        exact sEv_st ok k k' n.2.1 this.1 (by omega) (by omega)
      have two (w : n.1 = 2 ∨ n.1 = 3) : (sEv nl F fr k n.2.1 ↔ sEv nl F fr k' n.2.1) ∧ (sEv nl F fr k n.2.2.1 ↔ sEv nl F fr k' n.2.2.1) := by
        have := c w
        exact ⟨sEv_st ok k k' n.2.1 this.1 (by omega) (by omega), sEv_st ok k k' n.2.2.1 this.2.2.1 (by omega) (by omega)⟩
      by_cases w1 : n.1 = 1
      · rw [one w1]
        constructor <;> intro z <;> rcases z with z | z | z | z <;> first | exact Or.inl z | omega
      · by_cases w2 : n.1 = 2 ∨ n.1 = 3
        · rw [(two w2).1, (two w2).2]
        · constructor <;> intro z <;> rcases z with z | z | z | z
          all_goals first | exact Or.inr (Or.inr (Or.inr z)) | exact absurd z.1 w1 | exact absurd (Or.inl z.1) w2 | exact absurd (Or.inr z.1) w2
theorem sEv_pre (ok : sOK nl) (l : List LN) : ∀ (k : Nat) (i : Int), 0 ≤ i → i < nl.length → (sEv (nl ++ l) F fr k i ↔ sEv nl F fr k i)
  | 0, i, _, _ => Iff.rfl
  | k + 1, i, h0, h1 => by
    unfold sEv
    rw [List.getElem?_append_left (by omega)]
    cases e : nl[i.toNat]? with
    | none => exact Iff.rfl
    | some n =>
      dsimp only
      obtain ⟨a, b, c, d⟩ := ok i.toNat n e
      have one (w : n.1 = 1) : sEv (nl ++ l) F fr k n.2.1 ↔ sEv nl F fr k n.2.1 := by
        have := b w
        exact sEv_pre ok l k n.2.1 this.1 (by omega)
      have two (w : n.1 = 2 ∨ n.1 = 3) : (sEv (nl ++ l) F fr k n.2.1 ↔ sEv nl F fr k n.2.1) ∧ (sEv (nl ++ l) F fr k n.2.2.1 ↔ sEv nl F fr k n.2.2.1) := by
        have := c w
        exact ⟨sEv_pre ok l k n.2.1 this.1 (by omega), sEv_pre ok l k n.2.2.1 this.2.2.1 (by omega)⟩
      by_cases w1 : n.1 = 1
      · rw [one w1]
        constructor <;> intro z <;> rcases z with z | z | z | z <;> first | exact Or.inl z | omega
      · by_cases w2 : n.1 = 2 ∨ n.1 = 3
        · rw [(two w2).1, (two w2).2]
        · constructor <;> intro z <;> rcases z with z | z | z | z
          all_goals first | exact Or.inr (Or.inr (Or.inr z)) | exact absurd z.1 w1 | exact absurd (Or.inl z.1) w2 | exact absurd (Or.inr z.1) w2
/-- the whole list's own -/
def sV (nl : List LN) (F : Int → Int) (fr : Prop) (i : Int) : Prop := sEv nl F fr nl.length i
theorem sV_pre (ok : sOK nl) (l : List LN) (ok2 : sOK (nl ++ l)) {i : Int} (h0 : 0 ≤ i) (h1 : i < nl.length) : sV (nl ++ l) F fr i ↔ sV nl F fr i := by
  unfold sV
  rw [sEv_st ok2 (nl ++ l).length nl.length i h0 (by rw [List.length_append]; omega) h1, sEv_pre ok l nl.length i h0 h1]
theorem sV_add {n : LN} (ok : sOK nl) (ok2 : sOK (nl ++ [n])) : sV (nl ++ [n]) F fr (nl.length : Int) ↔ ((n.1 = 1 ∧ ¬ sV nl F fr n.2.1) ∨ (n.1 = 2 ∧ sV nl F fr n.2.1 ∧ sV nl F fr n.2.2.1) ∨ (n.1 = 3 ∧ (sV nl F fr n.2.1 ∨ sV nl F fr n.2.2.1)) ∨ (n.1 = 4 ∧ 0 < F 3) ∨ (n.1 = 5 ∧ fr) ∨ (n.1 = 6 ∧ sCm (F n.2.1) n.2.2.1 n.2.2.2)) := by
  have e : (nl ++ [n])[((nl.length : Int)).toNat]? = some n := by
    rw [Int.toNat_natCast, List.getElem?_append_right (Nat.le_refl _)]
    simp
  obtain ⟨a, b, c, d⟩ := ok2 _ n e
  rw [Int.toNat_natCast] at b c
  have pre (i : Int) (h0 : 0 ≤ i) (h1 : i < nl.length) : sEv (nl ++ [n]) F fr nl.length i ↔ sV nl F fr i := sEv_pre ok [n] nl.length i h0 h1
  have one (w : n.1 = 1) := pre n.2.1 (b w).1 (b w).2
  have two (w : n.1 = 2 ∨ n.1 = 3) := And.intro (pre n.2.1 (c w).1 (c w).2.1) (pre n.2.2.1 (c w).2.2.1 (c w).2.2.2)
  have len : (nl ++ [n]).length = nl.length + 1 := by rw [List.length_append]; rfl
  show sEv (nl ++ [n]) F fr (nl ++ [n]).length _ ↔ _
  rw [len]
  unfold sEv
  rw [e]
  dsimp only
  by_cases w1 : n.1 = 1
  · rw [one w1]
    constructor <;> intro z <;> rcases z with z | z | z | z <;> first | exact Or.inl z | omega
  · by_cases w2 : n.1 = 2 ∨ n.1 = 3
    · rw [(two w2).1, (two w2).2]
    · constructor <;> intro z <;> rcases z with z | z | z | z
      all_goals first | exact Or.inr (Or.inr (Or.inr z)) | exact absurd z.1 w1 | exact absurd (Or.inl z.1) w2 | exact absurd (Or.inr z.1) w2
end
/-- bits of those of whom it is said -/
def sBits (B P : Int) (F : Nat → Int → Int) (fr : Nat → Prop) (nl : List LN) (i : Int) : Prop := by8 B ∧ ∀ p : Nat, p < 8 → (hb B (p : Int) ↔ (p : Int) < P ∧ sV nl (F p) (fr p) i)
section
variable {A B P : Int} {F : Nat → Int → Int} {fr : Nat → Prop} {nl : List LN}
theorem sBits.pre {l : List LN} {i : Int} (b : sBits B P F fr nl i) (ok : sOK nl) (ok2 : sOK (nl ++ l)) (h0 : 0 ≤ i) (h1 : i < nl.length) : sBits B P F fr (nl ++ l) i :=
  ⟨b.1, fun p hp => by rw [b.2 p hp, sV_pre ok l ok2 h0 h1]⟩
theorem bit_all (b : by8 B) (c : ∀ k : Nat, k < 8 → by8 A ∧ (hb A (k : Int) ↔ hb B (k : Int))) : by8 A := (c 0 (by omega)).1
theorem sBits.no {i : Int} (b : sBits B P F fr nl i) (ok : sOK nl) (hP : 0 ≤ P ∧ P ≤ 8) (h0 : 0 ≤ i) (h1 : i < nl.length) : sBits (am_and (am_shl 1 P - 1) (am_xor B (-1))) P F fr (nl ++ [(1, i, 0, 0)]) (nl.length : Int) := by
  have al := all_b hP
  refine ⟨(hb_not (k := 0) al.1 b.1 (by omega)).1, fun p hp => ?_⟩
  rw [(hb_not (k := p) al.1 b.1 (by omega)).2, al.2 p hp, b.2 p hp, sV_add ok (sOK_one ok h0 h1)]
  dsimp only
  constructor
  · intro z
    exact ⟨z.1, Or.inl ⟨rfl, fun w => z.2 ⟨z.1, w⟩⟩⟩
  · rintro ⟨z, w⟩
    rcases w with w | w | w | w | w | w
    · exact ⟨z, fun q => w.2 q.2⟩
    all_goals exact absurd w.1 (by decide)
theorem sBits.an {i j : Int} (a : sBits A P F fr nl i) (b : sBits B P F fr nl j) (ok : sOK nl) (h0 : 0 ≤ i) (h1 : i < nl.length) (g0 : 0 ≤ j) (g1 : j < nl.length) : sBits (am_and A B) P F fr (nl ++ [(2, i, j, 0)]) (nl.length : Int) := by
  refine ⟨(hb_and (k := 0) a.1 b.1 (by omega)).1, fun p hp => ?_⟩
  rw [(hb_and (k := p) a.1 b.1 (by omega)).2, a.2 p hp, b.2 p hp, sV_add ok (sOK_two ok (by omega) h0 h1 g0 g1)]
  dsimp only
  constructor
  · intro z
    exact ⟨z.1.1, Or.inr (Or.inl ⟨rfl, z.1.2, z.2.2⟩)⟩
  · rintro ⟨z, w⟩
    rcases w with w | w | w | w | w | w
    · exact absurd w.1 (by decide)
    · exact ⟨⟨z, w.2.1⟩, z, w.2.2⟩
    all_goals exact absurd w.1 (by decide)
theorem sBits.or {i j : Int} (a : sBits A P F fr nl i) (b : sBits B P F fr nl j) (ok : sOK nl) (h0 : 0 ≤ i) (h1 : i < nl.length) (g0 : 0 ≤ j) (g1 : j < nl.length) : sBits (am_or A B) P F fr (nl ++ [(3, i, j, 0)]) (nl.length : Int) := by
  refine ⟨(hb_or8 (k := 0) a.1 b.1 (by omega)).1, fun p hp => ?_⟩
  rw [(hb_or8 (k := p) a.1 b.1 (by omega)).2, a.2 p hp, b.2 p hp, sV_add ok (sOK_two ok (by omega) h0 h1 g0 g1)]
  dsimp only
  constructor
  · rintro (z | z)
    · exact ⟨z.1, Or.inr (Or.inr (Or.inl ⟨rfl, Or.inl z.2⟩))⟩
    · exact ⟨z.1, Or.inr (Or.inr (Or.inl ⟨rfl, Or.inr z.2⟩))⟩
  · rintro ⟨z, w⟩
    rcases w with w | w | w | w | w | w
    · exact absurd w.1 (by decide)
    · exact absurd w.1 (by decide)
    · rcases w.2 with w | w
      · exact Or.inl ⟨z, w⟩
      · exact Or.inr ⟨z, w⟩
    all_goals exact absurd w.1 (by decide)
/-- a leaf -/
theorem sBits.leaf {n : LN} (ok : sOK nl) (ok2 : sOK (nl ++ [n])) (c : by8 B) (hn : 4 ≤ n.1) (q : ∀ p : Nat, p < 8 → (hb B (p : Int) ↔ (p : Int) < P ∧ ((n.1 = 4 ∧ 0 < F p 3) ∨ (n.1 = 5 ∧ fr p) ∨ (n.1 = 6 ∧ sCm (F p n.2.1) n.2.2.1 n.2.2.2)))) : sBits B P F fr (nl ++ [n]) (nl.length : Int) := by
  refine ⟨c, fun p hp => ?_⟩
  rw [q p hp, sV_add ok ok2]
  constructor
  · intro z
    exact ⟨z.1, Or.inr (Or.inr (Or.inr z.2))⟩
  · rintro ⟨z, w⟩
    rcases w with w | w | w | w
    · omega
    · omega
    · omega
    · exact ⟨z, w⟩
end

/-! a book, judged: pure (in the reference's rows), and the reference's judging: bonds counted, a year's end -/
def jr (h : am_H) (m : Nat) (J : am_H) : Prop := (∀ i, i < 5 → h m (33 + i) = J 0 i) ∧ ∀ i, 1 ≤ i → i ≤ 8 → h (m + 9 + i) = J i
def mJ (h h1 : am_H) (m : Nat) : Prop := (∀ q, q ≠ m → (q < m + 10 ∨ m + 17 < q) → h1 q = h q) ∧ ∀ j, (j < 33 ∨ 37 < j) → h1 m j = h m j
theorem mJ.refl {h : am_H} {m : Nat} : mJ h h m := ⟨fun _ _ _ => rfl, fun _ _ => rfl⟩
theorem mJ.trans {h h1 h2 : am_H} {m : Nat} (a : mJ h h1 m) (b : mJ h1 h2 m) : mJ h h2 m := ⟨fun q q0 hq => (b.1 q q0 hq).trans (a.1 q q0 hq), fun j hj => (b.2 j hj).trans (a.2 j hj)⟩
theorem jr.u {h h1 : am_H} {m q i j : Nat} {x : Int} {J : am_H} (c : jr h m J) (e : h1 = am_u h q j x) (hq : q = m + 9 + i) (hi : 1 ≤ i ∧ i ≤ 8) : jr h1 m (am_u J i j x) := by
  subst e hq
  refine ⟨fun a ha => ?_, fun a h1 h8 => ?_⟩
  · rw [am_u_o (by omega), am_u_o (by omega)]
    exact c.1 a ha
  · by_cases z : a = i
    · subst z
      rw [am_u_up, am_u_up, c.2 a h1 h8]
    · rw [am_u_n _ _ _ _ _ (by omega), am_u_n _ _ _ _ _ z]
      exact c.2 a h1 h8
theorem jr.f {h h1 : am_H} {m i j : Nat} {x : Int} {J : am_H} (c : jr h m J) (e : h1 = am_u h m j x) (hj : j = 33 + i) : jr h1 m (am_u J 0 i x) := by
  subst e hj
  refine ⟨fun a ha => ?_, fun a h1 h8 => ?_⟩
  · by_cases z : a = i
    · subst z
      rw [am_u_s, am_u_s]
    · rw [am_u_j (by omega), am_u_j z]
      exact c.1 a ha
  · rw [am_u_n _ _ _ _ _ (by omega), am_u_n _ _ _ _ _ (by omega)]
    exact c.2 a h1 h8
theorem mJ.u {h h1 : am_H} {m q j : Nat} {x : Int} (e : h1 = am_u h q j x) (hq : m + 10 ≤ q ∧ q ≤ m + 17) : mJ h h1 m := by
  subst e
  exact ⟨fun z _ hz => am_u_n _ _ _ _ z (by omega), fun j hj => am_u_o (by omega)⟩
theorem mJ.f {h h1 : am_H} {m j : Nat} {x : Int} (e : h1 = am_u h m j x) (hj : 33 ≤ j ∧ j ≤ 37) : mJ h h1 m := by
  subst e
  exact ⟨fun z hz _ => am_u_n _ _ _ _ z hz, fun j hj => am_u_j (by omega)⟩
/-- a step done n times -/
def lp {α : Type} (f : Nat → α → α) : Nat → α → α
  | 0, x => x
  | n + 1, x => f n (lp f n x)
def jb (p q k : Int) : Nat := (6 * (8 * p + q) + k).toNat
def jDue (J : am_H) (b : Nat) : Prop := ¬ J 8 b = 0 ∨ J 1 b ≤ J 0 4 ∧ J 0 4 ≤ J 2 b
/-- bonds of p that hold in year y or later -/
def jCnt (R : Nat → Int) (J : am_H) (p y : Int) : Int := sm (fun q => sm (fun k => if y ≤ J 2 (jb p q k) then 1 else 0) (R 0).toNat) (R 1).toNat
/-- one bond at a year's end -/
def jE1 (p q k : Nat) (J : am_H) : am_H :=
  if (¬ J 8 (jb p q k) = 0 ∨ J 1 (jb p q k) ≤ J 0 4 ∧ J 0 4 ≤ J 2 (jb p q k)) ∧ ¬ hb (J 3 (6 * q + k)) p then am_u (am_u (am_u J 8 (jb p q k) 0) 6 p (J 6 p + 1)) 0 2 (J 0 2 + 1) else am_u J 8 (jb p q k) 0
def jE2 (R : Nat → Int) (p q : Nat) (J : am_H) : am_H := lp (fun k => jE1 p q k) (R 0).toNat J
def jE3 (R : Nat → Int) (p : Nat) (J : am_H) : am_H := lp (jE2 R p) (R 1).toNat J
def jE4 (R : Nat → Int) (J : am_H) : am_H := lp (jE3 R) (R 1).toNat J
def jE5 (J : am_H) : am_H := lp (fun i J => am_u J 3 i 0) 48 J
def jEnd (R : Nat → Int) (J : am_H) : am_H := am_u (jE5 (jE4 R J)) 0 4 (jE5 (jE4 R J) 0 4 + 1)
theorem jE1_b (p q k : Nat) (J : am_H) : (∀ i, (jE1 p q k J) 6 i = J 6 i ∨ (jE1 p q k J) 6 i = J 6 i + 1) ∧ ((jE1 p q k J) 0 2 = J 0 2 ∨ (jE1 p q k J) 0 2 = J 0 2 + 1) ∧ ∀ i, i ≠ 2 → (jE1 p q k J) 0 i = J 0 i := by
  unfold jE1
  split
  · refine ⟨fun i => ?_, ?_, fun i hi => ?_⟩
    · rw [am_u_n _ _ _ _ _ (by omega)]
      by_cases e : i = p
      · rw [e, am_u_s]; exact Or.inr rfl
      · rw [am_u_j e, am_u_n _ _ _ _ _ (by omega)]; exact Or.inl rfl
    · rw [am_u_s]; exact Or.inr rfl
    · rw [am_u_j hi, am_u_n _ _ _ _ _ (by omega), am_u_n _ _ _ _ _ (by omega)]
  · refine ⟨fun i => ?_, ?_, fun i hi => ?_⟩
    · rw [am_u_n _ _ _ _ _ (by omega)]; exact Or.inl rfl
    · rw [am_u_n _ _ _ _ _ (by omega)]; exact Or.inl rfl
    · rw [am_u_n _ _ _ _ _ (by omega)]
/-- counts within bounds -/
def jBd (J : am_H) (B : Int) : Prop := (∀ i, i < 8 → 0 ≤ J 6 i ∧ J 6 i ≤ B) ∧ 0 ≤ J 0 2 ∧ J 0 2 ≤ B
theorem jE1_bd {p q k : Nat} {J : am_H} {B : Int} (c : jBd J B) : jBd (jE1 p q k J) (B + 1) := by
  obtain ⟨b6, b2, -⟩ := jE1_b p q k J
  refine ⟨fun i hi => ?_, ?_⟩
  · have := c.1 i hi
    have := b6 i
    omega
  · have := c.2
    omega
section
variable {d : Nat} {Y : am_Y} {h : am_H} {m : Nat} {J : am_H}
theorem ac_m_bond {p q k : Int} (hp : 0 ≤ p ∧ p < 8) (hq : 0 ≤ q ∧ q < 8) (hk : 0 ≤ k ∧ k < 6) : am_cI am_Md_bond d Y [.inl p, .inl q, .inl k] h (fun r h1 => h1 = h ∧ r = (jb p q k : Int) ∧ jb p q k < 384) := by
  refine am_Met.of (by decide) rfl (Nat.le_of_ble_eq_true rfl) (ab_Md_bond_0 ?_)
  rw [am_qI_s]
  unfold jb
  exact ⟨⟨by omega, by omega⟩, ⟨by omega, by omega⟩, ⟨by omega, by omega⟩, ⟨by omega, by omega⟩, rfl, by omega, by omega⟩
theorem bondK {p q k : Int} {K : Int → am_H → Prop} (hp : 0 ≤ p ∧ p < 8) (hq : 0 ≤ q ∧ q < 8) (hk : 0 ≤ k ∧ k < 6) (hd : 0 < d) (hK : jb p q k < 384 → K (jb p q k : Int) h) : am_kI am_Md_bond d Y [.inl p, .inl q, .inl k] h K :=
  am_kI.of (ac_m_bond (d := 0) hp hq hk) hd (by rintro x h1 - - ⟨rfl, rfl, b⟩; exact hK b)
theorem persK {K : Int → am_H → Prop} (hY : am_at Y m am_L12) (hd : 0 < d) (hK : K (h (m + 2) 1) h) : am_kI am_Md_persons d Y [.inr (.inr m)] h K :=
  am_kI.of (ac_m_persons (d := 0) hY) hd (by rintro x h1 - - ⟨rfl, rfl⟩; exact hK)
theorem helpsK {K : Int → am_H → Prop} (hY : am_at Y m am_L12) (hd : 0 < d) (hK : K (h (m + 2) 0) h) : am_kI am_Md_helps d Y [.inr (.inr m)] h K :=
  am_kI.of (ac_m_helps (d := 0) hY) hd (by rintro x h1 - - ⟨rfl, rfl⟩; exact hK)
theorem hasK {x k : Int} {K : Int → am_H → Prop} (hd : 0 < d) (hK : K (if hb x k then 1 else 0) h) : am_kI am_Md_has d Y [.inl x, .inl k] h K :=
  am_kI.of (ac_m_has (d := 0)) hd (by rintro x h1 - - ⟨rfl, rfl⟩; exact hK)
theorem sm_01 {f : Nat → Int} (n : Nat) (hf : ∀ q, q < n → 0 ≤ f q ∧ f q ≤ 1) : 0 ≤ sm f n ∧ sm f n ≤ n := by
  have := sm_le (c := 1) n hf
  omega
theorem jIn_le (J : am_H) (p y : Int) (q : Nat) (n : Nat) : 0 ≤ sm (fun k => if y ≤ J 2 (jb p q k) then (1 : Int) else 0) n ∧ sm (fun k => if y ≤ J 2 (jb p q k) then (1 : Int) else 0) n ≤ n :=
  sm_01 n fun k _ => by split <;> omega
theorem jCnt_le {R : Nat → Int} {p y : Int} (hz : rz R) (n : Nat) (hn : n ≤ 8) : 0 ≤ sm (fun q => sm (fun k => if y ≤ J 2 (jb p q k) then (1 : Int) else 0) (R 0).toNat) n ∧ sm (fun q => sm (fun k => if y ≤ J 2 (jb p q k) then (1 : Int) else 0) (R 0).toNat) n ≤ 6 * n := by
  unfold rz at hz
  exact sm_le n fun q _ => by
    have := jIn_le J p y q (R 0).toNat
    omega
theorem ac_m_bondsOf {p y : Int} (hY : am_at Y m am_L12) (hj : jr h m J) (hz : rz (h (m + 2))) (hp : 0 ≤ p ∧ p < 8) : am_cI am_Md_bondsOf (d + 1) Y [.inr (.inr m), .inl p, .inl y] h (fun r h1 => h1 = h ∧ r = jCnt (h (m + 2)) J p y) := by
  have hz' := hz
  unfold rz at hz'
  have e2 : h (m + 11) = J 2 := hj.2 2 (by omega) (by omega)
  refine am_Met.of (by decide) rfl (Nat.le_of_ble_eq_true rfl) (ab_Md_bondsOf_0 hY ?_)
  refine am_up (fun q => ∀ z : Int, 0 ≤ q → q ≤ h (m + 2) 1 → z = sm (fun q => sm (fun k => if y ≤ J 2 (jb p q k) then (1 : Int) else 0) (h (m + 2) 0).toNat) q.toNat → aw_Md_bondsOf_5 (d + 1) Y m p y z q h (am_qI _)) (h (m + 2) 1) ?_ ?_ 0 0 (by omega) (by omega) rfl
  · intro q hq z q0 q1 ez
    refine ab_Md_bondsOf_5 hY (persK hY (by omega) ⟨fun _ => ?_, fun w => by omega⟩)
    rw [am_qI_s]
    refine ⟨rfl, ?_⟩
    rw [ez, show q = h (m + 2) 1 by omega]
    rfl
  · intro q hq ih z q0 q1 ez
    refine ab_Md_bondsOf_5 hY (persK hY (by omega) ⟨fun w => by omega, fun _ => ?_⟩)
    have bz := jCnt_le (J := J) (p := p) (y := y) hz q.toNat (by omega)
    rw [← ez] at bz
    refine am_up (fun k => ∀ z' : Int, 0 ≤ k → k ≤ h (m + 2) 0 → z' = z + sm (fun k => if y ≤ J 2 (jb p q.toNat k) then (1 : Int) else 0) k.toNat → aw_Md_bondsOf_17 (d + 1) Y m p y z' q k h (am_qI _)) (h (m + 2) 0) ?_ ?_ 0 z (by omega) (by omega) (by simp [sm])
    · intro k hk z' k0 k1 ez'
      refine ab_Md_bondsOf_17 hY (helpsK hY (by omega) ⟨fun _ => ⟨⟨by omega, by omega⟩, ih z' (by omega) (by omega) ?_⟩, fun w => by omega⟩)
      rw [show (q + 1).toNat = q.toNat + 1 by omega]
      show z' = sm _ q.toNat + _
      rw [← ez, ez', show k = h (m + 2) 0 by omega]
    · intro k hk ihk z' k0 k1 ez'
      have eq : ((q.toNat : Nat) : Int) = q := by omega
      have ek : ((k.toNat : Nat) : Int) = k := by omega
      have bk := jIn_le J p y q.toNat k.toNat
      refine ab_Md_bondsOf_17 hY (helpsK hY (by omega) ⟨fun w => by omega, fun _ => bondK hp ⟨by omega, by omega⟩ ⟨by omega, by omega⟩ (by omega) fun b => ?_⟩)
      rw [Int.toNat_natCast, e2]
      have step : ∀ c : Int, c = (if y ≤ J 2 (jb p q k) then 1 else 0) → aw_Md_bondsOf_17 (d + 1) Y m p y (z' + c) q (k + 1) h (am_qI fun r h1 => h1 = h ∧ r = jCnt (h (m + 2)) J p y) := by
        intro c ec
        refine ihk _ (by omega) (by omega) ?_
        rw [show (k + 1).toNat = k.toNat + 1 by omega]
        show z' + c = z + (sm _ k.toNat + _)
        rw [eq]
        dsimp only
        rw [ek, ez', ec, eq]
        omega
      refine ⟨⟨by omega, by omega⟩, fun w => ⟨⟨by omega, by omega⟩, ?_⟩, fun w => ⟨⟨by omega, by omega⟩, ⟨by omega, by omega⟩, ?_⟩⟩
      · have := step 0 (by rw [if_neg (by omega)])
        rw [Int.add_zero] at this
        exact this
      · exact step 1 (by rw [if_pos w])
end

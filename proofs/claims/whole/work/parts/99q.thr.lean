/-! help, person, came, best: the value, or an exception -/
section
variable {Y : am_Y} {h h1 h2 : am_H} {x m v d : Nat} {A N : Nat → Int} {a b n t law P : Int}
/-- what one can do, as bits -/
def cb (A : Nat → Int) (p : Int) : Nat → Int
  | 0 => 0
  | k + 1 => if 0 < A (35 + 6 * p + (k : Int)).toNat then am_or (cb A p k) (am_shl 1 (k : Int)) else cb A p k
theorem cb_s (A : Nat → Int) (p : Int) (k : Nat) : cb A p (k + 1) = if 0 < A (35 + 6 * p + (k : Int)).toNat then am_or (cb A p k) (am_shl 1 (k : Int)) else cb A p k := rfl
theorem cb_8 (A : Nat → Int) (p : Int) : ∀ k : Nat, k ≤ 8 → by8 (cb A p k)
  | 0, _ => ⟨by simp [cb], by simp [cb]⟩
  | k + 1, hk => by
    have ih := cb_8 A p k (by omega)
    unfold cb
    split
    · exact (or_b ih (shl_b (by omega)).1).2
    · exact ih
theorem ac_V_canBits (hY : am_at Y v am_L9) (c : vR h v (A 1) A N) (w : wV A) (hp : 0 ≤ a ∧ a < A 1) : am_cI am_Village_canBits (d + 2) Y [.inr (.inr v), .inl a] h (fun r h1 => h1 = h ∧ r = cb A a (A 0).toNat) := by
  have hz := w.1.z
  unfold rz at hz
  have vo1 := c.o1 w.1 (by omega)
  have e1 : h v 1 = A 0 := c.1.1
  refine am_Met.of (by decide) rfl (Nat.le_of_ble_eq_true rfl) (ab_Village_canBits_0 hY ?_)
  have lp : ∀ k : Int, 0 ≤ k → k ≤ A 0 → aw_Village_canBits_4 (d + 2) Y v a (cb A a k.toNat) k h (am_qI fun r h1 => h1 = h ∧ r = cb A a (A 0).toNat) := by
    refine am_up (fun k => 0 ≤ k → k ≤ A 0 → aw_Village_canBits_4 (d + 2) Y v a (cb A a k.toNat) k h (am_qI fun r h1 => h1 = h ∧ r = cb A a (A 0).toNat)) (A 0) ?_ ?_
    · intro k hk h0 h6
      refine ab_Village_canBits_4 hY ⟨fun _ => ?_, fun z => by omega⟩
      rw [am_qI_s]
      exact ⟨rfl, by rw [show k = A 0 from by omega]⟩
    · intro k hk ih h0 h6
      have nx := ih (by omega) (by omega)
      rw [show (k + 1).toNat = k.toNat + 1 from by omega, cb_s, show ((k.toNat : Nat) : Int) = k from by omega] at nx
      have b8 := cb_8 A a k.toNat (by omega)
      refine ab_Village_canBits_4 hY ⟨fun z => by omega, fun _ => eK (ac_can (d := 0) hY vo1) (by omega) ?_⟩
      rw [c.p1 hp (by omega) ⟨h0, by omega⟩ (by omega)]
      by_cases q : 0 < A (35 + 6 * a + k).toNat
      · rw [if_pos q]
        rw [if_pos q] at nx
        exact ⟨fun z => absurd z (by decide), fun _ => ⟨by unfold am_ri; omega, nx⟩⟩
      · rw [if_neg q]
        rw [if_neg q] at nx
        refine ⟨fun _ => ⟨by unfold am_ri; omega, ?_⟩, fun z => absurd rfl z⟩
        rw [or_0 b8]
        exact nx
  exact lp 0 (by omega) (by omega)
theorem ac_m_cans (hM : am_at Y m am_L12) (w : wV (h (m + 2))) (hp : 0 ≤ a ∧ a < h (m + 2) 1) : am_cI am_Md_cans (d + 2) Y [.inr (.inr m), .inl a] h (fun r h1 => h1 = h ∧ r = cb (h (m + 2)) a (h (m + 2) 0).toNat) := by
  have hz := w.1.z
  unfold rz at hz
  refine am_Met.of (by decide) rfl (Nat.le_of_ble_eq_true rfl) (ab_Md_cans_0 hM ?_)
  have lp : ∀ k : Int, 0 ≤ k → k ≤ h (m + 2) 0 → aw_Md_cans_4 (d + 2) Y m a (cb (h (m + 2)) a k.toNat) k h (am_qI fun r h1 => h1 = h ∧ r = cb (h (m + 2)) a (h (m + 2) 0).toNat) := by
    refine am_up (fun k => 0 ≤ k → k ≤ h (m + 2) 0 → aw_Md_cans_4 (d + 2) Y m a (cb (h (m + 2)) a k.toNat) k h (am_qI fun r h1 => h1 = h ∧ r = cb (h (m + 2)) a (h (m + 2) 0).toNat)) (h (m + 2) 0) ?_ ?_
    · intro k hk h0 h6
      refine ab_Md_cans_4 hM (eK (ac_m_helps (d := 0) hM) (by omega) ⟨fun _ => ?_, fun z => by omega⟩)
      rw [am_qI_s]
      exact ⟨rfl, by rw [show k = h (m + 2) 0 from by omega]⟩
    · intro k hk ih h0 h6
      have nx := ih (by omega) (by omega)
      rw [show (k + 1).toNat = k.toNat + 1 from by omega, cb_s, show ((k.toNat : Nat) : Int) = k from by omega] at nx
      refine ab_Md_cans_4 hM (eK (ac_m_helps (d := 0) hM) (by omega) ⟨fun z => by omega, fun _ => eK (ac_m_pains (d := 0) hM (by omega) (by omega)) (by omega) ⟨fun q => ⟨by unfold am_ri; omega, ?_⟩, fun q => ⟨by unfold am_ri; omega, ?_⟩⟩⟩)
      · rw [if_neg (by omega)] at nx
        exact nx
      · rw [if_pos q] at nx
        exact nx
  exact lp 0 (by omega) (by omega)
/-- what one needs, as bits -/
def nbt (A : Nat → Int) (p : Int) : Nat → Int
  | 0 => 0
  | k + 1 => if A (225 + 2 * k) = p then am_or (nbt A p k) (am_shl 1 (A (226 + 2 * k))) else nbt A p k
theorem nbt_s (A : Nat → Int) (p : Int) (k : Nat) : nbt A p (k + 1) = if A (225 + 2 * k) = p then am_or (nbt A p k) (am_shl 1 (A (226 + 2 * k))) else nbt A p k := rfl
theorem nbt_8 {A : Nat → Int} {p : Int} : ∀ k : Nat, (∀ n : Nat, n < k → 0 ≤ A (226 + 2 * n) ∧ A (226 + 2 * n) < 6) → by8 (nbt A p k) ∧ ∀ j : Nat, j < 8 → (hb (nbt A p k) (j : Int) ↔ ∃ n : Nat, n < k ∧ A (225 + 2 * n) = p ∧ A (226 + 2 * n) = j)
  | 0, _ => by
    refine ⟨⟨by simp [nbt], by simp [nbt]⟩, fun j hj => ?_⟩
    have t : ∀ j : Fin 8, ¬ hb 0 (j.val : Int) := by decide +kernel
    exact ⟨fun z => absurd z (t ⟨j, hj⟩), fun ⟨n, z, _⟩ => by omega⟩
  | k + 1, g => by
    obtain ⟨i1, i2⟩ := nbt_8 (p := p) k fun n hn => g n (by omega)
    have gk := g k (by omega)
    have e : A (226 + 2 * k) = (((A (226 + 2 * k)).toNat : Nat) : Int) := by omega
    obtain ⟨s1, s2⟩ := shl_b (p := (A (226 + 2 * k)).toNat) (by omega)
    rw [← e] at s1 s2
    unfold nbt
    by_cases q : A (225 + 2 * k) = p
    · rw [if_pos q]
      refine ⟨(or_b i1 s1).2, fun j hj => ?_⟩
      rw [(hb_or8 i1 s1 (k := (j : Int)) (by omega)).2, i2 j hj, s2 j hj]
      constructor
      · rintro (⟨n, a1, a2⟩ | a1)
        · exact ⟨n, by omega, a2⟩
        · exact ⟨k, by omega, q, by omega⟩
      · rintro ⟨n, a1, a2, a3⟩
        by_cases z : n = k
        · subst z
          exact Or.inr (by omega)
        · exact Or.inl ⟨n, by omega, a2, a3⟩
    · rw [if_neg q]
      refine ⟨i1, fun j hj => ?_⟩
      rw [i2 j hj]
      constructor
      · rintro ⟨n, a1, a2⟩
        exact ⟨n, by omega, a2⟩
      · rintro ⟨n, a1, a2, a3⟩
        by_cases z : n = k
        · subst z
          exact absurd a2 q
        · exact ⟨n, by omega, a2, a3⟩
theorem nbt_is (w : wV A) (hp : 0 ≤ a ∧ a < A 1) : nbt A a (A 2).toNat = A (85 + a).toNat := by
  have hz := w.1.z
  unfold rz at hz
  have w2 := wr_2 w.1
  obtain ⟨-, c2, c3, -⟩ := w.2
  obtain ⟨n1, n2⟩ := nbt_8 (A := A) (p := a) (A 2).toNat fun n hn => by
    have := c2 n (by omega)
    omega
  have r := w.1 (85 + a.toNat) (by omega)
  have r1 : wlo (85 + a.toNat) = 0 := by unfold wlo; rw [if_neg (by omega)]
  have r2 : whi (85 + a.toNat) = 63 := by
    unfold whi
    rw [if_neg (by omega), if_neg (by omega), if_neg (by omega), if_neg (by omega), if_neg (by omega), if_neg (by omega), if_neg (by omega), if_neg (by omega), if_pos (by omega)]
  rw [r1, r2] at r
  rw [show (85 + a).toNat = 85 + a.toNat from by omega]
  have g : by8 (A (85 + a.toNat)) := ⟨r.1, by omega⟩
  refine hb_ext n1 g fun k hk => ?_
  rw [n2 k hk]
  by_cases k6 : k < 6
  · rw [c3 a.toNat k (by omega) k6]
    constructor
    · rintro ⟨n, a1, a2, a3⟩
      exact ⟨n, by omega, by omega, a3⟩
    · rintro ⟨n, a1, a2, a3⟩
      exact ⟨n, by omega, by omega, a3⟩
  · have t : ∀ x : Fin 64, ∀ k : Fin 8, 6 ≤ k.val → ¬ hb (x.val : Int) (k.val : Int) := by decide +kernel
    have := t ⟨(A (85 + a.toNat)).toNat, by omega⟩ ⟨k, hk⟩ (by show 6 ≤ k; omega)
    dsimp only at this
    rw [show (((A (85 + a.toNat)).toNat : Nat) : Int) = A (85 + a.toNat) from by omega] at this
    refine ⟨?_, fun z => absurd z this⟩
    rintro ⟨n, a1, a2, a3⟩
    have := c2 n (by omega)
    omega
theorem ac_V_needBits (hY : am_at Y v am_L9) (c : vR h v (A 1) A N) (w : wV A) (hp : 0 ≤ a ∧ a < A 1) : am_cI am_Village_needBits (d + 2) Y [.inr (.inr v), .inl a] h (fun r h1 => h1 = h ∧ r = A (85 + a).toNat) := by
  have w2 := wr_2 w.1
  have hz := w.1.z
  unfold rz at hz
  have c2 := w.2.2.1
  rw [← nbt_is w hp]
  refine am_Met.of (by decide) rfl (Nat.le_of_ble_eq_true rfl) (ab_Village_needBits_0 hY ?_)
  have e3 : h v 3 = A 2 := c.1.2.2.1
  have lp : ∀ k : Int, 0 ≤ k → k ≤ A 2 → aw_Village_needBits_4 (d + 2) Y v a (nbt A a k.toNat) k h (am_qI fun r h1 => h1 = h ∧ r = nbt A a (A 2).toNat) := by
    refine am_up (fun k => 0 ≤ k → k ≤ A 2 → aw_Village_needBits_4 (d + 2) Y v a (nbt A a k.toNat) k h (am_qI fun r h1 => h1 = h ∧ r = nbt A a (A 2).toNat)) (A 2) ?_ ?_
    · intro k hk h0 h6
      refine ab_Village_needBits_4 hY ⟨fun _ => ?_, fun z => by omega⟩
      rw [am_qI_s]
      exact ⟨rfl, by rw [show k = A 2 from by omega]⟩
    · intro k hk ih h0 h6
      have nx := ih (by omega) (by omega)
      have e := c.2.2.2.2.2.1 k.toNat (by omega)
      obtain ⟨n1, -⟩ := nbt_8 (A := A) (p := a) k.toNat fun n hn => by
        have := c2 n (by omega)
        omega
      rw [show (k + 1).toNat = k.toNat + 1 from by omega, nbt_s] at nx
      refine ab_Village_needBits_4 hY ⟨fun z => by omega, fun _ => ⟨by omega, fun q => ⟨by unfold am_ri; omega, ?_⟩, fun q => ⟨by omega, by unfold am_ri; omega, ?_⟩⟩⟩
      · rw [e.1] at q
        rw [if_neg q] at nx
        rw [or_0 n1]
        exact nx
      · rw [e.1] at q
        rw [if_pos q] at nx
        rw [e.2]
        exact nx
  exact lp 0 (by omega) (by omega)
theorem ac_m_refuse (hM : am_at Y m am_L12) : am_cI am_Md_refuse d Y [.inr (.inr m)] h (fun r h1 => h1 = am_u h m 0 1) :=
  am_Met.of (by decide) rfl (Nat.le_of_ble_eq_true rfl) (ab_Md_refuse_0 hM fun h1 e => by rw [am_qI_s]; exact e)
/-- a call that answers or throws, and the reference's -/
def am_thr (Mc Mm : am_M) (Y : am_Y) (x m : Nat) (av : List am_V) (h : am_H) (V : Int → am_V) : Prop :=
  ∃ (B : Prop) (F : Int), an_XM Mc 50 Y (.inr (.inr x) :: av) h (fun r h1 => B ∧ r = some (V F) ∧ ∀ q, (q < x + 111 ∨ x + 114 ≤ q) → h1 q = h q) (fun h1 => ¬ B ∧ ∀ q, (q < x + 111 ∨ x + 114 ≤ q) → h1 q = h q) ∧
    ∀ h1, am_ok Y h1 → (∀ q, (q < x + 111 ∨ x + 114 ≤ q ∧ q < m + 31) → h1 q = h q) → am_Met Mm 60 Y (.inr (.inr m) :: av) h1 (fun r h2 => ∃ w, r = some (V w) ∧ (B → w = F ∧ h2 m 0 = 0) ∧ (¬ B → h2 m 0 = 1) ∧ RL h2 x m ∧ ∀ q, m + 31 ≤ q → h2 q = h1 q)
theorem bk_row {X1 X2 : am_H} {i : Nat} (hz : rz A) (ok : lnsOK A) (e : X1 i = X2 i) : bkA A X1 i = bkA A X2 i := by
  have k1 : bkA A X1 = ov (A 341).toNat X1 (bkA A X2) := ov_Book hz fun j hj => ok.2.2 j (by have := ok.1; omega)
  have k2 : bkA A X2 = ov (A 341).toNat X2 (bkA A X2) := ov_Book hz fun j hj => ok.2.2 j (by have := ok.1; omega)
  funext j
  have e1 : bkA A X1 i j = ov (A 341).toNat X1 (bkA A X2) i j := by rw [← k1]
  have e2 : bkA A X2 i j = ov (A 341).toNat X2 (bkA A X2) i j := by rw [← k2]
  by_cases z : jin (A 341).toNat i j
  · rw [e1, ov_in z]
  · rw [e1, e2]
    unfold ov
    rw [if_neg z, if_neg z, e]
theorem jOf_row (e : ∀ q, m ≤ q → q < m + 31 → h1 q = h q) {i : Nat} (hi : i < 9) : jOf h1 m i = jOf h m i := by
  unfold jOf
  split
  · funext j
    rw [e m (by omega) (by omega)]
  · rw [e (m + 9 + i) (by omega) (by omega)]
/-- where the two stand beside each other still -/
theorem thrR (dis : x + 148 ≤ m) (c : RL h x m) (e : ∀ q, (q < x + 111 ∨ x + 114 ≤ q ∧ q < m + 31) → h1 q = h q) : RL h1 x m ∧ lai h1 m = lai h m ∧ ∀ q, m ≤ q → q < m + 31 → h1 q = h q := by
  have em : ∀ q, m ≤ q → q < m + 31 → h1 q = h q := fun q a b => e q (by omega)
  have la : lai h1 m = lai h m := lai_u (em _ (by omega) (by omega)) (by rw [em m (by omega) (by omega)])
  refine ⟨c.but ⟨fun j _ => by rw [e x (by omega)], fun q a b => e q (by omega)⟩ ⟨la, fun q hq => em q (by omega) (by omega), fun j _ => by rw [em m (by omega) (by omega)]⟩, la, em⟩
theorem thrE (dis : x + 148 ≤ m) (c : RL h1 x m) (f : ∀ q, q < m → h2 q = h1 q) (g : yFr h1 h2 m) : RL h2 x m :=
  c.but (xFr.two dis xFr.refl f) g
end

/-! contracts: the class's readers of a village's lines: what they ask of the tokens, the draft beside the reference's row -/
theorem fnd_congr {f g : Nat → Int} {w : Int} {b b' : Nat} : ∀ k, (∀ j, j < k → f (b + j) = g (b' + j)) → fnd f w b k = fnd g w b' k
  | 0, _ => rfl
  | k + 1, h => by
    unfold fnd
    rw [fnd_congr k fun j hj => h j (by omega), h k (by omega)]
/-- nothing is told of those who are not there -/
def zV (R : Nat → Int) (P : Int) : Prop := (∀ p k : Nat, p < 8 → k < 6 → (P ≤ p ∨ R 0 ≤ k) → R (35 + 6 * p + k) = 0) ∧ ∀ p q : Nat, p < 8 → q < 8 → (P ≤ p ∨ P ≤ q ∨ p = q) → R (95 + 8 * p + q) = 0 ∧ R (160 + 8 * p + q) = 0
/-- no name is a help's and a person's -/
def nV (R N : Nat → Int) (P : Int) : Prop := ∀ k p : Nat, (k : Int) < R 0 → (p : Int) < P → N k ≠ N (6 + p)
/-- a village of the class beside the reference's row: P persons so far -/
def vR (h : am_H) (v : Nat) (P : Int) (R N : Nat → Int) : Prop :=
  (h v 1 = R 0 ∧ h v 2 = P ∧ h v 3 = R 2 ∧ h v 4 = R 3 ∧ h v 5 = R 4 ∧ h v 6 = R 5) ∧
  (∀ k : Nat, (k : Int) < R 0 → h (v + 1) k = N k ∧ h (v + 2) k = R (10 + 2 * k) ∧ h (v + 3) k = R (11 + 2 * k)) ∧
  (∀ p : Nat, (p : Int) < P → h (v + 4) p = N (6 + p) ∧ h (v + 5) p = R (25 + p)) ∧
  (∀ i : Nat, i < 48 → h (v + 6) i = R (35 + i)) ∧
  (∀ i : Nat, i < 64 → h (v + 7) i = R (95 + i) ∧ h (v + 8) i = R (160 + i)) ∧
  (∀ n : Nat, (n : Int) < R 2 → h (v + 9) n = R (225 + 2 * n) ∧ h (v + 10) n = R (226 + 2 * n)) ∧ zV R P ∧ nV R N P
theorem vR.but {h h1 : am_H} {v : Nat} {P : Int} {R N : Nat → Int} (c : vR h v P R N) (s : ∀ q, v ≤ q → q < v + 11 → h1 q = h q) : vR h1 v P R N := by
  obtain ⟨c1, c2, c3, c4, c5, c6, c7⟩ := c
  have e : ∀ j, j < 11 → h1 (v + j) = h (v + j) := fun j hj => s _ (by omega) (by omega)
  unfold vR
  rw [e 1 (by omega), e 2 (by omega), e 3 (by omega), e 4 (by omega), e 5 (by omega), e 6 (by omega), e 7 (by omega), e 8 (by omega), e 9 (by omega), e 10 (by omega), s v (by omega) (by omega)]
  exact ⟨c1, c2, c3, c4, c5, c6, c7⟩
theorem fr4.v {h h1 : am_H} {o : Nat} (f : fr4 h h1 (o + 1)) : ∀ q, o + 5 ≤ q → q < o + 5 + 11 → h1 q = h q := fun q a b => f q (by omega)
/-- the outcome of a step of the class's readers -/
def tro {α : Type} (h1 : am_H) (T : Nat) (x : Int) (e : PE α) (P : α → Prop) : Prop := match e with
  | .inl q => x = 0 ∧ h1 T 4 = q.1 ∧ h1 T 5 = q.2
  | .inr a => x = 1 ∧ P a
section
variable {d : Nat} {Y : am_Y} {h : am_H} {T v : Nat} {r : List TK}
theorem TR.hd (ht : TR h T r) : h T 0 = (hd r).1 ∧ h T 1 = (hd r).2.1 ∧ h T 2 = (hd r).2.2 := by
  obtain ⟨a, l, rfl, q⟩ := ht.head
  exact q
theorem TR.ne (ht : TR h T r) : 0 < r.length := by
  obtain ⟨a, l, rfl, q⟩ := ht.head
  simp
theorem advK {K : am_H → Prop} (hY : am_at Y T am_L8) (ht : TR h T r) (hd : 1 < d) (hK : ∀ h1, TR h1 T (nx r) → fr4 h h1 T → (∀ j, j ≠ 0 → j ≠ 1 → j ≠ 2 → j ≠ 10 → h1 T j = h T j) → K h1) : am_kV am_Tokens_advance d Y [.inr (.inr T)] h K :=
  am_kV.of (ac_advance (d := 0) hY ht) hd (fun h1 _ hp => hK h1 hp.1 hp.2.1 hp.2.2)
theorem failK {f k : Int} {K : Int → am_H → Prop} (hY : am_at Y T am_L8) (ht : TR h T r) (h4 : h T 4 = 0) (hd2 : 0 < d) (hf : f = if (hd r).1 = 33 then 1 else k) (hK : ∀ h1, fr4 h h1 T → h1 T 4 = (pq r k).1 → h1 T 5 = (pq r k).2 → (∀ j, j ≠ 4 → j ≠ 5 → h1 T j = h T j) → K 0 h1) : am_kI am_Tokens_fail d Y [.inr (.inr T), .inl f] h K :=
  am_kI.of (ac_fail (d := 0) hY h4) hd2 (by
    rintro x h1 - - ⟨rfl, g4, g5, gf, gj⟩
    exact hK h1 gf (g4.trans hf) (g5.trans ht.hd.2.1) gj)
theorem cnumK {lo hi : Int} {K : Int → am_H → Prop} (hY : am_at Y T am_L8) (ht : TR h T r) (h4 : h T 4 = 0) (hd2 : 2 < d) (hK : ∀ x h1, fr4 h h1 T → tro h1 T x (pN r lo hi) (fun a => h1 T 3 = a.1 ∧ TR h1 T a.2 ∧ h1 T 4 = 0) → K x h1) : am_kI am_Tokens_takeNumber d Y [.inr (.inr T), .inl lo, .inl hi] h K := by
  obtain ⟨a, l, er, q0, q1, q2⟩ := ht.head
  refine am_kI.of (ac_takeNumber (d := 0) hY ht er h4) hd2 ?_
  rintro x h1 - - o
  have eh : hd r = a := by rw [er]; rfl
  unfold pN at hK
  rw [eh] at hK
  rcases o with ⟨a1, a2, a3, rfl, g, g3⟩ | ⟨a1, a2, rfl, g⟩ | ⟨a1, rfl, g⟩
  · refine hK 1 h1 g.2.1 ?_
    rw [if_pos a1, if_pos ⟨a2, a3⟩]
    exact ⟨rfl, g3, g.1, g.2.2.1.trans h4⟩
  · refine hK 0 h1 g.2.2 ?_
    rw [if_pos a1, if_neg a2]
    refine ⟨rfl, ?_, ?_⟩
    · unfold pq
      rw [g.1, eh, if_neg (by omega)]
    · unfold pq
      rw [g.2.1, q1, eh]
  · refine hK 0 h1 g.2.2 ?_
    rw [if_neg a1]
    refine ⟨rfl, ?_, ?_⟩
    · unfold pq
      rw [g.1]
      split <;> rfl
    · unfold pq
      rw [g.2.1, q1, eh]
theorem ac_indexOf {q n0 : Nat} {y x : Int} (hq : Y[q]? = some (14, n0)) (hn : n0 < 2000) (hy : 0 ≤ y ∧ y ≤ n0) : am_cI am_Village_indexOf d Y [.inr (.inr q), .inl y, .inl x] h (fun r h1 => h1 = h ∧ r = fnd (h q) x 0 y.toNat) := by
  refine am_Met.of (by decide) rfl (Nat.le_of_ble_eq_true rfl) (ab_Village_indexOf_0 hq ?_)
  refine am_up (fun i => 0 ≤ i → (∀ j : Nat, (j : Int) < i → h q (0 + j) ≠ x) → am_wp am_Village_indexOf d Y 2 [some (.inr (.inr q)), some (.inl y), some (.inl x), some (.inl i)] [] h (am_qI _)) y ?_ ?_ 0 (by omega) (fun j hj => by omega)
  · intro i hi i0 hn
    refine ab_Village_indexOf_2 hq ⟨fun _ => ?_, fun z => by omega⟩
    rw [am_qI_s]
    exact ⟨rfl, ((fnd_no _ _ _ _).mpr fun j hj => hn j (by omega)).symm⟩
  · intro i hi ih i0 hne
    refine ab_Village_indexOf_2 hq ⟨fun z => by omega, fun _ => ⟨by omega, fun z => by omega, fun _ => ⟨⟨by omega, by omega⟩, fun z => ⟨⟨by omega, by omega⟩, ih (by omega) fun j hj => ?_⟩, fun z => ?_⟩⟩⟩
    · by_cases e : (j : Int) = i
      · rw [show 0 + j = i.toNat by omega]
        exact z
      · exact hne j (by omega)
    · rw [am_qI_s]
      refine ⟨rfl, ?_⟩
      have := fnd_is (h q) x 0 y.toNat i.toNat (by omega) (by rw [Nat.zero_add]; exact z) (fun j hj => hne j (by omega))
      rw [this]
      omega
theorem ac_helpNamed {x P : Int} {R N : Nat → Int} (hY : am_at Y v am_L9) (c : vR h v P R N) (hz : rz R) : am_cI am_Village_helpNamed (d + 1) Y [.inr (.inr v), .inl x] h (fun r h1 => h1 = h ∧ r = fnd N x 0 (R 0).toNat) := by
  unfold rz at hz
  obtain ⟨⟨c1, -⟩, c2, -⟩ := c
  refine am_Met.of (by decide) rfl (Nat.le_of_ble_eq_true rfl) (ab_Village_helpNamed_0 hY ?_)
  rw [c1]
  refine am_kI.of (ac_indexOf (d := 0) (hY 1 _ rfl) (by omega) (by omega)) (by omega) ?_
  rintro x h1 - - ⟨rfl, rfl⟩
  rw [am_qI_s]
  exact ⟨rfl, fnd_congr _ fun j hj => by rw [Nat.zero_add]; exact (c2 j (by omega)).1⟩
theorem ac_personNamed {x P : Int} {R N : Nat → Int} (hY : am_at Y v am_L9) (c : vR h v P R N) (hz : 0 ≤ P ∧ P ≤ 8) : am_cI am_Village_personNamed (d + 1) Y [.inr (.inr v), .inl x] h (fun r h1 => h1 = h ∧ r = fnd N x 6 P.toNat) := by
  obtain ⟨⟨-, c1, -⟩, -, c2, -⟩ := c
  refine am_Met.of (by decide) rfl (Nat.le_of_ble_eq_true rfl) (ab_Village_personNamed_0 hY ?_)
  rw [c1]
  refine am_kI.of (ac_indexOf (d := 0) (hY 4 _ rfl) (by omega) (by omega)) (by omega) ?_
  rintro x h1 - - ⟨rfl, rfl⟩
  rw [am_qI_s]
  exact ⟨rfl, fnd_congr _ fun j hj => by rw [Nat.zero_add]; exact (c2 j (by omega)).1⟩
/-- who or what is named at a token; a fault, if none is -/
def pAt (r : List TK) (i : Int) : PE Int := if (hd r).1 = 24 then (if i < 0 then pb r 3 else .inr i) else pb r 1
theorem ac_numberAt {i : Int} (hY : am_at Y T am_L8) (ht : TR h T r) (h4 : h T 4 = 0) : am_cI am_Village_numberAt (d + 1) Y [.inr (.inr T), .inl i] h (fun x h1 => fr4 h h1 T ∧ (match pAt r i with | .inl q => x = -1 ∧ h1 T 4 = q.1 ∧ h1 T 5 = q.2 | .inr a => x = a ∧ 0 ≤ a ∧ h1 = h)) := by
  have q0 := ht.hd.1
  refine am_Met.of (by decide) rfl (Nat.le_of_ble_eq_true rfl) (ab_Village_numberAt_0 hY ?_)
  unfold pAt
  rw [q0]
  refine ⟨fun c => ab_Village_numberAt_15 hY ?_, fun c => ⟨fun c2 => ab_Village_numberAt_15 hY ?_, fun c2 => ?_⟩⟩
  · rw [q0]
    refine ⟨fun _ => failK (k := 1) hY ht h4 (by omega) (by split <;> rfl) ?_, fun z => absurd z c⟩
    intro h1 f e4 e5 _
    rw [am_qI_s, if_neg c]
    exact ⟨f, rfl, e4, e5⟩
  · rw [q0]
    refine ⟨fun z => absurd c z, fun _ => failK (k := 3) hY ht h4 (by omega) (by rw [if_neg (by omega)]) ?_⟩
    intro h1 f e4 e5 _
    rw [am_qI_s, if_pos c, if_pos c2]
    exact ⟨f, rfl, e4, e5⟩
  · rw [am_qI_s, if_pos c, if_neg (by omega)]
    exact ⟨fun _ _ => rfl, rfl, c2, rfl⟩
theorem helpAtK {P : Int} {R N : Nat → Int} {K : Int → am_H → Prop} (hYv : am_at Y v am_L9) (hY : am_at Y T am_L8) (c : vR h v P R N) (hz : rz R) (ht : TR h T r) (h4 : h T 4 = 0) (hd2 : 4 < d) (hK : ∀ x h1, fr4 h h1 T → (match pAt r (fnd N (hd r).2.2 0 (R 0).toNat) with | .inl q => x = -1 ∧ h1 T 4 = q.1 ∧ h1 T 5 = q.2 | .inr a => x = a ∧ 0 ≤ a ∧ h1 = h) → K x h1) : am_kI am_Village_helpAt d Y [.inr (.inr v), .inr (.inr T)] h K := by
  refine ⟨4, hd2, am_Met.of (by decide) rfl (Nat.le_of_ble_eq_true rfl) (ab_Village_helpAt_0 hYv hY ?_)⟩
  rw [ht.hd.2.2]
  refine am_kI.of (ac_helpNamed (d := 0) hYv c hz) (by omega) ?_
  rintro x h1 - - ⟨rfl, rfl⟩
  refine am_kI.of (ac_numberAt (d := 0) hY ht h4) (by omega) ?_
  rintro x h2 - - ⟨f, o⟩
  rw [am_qI_s]
  exact hK x h2 f o
theorem personAtK {P : Int} {R N : Nat → Int} {K : Int → am_H → Prop} (hYv : am_at Y v am_L9) (hY : am_at Y T am_L8) (c : vR h v P R N) (hz : 0 ≤ P ∧ P ≤ 8) (ht : TR h T r) (h4 : h T 4 = 0) (hd2 : 4 < d) (hK : ∀ x h1, fr4 h h1 T → (match pAt r (fnd N (hd r).2.2 6 P.toNat) with | .inl q => x = -1 ∧ h1 T 4 = q.1 ∧ h1 T 5 = q.2 | .inr a => x = a ∧ 0 ≤ a ∧ h1 = h) → K x h1) : am_kI am_Village_personAt d Y [.inr (.inr v), .inr (.inr T)] h K := by
  refine ⟨4, hd2, am_Met.of (by decide) rfl (Nat.le_of_ble_eq_true rfl) (ab_Village_personAt_0 hYv hY ?_)⟩
  rw [ht.hd.2.2]
  refine am_kI.of (ac_personNamed (d := 0) hYv c hz) (by omega) ?_
  rintro x h1 - - ⟨rfl, rfl⟩
  refine am_kI.of (ac_numberAt (d := 0) hY ht h4) (by omega) ?_
  rintro x h2 - - ⟨f, o⟩
  rw [am_qI_s]
  exact hK x h2 f o
/-- is the name new? -/
def pNw (R N : Nat → Int) (r : List TK) : PE Unit := if (hd r).1 = 24 then (if pF R N (hd r).2.2 = -1 then .inr () else pb r 3) else pb r 1
theorem newNameK {o : Nat} {R N : Nat → Int} {K : Int → am_H → Prop} (hY : am_at Y o am_L10) (c : vR h (o + 5) (R 1) R N) (hz : rz R) (ht : TR h (o + 1) r) (h4 : h (o + 1) 4 = 0) (hd2 : 4 < d) (hK : ∀ x h1, fr4 h h1 (o + 1) → tro h1 (o + 1) x (pNw R N r) (fun _ => h1 = h) → K x h1) : am_kI am_VillageText_isNewName d Y [.inr (.inr o)] h K := by
  have hYv : am_at Y (o + 5) am_L9 := hY.sub 5 rfl
  have hYT : am_at Y (o + 1) am_L8 := hY.sub 1 rfl
  have hz' := hz
  unfold rz at hz'
  refine ⟨4, hd2, am_Met.of (by decide) rfl (Nat.le_of_ble_eq_true rfl) (ab_VillageText_isNewName_0 hY ?_)⟩
  rw [ht.hd.1, ht.hd.2.2]
  have f0 := fnd_rg N (hd r).2.2 0 (R 0).toNat
  have f1 := fnd_rg N (hd r).2.2 6 (R 1).toNat
  unfold pNw pF at hK
  refine ⟨fun c24 => am_kI.of (ac_helpNamed (d := 0) hYv c hz) (by omega) ?_, fun c24 => failK (k := 1) hYT ht h4 (by omega) (by split <;> rfl) ?_⟩
  · rintro x h1 - - ⟨rfl, rfl⟩
    rw [if_pos c24] at hK
    refine ⟨fun z => failK (k := 3) hYT ht h4 (by omega) (by rw [if_neg (by omega)]) ?_, fun z => ?_⟩
    · intro h2 f e4 e5 _
      rw [am_qI_s]
      refine ⟨Or.inl rfl, hK 0 h2 f ?_⟩
      rw [if_neg (show ¬ fnd N (hd r).2.2 0 (R 0).toNat = -1 by omega), if_neg (by omega)]
      exact ⟨rfl, e4, e5⟩
    · rw [ht.hd.2.2]
      refine am_kI.of (ac_personNamed (d := 0) hYv c ⟨hz'.2.2.1, hz'.2.2.2⟩) (by omega) ?_
      rintro x h2 - - ⟨rfl, rfl⟩
      rw [if_pos (show fnd N (hd r).2.2 0 (R 0).toNat = -1 by omega)] at hK
      refine ⟨fun z2 => ?_, fun z2 => failK (k := 3) hYT ht h4 (by omega) (by rw [if_neg (by omega)]) ?_⟩
      · rw [am_qI_s]
        refine hK 1 _ (fun _ _ => rfl) ?_
        rw [if_pos (show fnd N (hd r).2.2 6 (R 1).toNat = -1 by omega), if_pos rfl]
        exact ⟨rfl, rfl⟩
      · intro h3 f e4 e5 _
        rw [am_qI_s]
        refine ⟨Or.inl rfl, hK 0 h3 f ?_⟩
        rw [if_neg (show ¬ fnd N (hd r).2.2 6 (R 1).toNat = -1 by omega), if_neg (by omega)]
        exact ⟨rfl, e4, e5⟩
  · intro h2 f e4 e5 _
    rw [am_qI_s]
    refine ⟨Or.inl rfl, hK 0 h2 f ?_⟩
    rw [if_neg c24]
    exact ⟨rfl, e4, e5⟩
end

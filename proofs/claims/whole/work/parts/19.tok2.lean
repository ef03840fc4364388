/-! contracts: the class's tokens, one after the other -/
def TS (h : am_H) (T : Nat) (l : List (Int × Int × Int)) (i : Nat) : Prop := tkA h T l ∧ h T 10 = (i : Int) ∧ ∃ q, l[i]? = some q ∧ h T 0 = q.1 ∧ h T 1 = q.2.1 ∧ h T 2 = q.2.2
/-- what is left of the tokens; the last one stays -/
def TR (h : am_H) (T : Nat) (r : List (Int × Int × Int)) : Prop := ∃ l i, TS h T l i ∧ r = l.drop i ∧ l.length ≤ 1000
def nx : List (Int × Int × Int) → List (Int × Int × Int)
  | [] => []
  | [a] => [a]
  | _ :: b :: l => b :: l
theorem tkA.but {h h1 : am_H} {T : Nat} {l : List (Int × Int × Int)} (ht : tkA h T l) (h9 : h1 T 9 = h T 9) (h123 : ∀ q, T + 1 ≤ q → q < T + 4 → h1 q = h q) : tkA h1 T l := by
  refine ⟨h9.trans ht.1, fun j q hj => ?_⟩
  rw [h123 (T + 1) (by omega) (by omega), h123 (T + 2) (by omega) (by omega), h123 (T + 3) (by omega) (by omega)]
  exact ht.2 j q hj
section
variable {d : Nat} {Y : am_Y} {h : am_H} {T : Nat}
/-- the token at the new place is shown -/
theorem adv23 {l : List (Int × Int × Int)} {i : Nat} {s1 s2 : Int} {Q : am_H → Prop} (hY : am_at Y T am_L8) (ht : tkA h T l) (hi : s1 + s2 = (i : Int)) (hl : i < l.length) (hl2 : l.length ≤ 1000) (hQ : ∀ h3, TS h3 T l i → fr4 h h3 T → (∀ j, j ≠ 0 → j ≠ 1 → j ≠ 2 → j ≠ 10 → h3 T j = h T j) → Q h3) : aw_Tokens_advance_23 d Y T s1 s2 h (am_qV Q) := by
  refine ab_Tokens_advance_23 hY ?_
  simp only [am_qV_s]
  rw [hi]
  refine ⟨⟨by omega, by omega⟩, fun h0 e0 => ?_⟩
  have hi0 : h0 T 10 = (i : Int) := by rw [e0, am_u_s]
  have ht0 : tkA h0 T l := ht.but (by rw [e0, am_u_j (by omega)]) (fun q q1 q2 => by rw [e0, am_u_n _ _ _ _ q (by omega)])
  have hq : l[i]? = some l[i] := List.getElem?_eq_getElem hl
  obtain ⟨a1, a2, a3⟩ := ht0.2 i _ hq
  rw [hi0, ht0.1]
  refine ⟨fun _ => by omega, fun _ => ⟨fun _ => by omega, fun _ => ⟨by omega, fun h1 e1 => ?_⟩⟩⟩
  have b1 : h1 T 10 = i := by rw [e1, am_u_j (by omega)]; exact hi0
  rw [b1]
  refine ⟨by omega, fun h2 e2 => ?_⟩
  have b2 : h2 T 10 = i := by rw [e2, am_u_j (by omega)]; exact b1
  rw [b2]
  refine ⟨by omega, fun h3 e3 => ?_⟩
  simp only [Int.toNat_natCast] at e1 e2 e3
  have c : ∀ q, q ≠ T → h3 q = h0 q := fun q hq => by rw [e3, am_u_n _ _ _ _ q hq, e2, am_u_n _ _ _ _ q hq, e1, am_u_n _ _ _ _ q hq]
  have cj : ∀ j, j ≠ 0 → j ≠ 1 → j ≠ 2 → h3 T j = h0 T j := fun j j0 j1 j2 => by rw [e3, am_u_j j2, e2, am_u_j j1, e1, am_u_j j0]
  refine hQ h3 ⟨ht0.but (cj 9 (by omega) (by omega) (by omega)) (fun q q1 q2 => c q (by omega)), (cj 10 (by omega) (by omega) (by omega)).trans hi0, l[i], hq, ?_, ?_, ?_⟩ (fun q hq => (c q (by omega)).trans (by rw [e0, am_u_n _ _ _ _ q (by omega)])) (fun j j0 j1 j2 j10 => (cj j j0 j1 j2).trans (by rw [e0, am_u_j j10]))
  · rw [e3, am_u_j (by omega), e2, am_u_j (by omega), e1, am_u_s]; exact a1
  · rw [e3, am_u_j (by omega), e2, am_u_s, e1, am_u_n _ _ _ _ (T + 2) (by omega)]; exact a2
  · rw [e3, am_u_s, e2, am_u_n _ _ _ _ (T + 3) (by omega), e1, am_u_n _ _ _ _ (T + 3) (by omega)]; exact a3
/-- the first token is shown -/
theorem ac_advance0 {l : List (Int × Int × Int)} (hY : am_at Y T am_L8) (ht : tkA h T l) (h10 : h T 10 = -1) (hl : 0 < l.length) (hl2 : l.length ≤ 1000) : am_cV am_Tokens_advance d Y [.inr (.inr T)] h (fun h1 => TS h1 T l 0 ∧ fr4 h h1 T ∧ ∀ j, j ≠ 0 → j ≠ 1 → j ≠ 2 → j ≠ 10 → h1 T j = h T j) := by
  refine am_Met.of (by decide) rfl (Nat.le_of_ble_eq_true rfl) (ab_Tokens_advance_0 hY ?_)
  rw [ht.1, h10]
  exact ⟨⟨by omega, by omega⟩, fun c => by omega, fun c => adv23 (i := 0) hY ht (by omega) hl hl2 (fun h3 a b c => ⟨a, b, c⟩)⟩
theorem nx_drop (l : List (Int × Int × Int)) (i : Nat) (hi : i < l.length) : nx (l.drop i) = l.drop (if i < l.length - 1 then i + 1 else i) := by
  rw [List.drop_eq_getElem_cons hi]
  by_cases c : i < l.length - 1
  · rw [if_pos c, List.drop_eq_getElem_cons (show i + 1 < l.length by omega)]
    rfl
  · rw [if_neg c]
    have e : l.drop (i + 1) = [] := by rw [List.drop_eq_nil_iff]; omega
    rw [e, List.drop_eq_getElem_cons hi, e]
    rfl
theorem ac_advance {r : List (Int × Int × Int)} (hY : am_at Y T am_L8) (ht : TR h T r) : am_cV am_Tokens_advance (d + 1) Y [.inr (.inr T)] h (fun h1 => TR h1 T (nx r) ∧ fr4 h h1 T ∧ ∀ j, j ≠ 0 → j ≠ 1 → j ≠ 2 → j ≠ 10 → h1 T j = h T j) := by
  obtain ⟨l, i, ⟨hA, hi, q, hq, -⟩, rfl, hl2⟩ := ht
  have hl : i < l.length := (List.getElem?_eq_some_iff.mp hq).1
  refine am_Met.of (by decide) rfl (Nat.le_of_ble_eq_true rfl) (ab_Tokens_advance_0 hY ?_)
  rw [hA.1, hi, nx_drop l i hl]
  have go : ∀ (i' : Nat) (s : Int), i' < l.length → (i : Int) + s = (i' : Int) → (i' = if i < l.length - 1 then i + 1 else i) → aw_Tokens_advance_23 (d + 1) Y T (i : Int) s h (am_qV (fun h1 => TR h1 T (l.drop (if i < l.length - 1 then i + 1 else i)) ∧ fr4 h h1 T ∧ ∀ j, j ≠ 0 → j ≠ 1 → j ≠ 2 → j ≠ 10 → h1 T j = h T j)) := by
    intro i' s hi' es ei
    refine adv23 hY hA es hi' hl2 (fun h3 a b c => ?_)
    rw [← ei]
    exact ⟨⟨l, i', a, rfl, hl2⟩, b, c⟩
  exact ⟨⟨by omega, by omega⟩, fun c => go i 0 hl (by omega) (by rw [if_neg (by omega)]), fun c => go (i + 1) 1 (by omega) (by omega) (by rw [if_pos (by omega)])⟩
/-- the first fault is told, at the token here -/
theorem ac_fail {f : Int} (hY : am_at Y T am_L8) (h4 : h T 4 = 0) : am_cI am_Tokens_fail d Y [.inr (.inr T), .inl f] h (fun r h1 => r = 0 ∧ h1 T 4 = f ∧ h1 T 5 = h T 1 ∧ fr4 h h1 T ∧ ∀ j, j ≠ 4 → j ≠ 5 → h1 T j = h T j) := by
  refine am_Met.of (by decide) rfl (Nat.le_of_ble_eq_true rfl) (ab_Tokens_fail_0 hY ?_)
  simp only [am_qI_s]
  refine ⟨fun c => absurd h4 c, fun _ h1 e1 h2 e2 => ⟨trivial, ?_, ?_, fun q hq => ?_, fun j j4 j5 => ?_⟩⟩
  · rw [e2, am_u_j (by omega), e1, am_u_s]
  · rw [e2, am_u_s, e1, am_u_j (by omega)]
  · rw [e2, am_u_n _ _ _ _ q (by omega), e1, am_u_n _ _ _ _ q (by omega)]
  · rw [e2, am_u_j j5, e1, am_u_j j4]
theorem TR.head {r : List (Int × Int × Int)} (ht : TR h T r) : ∃ a l, r = a :: l ∧ h T 0 = a.1 ∧ h T 1 = a.2.1 ∧ h T 2 = a.2.2 := by
  obtain ⟨l, i, ⟨hA, hi, q, hq, q0, q1, q2⟩, rfl, hl2⟩ := ht
  obtain ⟨hl, rfl⟩ := List.getElem?_eq_some_iff.mp hq
  exact ⟨l[i], l.drop (i + 1), List.drop_eq_getElem_cons hl, q0, q1, q2⟩
theorem TR.but {h1 : am_H} {r : List (Int × Int × Int)} (ht : TR h T r) (h0 : ∀ j, j = 0 ∨ j = 1 ∨ j = 2 ∨ j = 9 ∨ j = 10 → h1 T j = h T j) (h123 : ∀ q, T + 1 ≤ q → q < T + 4 → h1 q = h q) : TR h1 T r := by
  obtain ⟨l, i, ⟨hA, hi, q, hq, q0, q1, q2⟩, rfl, hl2⟩ := ht
  exact ⟨l, i, ⟨hA.but (h0 9 (by omega)) h123, (h0 10 (by omega)).trans hi, q, hq, (h0 0 (by omega)).trans q0, (h0 1 (by omega)).trans q1, (h0 2 (by omega)).trans q2⟩, rfl, hl2⟩
/-- what a step of a reader does to the tokens: it goes on, or tells a fault at the token here -/
def tkGo (h h1 : am_H) (T : Nat) (r : List (Int × Int × Int)) : Prop := TR h1 T (nx r) ∧ fr4 h h1 T ∧ h1 T 4 = h T 4 ∧ h1 T 5 = h T 5
def tkBad (h h1 : am_H) (T : Nat) (f : Int) : Prop := h1 T 4 = f ∧ h1 T 5 = h T 1 ∧ fr4 h h1 T
theorem ac_take {r : List (Int × Int × Int)} {a : Int × Int × Int} {l : List (Int × Int × Int)} {k : Int} (hY : am_at Y T am_L8) (ht : TR h T r) (hr : r = a :: l) (h4 : h T 4 = 0) : am_cI am_Tokens_take (d + 2) Y [.inr (.inr T), .inl k] h (fun x h1 => (a.1 = k ∧ x = 1 ∧ tkGo h h1 T r) ∨ (a.1 ≠ k ∧ x = 0 ∧ tkBad h h1 T 1)) := by
  obtain ⟨a', l', hr', q0, q1, q2⟩ := ht.head
  have ea : a' = a := by rw [hr] at hr'; cases hr'; rfl
  subst ea
  refine am_Met.of (by decide) rfl (Nat.le_of_ble_eq_true rfl) (ab_Tokens_take_0 hY ?_)
  simp only [am_qI_s]
  rw [q0]
  refine ⟨fun c => am_kV.of (ac_advance (d := d) hY ht) (by omega) (fun h1 _ hp => ?_), fun c => am_kI.of (ac_fail (d := d) hY h4) (by omega) ?_⟩
  · exact Or.inl ⟨c, by trivial, hp.1, hp.2.1, hp.2.2 4 (by omega) (by omega) (by omega) (by omega), hp.2.2 5 (by omega) (by omega) (by omega) (by omega)⟩
  · rintro x h1 - - ⟨rfl, g4, g5, gf, -⟩
    exact ⟨Or.inl rfl, Or.inr ⟨c, rfl, g4, g5, gf⟩⟩
theorem ac_takeNumber {r : List (Int × Int × Int)} {a : Int × Int × Int} {l : List (Int × Int × Int)} {lo hi : Int} (hY : am_at Y T am_L8) (ht : TR h T r) (hr : r = a :: l) (h4 : h T 4 = 0) : am_cI am_Tokens_takeNumber (d + 2) Y [.inr (.inr T), .inl lo, .inl hi] h (fun x h1 => (a.1 = 25 ∧ lo ≤ a.2.2 ∧ a.2.2 ≤ hi ∧ x = 1 ∧ tkGo h h1 T r ∧ h1 T 3 = a.2.2) ∨ (a.1 = 25 ∧ ¬ (lo ≤ a.2.2 ∧ a.2.2 ≤ hi) ∧ x = 0 ∧ tkBad h h1 T 2) ∨ (a.1 ≠ 25 ∧ x = 0 ∧ tkBad h h1 T 1)) := by
  obtain ⟨a', l', hr', q0, q1, q2⟩ := ht.head
  have ea : a' = a := by rw [hr] at hr'; cases hr'; rfl
  subst ea
  refine am_Met.of (by decide) rfl (Nat.le_of_ble_eq_true rfl) (ab_Tokens_takeNumber_0 hY ?_)
  simp only [am_qI_s]
  rw [q0, q2]
  refine ⟨fun c => ⟨fun c1 => am_kI.of (ac_fail (d := d) hY h4) (by omega) ?_, fun c1 => ⟨fun c2 h1 e1 => ?_, fun c2 => am_kI.of (ac_fail (d := d) hY h4) (by omega) ?_⟩⟩, fun c => am_kI.of (ac_fail (d := d) hY h4) (by omega) ?_⟩
  · rintro x h1 - - ⟨rfl, g4, g5, gf, -⟩
    exact ⟨Or.inl rfl, Or.inr (Or.inl ⟨c, fun z => by omega, rfl, g4, g5, gf⟩)⟩
  · have ht1 : TR h1 T r := ht.but (fun j hj => by rw [e1, am_u_j (by omega)]) (fun q q1 q2 => by rw [e1, am_u_n _ _ _ _ q (by omega)])
    refine am_kV.of (ac_advance (d := d) hY ht1) (by omega) (fun h2 _ hp => ?_)
    refine Or.inl ⟨c, c1, c2, by trivial, ⟨hp.1, fun q hq => (hp.2.1 q hq).trans (by rw [e1, am_u_n _ _ _ _ q (by omega)]), ?_, ?_⟩, ?_⟩
    · rw [hp.2.2 4 (by omega) (by omega) (by omega) (by omega), e1, am_u_j (by omega)]
    · rw [hp.2.2 5 (by omega) (by omega) (by omega) (by omega), e1, am_u_j (by omega)]
    · rw [hp.2.2 3 (by omega) (by omega) (by omega) (by omega), e1, am_u_s]
  · rintro x h1 - - ⟨rfl, g4, g5, gf, -⟩
    exact ⟨Or.inl rfl, Or.inr (Or.inl ⟨c, fun z => by omega, rfl, g4, g5, gf⟩)⟩
  · rintro x h1 - - ⟨rfl, g4, g5, gf, -⟩
    exact ⟨Or.inl rfl, Or.inr (Or.inr ⟨c, rfl, g4, g5, gf⟩)⟩
theorem ac_open {q n n1 lim : Nat} (hY : am_at Y T am_L8) (hq : Y[q]? = some (13, n1)) (hqT : q < T ∨ T + 4 ≤ q) (hn : n ≤ n1) (hn1 : n1 ≤ 940) : am_cV am_Tokens_open (d + 10) Y [.inr (.inr T), .inr (.inr q), .inl (n : Int), .inl (lim : Int)] h (fun h1 => TR h1 T (lxs (h q) n lim 0) ∧ h1 T 4 = 0 ∧ h1 T 5 = 0 ∧ fr4 h h1 T) := by
  refine am_Met.of (by decide) rfl (Nat.le_of_ble_eq_true rfl) (ab_Tokens_open_0 hY hq ?_)
  have en : max (0 : Int) (min (n : Int) (n1 : Int)) = (n : Int) := by omega
  rw [en]
  have eb : min (n : Int) (lim : Int) = ((min n lim : Nat) : Int) := by omega
  rw [eb]
  refine ⟨by omega, by omega, by omega, by omega, fun h1 e1 h2 e2 => ?_⟩
  have loop : ∀ (i : Int) (hh : am_H) (c : Int) (p : Nat) (l : List (Int × Int × Int)), i ≤ p → 0 ≤ c → c ≤ p → p ≤ n → l.length ≤ p → fr4 h hh T → tkA hh T l → hh T 11 = (p : Int) → lxs (h q) n lim 0 = l ++ lxs (h q) n lim p → aw_Tokens_open_33 (d + 10) Y T q n1 (lim : Int) (n : Int) ((min n lim : Nat) : Int) c hh (am_qV (fun h1 => TR h1 T (lxs (h q) n lim 0) ∧ h1 T 4 = 0 ∧ h1 T 5 = 0 ∧ fr4 h h1 T)) := by
    -- the end
    have fin : ∀ (hh : am_H) (c : Int) (p : Nat) (l : List (Int × Int × Int)), p ≤ n → l.length ≤ p → min n lim ≤ p → fr4 h hh T → tkA hh T l → lxs (h q) n lim 0 = l ++ lxs (h q) n lim p → ∀ s1 : Int, s1 = (if lim < n then 33 else 32) → aw_Tokens_open_136 (d + 10) Y T q n1 ((min n lim : Nat) : Int) s1 hh (am_qV (fun h1 => TR h1 T (lxs (h q) n lim 0) ∧ h1 T 4 = 0 ∧ h1 T 5 = 0 ∧ fr4 h h1 T)) := by
      intro hh c p l hp hl hb hf ht hs s1 es
      refine ab_Tokens_open_136 hY hq ?_
      refine am_kV.of (ac_add (d := 0) hY ht (by omega)) (by omega) (fun k1 _ g => fun k2 f2 k3 f3 k4 f4 => ?_)
      rw [lxs_end _ _ _ _ hb, ← es] at hs
      rw [← hs] at g
      have kA : tkA k4 T (lxs (h q) n lim 0) := g.1.but (by rw [f4, am_u_j (by omega), f3, am_u_j (by omega), f2, am_u_j (by omega)]) (fun z z1 z2 => by rw [f4, am_u_n _ _ _ _ z (by omega), f3, am_u_n _ _ _ _ z (by omega), f2, am_u_n _ _ _ _ z (by omega)])
      have hlen : (lxs (h q) n lim 0).length = l.length + 1 := by rw [hs]; simp
      refine am_kV.of (ac_advance0 (d := d) hY kA (by rw [f4, am_u_s]) (by omega) (by omega)) (by omega) (fun k5 _ g5 => ?_)
      rw [am_qV_s]
      refine ⟨⟨_, 0, g5.1, by simp, by omega⟩, ?_, ?_, fun z hz => ?_⟩
      · rw [g5.2.2 4 (by omega) (by omega) (by omega) (by omega), f4, am_u_j (by omega), f3, am_u_j (by omega), f2, am_u_s]
      · rw [g5.2.2 5 (by omega) (by omega) (by omega) (by omega), f4, am_u_j (by omega), f3, am_u_s]
      · rw [g5.2.1 z hz, f4, am_u_n _ _ _ _ z (by omega), f3, am_u_n _ _ _ _ z (by omega), f2, am_u_n _ _ _ _ z (by omega), g.2.1 z hz, hf z hz]
    have fin2 : ∀ (hh : am_H) (c : Int) (p : Nat) (l : List (Int × Int × Int)), p ≤ n → l.length ≤ p → min n lim ≤ p → fr4 h hh T → tkA hh T l → lxs (h q) n lim 0 = l ++ lxs (h q) n lim p → ((n : Int) ≤ (lim : Int) → aw_Tokens_open_136 (d + 10) Y T q n1 ((min n lim : Nat) : Int) 32 hh (am_qV (fun h1 => TR h1 T (lxs (h q) n lim 0) ∧ h1 T 4 = 0 ∧ h1 T 5 = 0 ∧ fr4 h h1 T))) ∧ ((lim : Int) < (n : Int) → aw_Tokens_open_136 (d + 10) Y T q n1 ((min n lim : Nat) : Int) 33 hh (am_qV (fun h1 => TR h1 T (lxs (h q) n lim 0) ∧ h1 T 4 = 0 ∧ h1 T 5 = 0 ∧ fr4 h h1 T))) := by
      intro hh c p l hp hl hb hf ht hs
      exact ⟨fun z => fin hh c p l hp hl hb hf ht hs 32 (by rw [if_neg (by omega)]), fun z => fin hh c p l hp hl hb hf ht hs 33 (by rw [if_pos (by omega)])⟩
    refine am_up (fun i => ∀ (hh : am_H) (c : Int) (p : Nat) (l : List (Int × Int × Int)), i ≤ p → 0 ≤ c → c ≤ p → p ≤ n → l.length ≤ p → fr4 h hh T → tkA hh T l → hh T 11 = (p : Int) → lxs (h q) n lim 0 = l ++ lxs (h q) n lim p → aw_Tokens_open_33 (d + 10) Y T q n1 (lim : Int) (n : Int) ((min n lim : Nat) : Int) c hh (am_qV (fun h1 => TR h1 T (lxs (h q) n lim 0) ∧ h1 T 4 = 0 ∧ h1 T 5 = 0 ∧ fr4 h h1 T))) (n : Int) ?_ ?_
    · intro i hi hh c p l ip c0 cp pn hl hf ht h11 hs
      refine ab_Tokens_open_33 hY hq ?_
      rw [h11]
      refine ⟨fun _ => by omega, fun _ => ⟨fun _ => fin2 hh c p l pn hl (by omega) hf ht hs, fun _ => by omega⟩⟩
    · intro i hi ih hh c p l ip c0 cp pn hl hf ht h11 hs
      refine ab_Tokens_open_33 hY hq ?_
      have hqq : hh q = h q := hf q hqT
      rw [h11, hqq]
      simp only [Int.toNat_natCast]
      refine ⟨fun _ => by omega, fun _ => ⟨fun _ => fin2 hh c p l pn hl (by omega) hf ht hs, fun hpb => ⟨by omega, ?_⟩⟩⟩
      have hpb2 : p < min n lim := by omega
      -- behind a token or a blank
      have goW : ∀ h2, h2 = hh → (97 ≤ h q p ∧ h q p ≤ 122 ∨ 48 ≤ h q p ∧ h q p ≤ 57) → am_kV am_Tokens_readWordOrNumber (d + 10) Y [.inr (.inr T), .inr (.inr q), .inl (n : Int)] h2 (fun h5 => (am_ri (c + 1)) ∧ (aw_Tokens_open_33 (d + 10) Y T q n1 (lim : Int) (n : Int) ((min n lim : Nat) : Int) (c + 1) h5 (am_qV (fun h1 => TR h1 T (lxs (h q) n lim 0) ∧ h1 T 4 = 0 ∧ h1 T 5 = 0 ∧ fr4 h h1 T)))) := by
        rintro h2 rfl cW
        refine am_kV.of (ac_readWord (d := d) hY hq hqT ht (by omega) h11 (by omega) hn (by omega) (by rw [hqq]; exact cW)) (by omega) (fun h5 _ g => ?_)
        rw [hqq] at g
        have hgt := lxN_gt (h q) n p (by omega)
        have hle := lxE_le (h q) n n p (by omega)
        have hN : lxN (h q) n p = lxE (h q) n n p := by unfold lxN; rw [if_pos cW]
        have hT : lxT (h q) n p = lxR (h q) p (lxE (h q) n n p - p) := by unfold lxT; rw [if_pos cW]
        refine ⟨⟨by omega, by omega⟩, ih h5 (c + 1) (lxE (h q) n n p) _ (by omega) (by omega) (by omega) hle (by simp; omega) (hf.trans g.2.1) g.1 g.2.2.1 ?_⟩
        rw [hs, lxs_tok _ _ _ _ hpb2 (fun z => by omega), hN, hT]
        simp
      refine am_kI.of (ac_isSmall (d := d)) (by omega) ?_
      rintro x h3 - - ⟨e3, rfl⟩
      refine ⟨fun cc => ?_, fun cc => ?_⟩
      · have cs : 97 ≤ h q p ∧ h q p ≤ 122 := by
          by_cases z : 97 ≤ h q p ∧ h q p ≤ 122
          · exact z
          · rw [if_neg z] at cc; omega
        exact goW h3 e3 (Or.inl cs)
      · have cs : ¬ (97 ≤ h q p ∧ h q p ≤ 122) := by
          intro z
          rw [if_pos z] at cc; omega
        refine am_kI.of (ac_isDigit (d := d)) (by omega) ?_
        rintro x h4 - - ⟨e4, rfl⟩
        refine ⟨fun c2 => ?_, fun c2 => ?_⟩
        · have cd : ¬ (48 ≤ h q p ∧ h q p ≤ 57) := by
            intro z
            rw [if_pos z] at c2; omega
          have cW : ¬ (97 ≤ h q p ∧ h q p ≤ 122 ∨ 48 ≤ h q p ∧ h q p ≤ 57) := fun z => z.elim cs cd
          refine am_kI.of (ac_isBlank (d := d)) (by omega) ?_
          rintro x h5 - - ⟨e5, rfl⟩
          have e5h : h5 = hh := e5.trans (e4.trans e3)
          refine ⟨fun c3 => ?_, fun c3 => ?_⟩
          · have cb : h q p = 32 ∨ h q p = 10 := by
              by_cases z : h q p = 32 ∨ h q p = 10
              · exact z
              · rw [if_neg z] at c3; omega
            have h11b : h5 T 11 = (p : Int) := by rw [e5h]; exact h11
            rw [h11b]
            refine ⟨⟨by omega, by omega⟩, fun h6 e6 => ⟨⟨by omega, by omega⟩, ih h6 (c + 1) (p + 1) l (by omega) (by omega) (by omega) (by omega) (by omega) ?_ ?_ ?_ ?_⟩⟩
            · rw [e6, e5h]; exact hf.trans (fr4.u (by omega))
            · refine tkA.but ht (by rw [e6, am_u_j (by omega), e5h]) (fun z z1 z2 => by rw [e6, am_u_n _ _ _ _ z (by omega), e5h])
            · rw [e6, am_u_s]; omega
            · rw [hs, lxs_blank _ _ _ _ hpb2 cb]
          · have cb : ¬ (h q p = 32 ∨ h q p = 10) := by
              intro z
              rw [if_pos z] at c3; omega
            refine am_kI.of (ac_signKind (d := d)) (by omega) ?_
            rintro x h6 - - ⟨e6, rfl⟩
            have e6h : h6 = hh := e6.trans e5h
            have h11b : h6 T 11 = (p : Int) := by rw [e6h]; exact h11
            rw [h11b]
            refine am_kV.of (ac_add (d := 0) (l := l) hY (by rw [e6h]; exact ht) (by omega)) (by omega) (fun h7 _ g => ?_)
            have h11c : h7 T 11 = (p : Int) := by rw [g.2.2 11 (by omega)]; exact h11b
            rw [h11c]
            refine ⟨⟨by omega, by omega⟩, fun h8 e8 => ⟨⟨by omega, by omega⟩, ih h8 (c + 1) (p + 1) (l ++ [(lxg (h q p), (p : Int), 0)]) (by omega) (by omega) (by omega) (by omega) (by simp; omega) ?_ ?_ ?_ ?_⟩⟩
            · rw [e8]
              rw [e6h] at g
              exact (hf.trans g.2.1).trans (fr4.u (by omega))
            · exact tkA.but g.1 (by rw [e8, am_u_j (by omega)]) (fun z z1 z2 => by rw [e8, am_u_n _ _ _ _ z (by omega)])
            · rw [e8, am_u_s]; omega
            · have hN : lxN (h q) n p = p + 1 := by unfold lxN; rw [if_neg cW]
              have hT : lxT (h q) n p = (lxg (h q p), (p : Int), 0) := by unfold lxT; rw [if_neg cW]
              rw [hs, lxs_tok _ _ _ _ hpb2 cb, hN, hT]
              simp
        · have cd : 48 ≤ h q p ∧ h q p ≤ 57 := by
            by_cases z : 48 ≤ h q p ∧ h q p ≤ 57
            · exact z
            · rw [if_neg z] at c2; omega
          exact goW h4 (e4.trans e3) (Or.inr cd)
  refine loop 0 h2 0 0 [] (by omega) (by omega) (by omega) (by omega) (by simp) ?_ ⟨?_, fun j q hj => by simp at hj⟩ ?_ (by simp)
  · rw [e2, e1]; exact (fr4.u (by omega)).trans (fr4.u (by omega))
  · rw [e2, am_u_j (by omega), e1, am_u_s]; rfl
  · rw [e2, am_u_s]; rfl
end

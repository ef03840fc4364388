/-! what lies above a village in its row says nothing of it, nor of its book -/
def eqv (R R' : Nat → Int) : Prop := ∀ i, i < 325 → R' i = R i
section
variable {R R' N N' : Nat → Int} {J : am_H} {h : am_H} {v b : Nat} {P : Int}
theorem jCnt_c (e : eqv R R') (p y : Int) : jCnt R' J p y = jCnt R J p y := by
  unfold jCnt
  rw [e 0 (by omega), e 1 (by omega)]
theorem jEnd_c (e : eqv R R') : jEnd R' J = jEnd R J := by
  have e2 : jE2 R' = jE2 R := by
    funext p q J
    unfold jE2
    rw [e 0 (by omega)]
  have e3 : jE3 R' = jE3 R := by
    funext p J
    unfold jE3
    rw [e2, e 1 (by omega)]
  have e4 : jE4 R' J = jE4 R J := by
    unfold jE4
    rw [e3, e 1 (by omega)]
  unfold jEnd
  rw [e4]
theorem jYrs_c (e : eqv R R') (y : Int) : ∀ (f : Nat) (J : am_H), jYrs R' f y J = jYrs R f y J
  | 0, _ => rfl
  | f + 1, J => by
    unfold jYrs
    rw [jEnd_c e, jYrs_c e y f]
theorem jL_c (e : eqv R R') {w p q k : Int} (hp : 0 ≤ p ∧ p < 8) (hq : 0 ≤ q ∧ q < 8) (hk : 0 ≤ k ∧ k < 6) : jL R' J w p q k = jL R J w p q k := by
  have a1 := e (35 + 6 * p + k).toNat (by omega)
  have a2 := e (35 + 6 * q + k).toNat (by omega)
  have a3 := e (85 + q).toNat (by omega)
  have a4 := e (11 + 2 * k).toNat (by omega)
  have a5 := e (10 + 2 * k).toNat (by omega)
  have a6 := e (25 + q).toNat (by omega)
  have a7 := e 3 (by omega)
  have a8 := e 4 (by omega)
  have a9 := fun p y => jCnt_c (J := J) e p y
  simp only [jL, jHelp, jThk, jThk2, jLv, a1, a2, a3, a4, a5, a6, a7, a8, a9]
theorem lnOK_c (e : eqv R R') {ln : LN} : lnOK R' ln ↔ lnOK R ln := by
  unfold lnOK
  rw [e 0 (by omega), e 1 (by omega)]
theorem jLine_c (e : eqv R R') (hz : rz R) {ln : LN} (ok : lnOK R ln) (i : Nat) : jLine R' ln i J = jLine R ln i J := by
  unfold rz at hz
  unfold jLine
  rw [jYrs_c e]
  by_cases z : ln.1 = 0
  · rw [if_pos z, if_pos z]
  · rcases ok with ok | ok
    · exact absurd ok.1 z
    · obtain ⟨o1, o2, o3, o4, o5, o6, o7, o8, o9⟩ := ok
      rw [jL_c e ⟨o3, by omega⟩ ⟨o5, by omega⟩ ⟨o8, by omega⟩]
theorem jBook_c (e : eqv R R') (hz : rz R) {f : Nat → LN} {n : Nat} (ok : ∀ j, j < n → lnOK R (f j)) : jBook R' f n J = jBook R f n J := by
  unfold jBook jLns
  rw [jEnd_c e, lp_congr (f := fun i J => jLine R' (f i) i J) (g := fun i J => jLine R (f i) i J) n fun i hi y => jLine_c e hz (ok i hi) i]
theorem wV_c (e : eqv R R') (c : wV R) : wV R' := by
  have h2 := (c.1 2 (by omega)).2
  refine ⟨fun i hi => by rw [e i hi]; exact c.1 i hi, c.2.same h2 ?_ ?_ fun i hi => e i (by omega)⟩
  · rw [e 0 (by omega)]; exact Int.le_refl _
  · rw [e 1 (by omega)]; exact Int.le_refl _
theorem vR_c (c : vR h v P R N) (e : eqv R R') (eN : ∀ i, i < 14 → N' i = N i) (h0 : R 0 ≤ 6) (hP : P ≤ 8) (h2 : R 2 ≤ 48) : vR h v P R' N' := by
  obtain ⟨c1, c2, c3, c4, c5, c6, ⟨z1, z2⟩, c8⟩ := c
  refine ⟨?_, fun k hk => ?_, fun p hp => ?_, fun i hi => ?_, fun i hi => ?_, fun n hn => ?_, ⟨fun p k hp hk hh => ?_, fun p q hp hq hh => ?_⟩, fun k p hk hp => ?_⟩
  · rw [e 0 (by omega), e 2 (by omega), e 3 (by omega), e 4 (by omega), e 5 (by omega)]
    exact c1
  · rw [e 0 (by omega)] at hk
    rw [eN k (by omega), e (10 + 2 * k) (by omega), e (11 + 2 * k) (by omega)]
    exact c2 k hk
  · rw [eN (6 + p) (by omega), e (25 + p) (by omega)]
    exact c3 p hp
  · rw [e (35 + i) (by omega)]
    exact c4 i hi
  · rw [e (95 + i) (by omega), e (160 + i) (by omega)]
    exact c5 i hi
  · rw [e 2 (by omega)] at hn
    rw [e (225 + 2 * n) (by omega), e (226 + 2 * n) (by omega)]
    exact c6 n hn
  · rw [e 0 (by omega)] at hh
    rw [e (35 + 6 * p + k) (by omega)]
    exact z1 p k hp hk hh
  · rw [e (95 + 8 * p + q) (by omega), e (160 + 8 * p + q) (by omega)]
    exact z2 p q hp hq hh
  · rw [e 0 (by omega)] at hk
    rw [eN k (by omega), eN (6 + p) (by omega)]
    exact c8 k p hk hp
theorem bdR_c {y : Int} (c : bdR h b R J y) (e : eqv R R') (h2 : R 2 ≤ 48) : bdR h b R' J y := by
  obtain ⟨c1, c2, c3, c4⟩ := c
  have eb : ∀ p n : Nat, (n : Int) < R 2 → nb R' p n = nb R p n := fun p n hn => by
    show jb (p : Int) (R' (225 + 2 * n)) (R' (226 + 2 * n)) = jb (p : Int) (R (225 + 2 * n)) (R (226 + 2 * n))
    rw [e (225 + 2 * n) (by omega), e (226 + 2 * n) (by omega)]
  have e2 := e 2 (by omega)
  refine ⟨fun p n hp hn => ?_, fun p n hp hn => ?_, fun p q k hp hq hk hn => ?_, c4⟩
  · rw [e2] at hn
    rw [eb p n hn]
    exact c1 p n hp hn
  · rw [e2] at hn
    exact c2 p n hp hn
  · refine c3 p q k hp hq hk fun n hn2 => ?_
    have := hn n (by rw [e2]; exact hn2)
    rw [e (225 + 2 * n) (by omega), e (226 + 2 * n) (by omega)] at this
    exact this
theorem fkR_c {i : Nat} (c : fkR h b R J i) (e : eqv R R') (h2 : R 2 ≤ 48) : fkR h b R' J i := by
  obtain ⟨c1, c2, c3, c4, c5, c6, c7⟩ := c
  refine ⟨c1, c2, c3, fun p hp hR => ?_, c5, bdR_c c6 e h2, c7⟩
  rw [e 1 (by omega)] at hR
  exact c4 p hp hR
end
/-! a sentence that is read whole is no longer than it may be -/
theorem pbd_inr {α β : Type} {e : PE α} {f : α → PE β} {T : β} (h : pbd e f = .inr T) : ∃ U, e = .inr U ∧ f U = .inr T := by
  cases e with
  | inl q => cases h
  | inr U => exact ⟨U, rfl, h⟩
theorem nx_mem {b : TK} : ∀ {r : List TK}, b ∈ nx r → b ∈ r
  | [], h => h
  | [_], h => h
  | _ :: _ :: _, h => List.mem_cons_of_mem _ h
theorem pN_mem {r : List TK} {lo hi : Int} {v : Int × List TK} (e : pN r lo hi = .inr v) {b : TK} (h : b ∈ v.2) : b ∈ r := by
  unfold pN at e
  split at e
  · split at e
    · cases e
      exact nx_mem h
    · cases e
  · cases e
theorem sP_mem : ∀ (k t : Nat) (w a : Int) (S : SS) (T : SS × Int), sP k t w a S = .inr T → ∀ b, b ∈ T.1.2.2 → b ∈ S.2.2
  | 0, t, w, a, S, T, e => by
    unfold sP at e
    cases e
    exact fun b hb => hb
  | k + 1, t, w, a, S, T, e => by
    have ih := fun t w a S T => sP_mem k t w a S T
    unfold sP at e
    split at e
    · split at e
      · cases e
      · split at e
        · cases e
        · split at e
          · obtain ⟨U, e1, e2⟩ := pbd_inr e
            split at e2
            · cases e2
              exact fun b hb => nx_mem (ih _ _ _ _ _ e1 b (nx_mem hb))
            · cases e2
          · split at e
            · obtain ⟨U, e1, e2⟩ := pbd_inr e
              cases e2
              exact fun b hb => nx_mem (ih _ _ _ _ _ e1 b hb)
            · split at e
              · cases e
                exact fun b hb => nx_mem hb
              · split at e
                · cases e
                  exact fun b hb => nx_mem hb
                · unfold sCmp at e
                  split at e
                  · obtain ⟨v, e1, e2⟩ := pbd_inr e
                    cases e2
                    exact fun b hb => nx_mem (nx_mem (pN_mem e1 hb))
                  · cases e
    · split at e
      · obtain ⟨U, e1, e2⟩ := pbd_inr e
        exact fun b hb => ih _ _ _ _ _ e1 b (ih _ _ _ _ _ e2 b hb)
      · split at e
        · split at e
          · obtain ⟨U, e1, e2⟩ := pbd_inr e
            exact fun b hb => nx_mem (ih _ _ _ _ _ e1 b (ih _ _ _ _ _ e2 b hb))
          · cases e
            exact fun b hb => hb
        · split at e
          · obtain ⟨U, e1, e2⟩ := pbd_inr e
            exact fun b hb => ih _ _ _ _ _ e1 b (ih _ _ _ _ _ e2 b hb)
          · split at e
            · obtain ⟨U, e1, e2⟩ := pbd_inr e
              exact fun b hb => nx_mem (ih _ _ _ _ _ e1 b (ih _ _ _ _ _ e2 b hb))
            · cases e
              exact fun b hb => hb
theorem lxT_32 (s : Nat → Int) (n i : Nat) : (lxT s n i).1 ≠ 32 := by
  unfold lxT
  split
  · unfold lxR
    have := lxk_rg (lxw s i (lxE s n n i - i))
    split
    · dsimp only; omega
    · split
      · dsimp only; omega
      · dsimp only; omega
  · exact (lxg_rg _).2.2
theorem lxS_32 (s : Nat → Int) {n lim : Nat} (hl : lim < n) : ∀ f i, ∀ a ∈ lxS s n lim f i, a.1 ≠ 32
  | 0, i, a, ha => by
    unfold lxS at ha
    rw [if_pos hl] at ha
    simp only [List.mem_singleton] at ha
    subst ha
    show (33 : Int) ≠ 32
    decide
  | f + 1, i, a, ha => by
    unfold lxS at ha
    split at ha
    · split at ha
      · exact lxS_32 s hl f _ a ha
      · rcases List.mem_cons.mp ha with rfl | ha
        · exact lxT_32 s n i
        · exact lxS_32 s hl f _ a ha
    · simp only [List.mem_singleton] at ha
      subst ha
      show (33 : Int) ≠ 32
      decide
theorem pSen_len {s : Nat → Int} {n : Nat} {T : SS × Int} (e : pSen (lxs s n 200 0) = .inr T) : n ≤ 200 := by
  refine Nat.le_of_not_lt fun hl => ?_
  have len : (lxs s n 200 0).length ≤ 1000 := by
    have := lxS_len s n 200 (min n 200 - 0) 0
    unfold lxs
    omega
  unfold pSen at e
  obtain ⟨U, e1, e2⟩ := pbd_inr e
  split at e2
  · next z =>
    cases e2
    have te := (sP_i 6009 3 0 0 ([], 0, lxs s n 200 0) T (by omega) (by show 6 * (lxs s n 200 0).length + 3 ≤ 6009; omega) (tE_lxS _ _ _ _ _) (fun i n e => by simp at e) (by show (0 : Int) ≤ 20; omega) (by omega) e1).2.2.2.2.2.2.2.2
    have ne := tE_ne te
    cases hr : T.1.2.2 with
    | nil => rw [hr] at ne; simp at ne
    | cons a l =>
      have m := sP_mem _ _ _ _ _ _ e1 a (by rw [hr]; exact List.mem_cons_self)
      rw [hr] at z
      exact lxS_32 s hl _ _ a m z
  · cases e2

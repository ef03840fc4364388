/-! the kind of a word: the text of the words, sign by sign -/
section
variable {d : Nat} {Y : am_Y} {h : am_H} {pc : Nat} {ls : am_L} {st : List am_V} {Q : Option am_V → am_H → Prop} {x : Int}
theorem ak_ldlen (hd0 : decode am_Tokens_wordKind.2.1 pc = .ok (.ldc 86, 2)) (hd2 : decode am_Tokens_wordKind.2.1 (pc + 2) = .ok (.invokevirtual 88, 3)) (hrs : am_rs st ≤ 8) (k : am_wp am_Tokens_wordKind (d + 8) Y (pc + 5) ls (.inl 135 :: st) h Q) : am_wp am_Tokens_wordKind (d + 8) Y pc ls st h Q := by
  intro p l e s m args below meth c G A H locs r X hP hD hS ho hl hs hr
  refine va_ldcS (tx := am_tx) X.1 X.2.1 X.2.2.2.2.1 X.str.1 hd0 ?_
  exact ak_callV (pc := pc + 2) (As := []) (d' := d + 1) (v := some 135) (rest := st.map (am_vv G.2.1)) X hP hD hS ho hr.1 hd2 ak_len_w rfl am_ml_Tokens_88 (by omega) ak_lenC rfl rfl rfl (by rw [am_rs_eq]; exact hrs) fun H1 locs1 hP1 hS1 => k p l e s m args below meth c G A H1 locs1 r X hP1 hD hS1 ho hl (am_cs (show am_ri 135 from ⟨by decide, by decide⟩) hs) hr
theorem ak_ldch {i : Int} (hd0 : decode am_Tokens_wordKind.2.1 pc = .ok (.ldc 86, 2)) (hd2 : decode am_Tokens_wordKind.2.1 (pc + 2) = .ok (.iload_n 3, 1)) (hd3 : decode am_Tokens_wordKind.2.1 (pc + 3) = .ok (.invokevirtual 94, 3)) (hv : ls[3]? = some (some (.inl i))) (h0 : 0 ≤ i) (h1 : i < 135) (hrs : am_rs st ≤ 8) (k : am_wp am_Tokens_wordKind (d + 8) Y (pc + 6) ls (.inl (ak_bt.getD i.toNat 0) :: st) h Q) : am_wp am_Tokens_wordKind (d + 8) Y pc ls st h Q := by
  intro p l e s m args below meth c G A H locs r X hP hD hS ho hl hs hr
  refine va_ldcS (tx := am_tx) X.1 X.2.1 X.2.2.2.2.1 X.str.1 hd0 ?_
  refine lv_iload_n (pc := pc + 2) (x := Int32.ofInt i) X.1 X.2.1 hd2 rfl (hr.2.2 3 _ hv) ?_
  exact ak_callV (pc := pc + 3) (As := [.int (Int32.ofInt i)]) (d' := d + 3) (v := some (ak_bt.getD i.toNat 0)) (rest := st.map (am_vv G.2.1)) X hP hD hS ho hr.1 hd3 ak_charAt_w rfl am_ml_Tokens_94 (by omega) (ak_charAtC h0 h1) rfl rfl rfl (by rw [am_rs_eq]; exact hrs) fun H1 locs1 hP1 hS1 => k p l e s m args below meth c G A H1 locs1 r X hP1 hD hS1 ho hl (am_cs (show am_ri (ak_bt.getD i.toNat 0) from (ak_sign ⟨i.toNat, by omega⟩).2.1) hs) hr
/-- from number n and the word s on, what is left of the text being l -/
def wk (x : Int) : List Int → Int → Int → Int
  | [], _, _ => 24
  | c :: l, n, s => if c = 32 then (if s = x then n else wk x l (n + 1) 0) else wk x l n (am_w (am_w (s * 27) + am_w (am_w (c - 97) + 1)))
def wsg : List Int → Int → List Int
  | [], _ => []
  | c :: l, s => if c = 32 then s :: wsg l 0 else wsg l (am_w (am_w (s * 27) + am_w (am_w (c - 97) + 1)))
def wkl (x : Int) : List Int → Int → Int
  | [], _ => 24
  | w :: l, n => if w = x then n else wkl x l (n + 1)
theorem wk_eq (x : Int) : ∀ (l : List Int) (n s : Int), wk x l n s = wkl x (wsg l s) n
  | [], n, s => rfl
  | c :: l, n, s => by
    unfold wk wsg
    by_cases e : c = 32
    · rw [if_pos e, if_pos e, wkl, wk_eq x l]
    · rw [if_neg e, if_neg e, wk_eq x l]
theorem wsg_is : wsg ak_bt 0 = lxK := by decide +kernel
theorem wkl_is (x : Int) : ∀ (l : List Int) (n : Int), wkl x l n = if x ∈ l then n + (l.idxOf x : Int) else 24
  | [], n => by simp [wkl]
  | w :: l, n => by
    rw [wkl, wkl_is x l]
    by_cases e : w = x
    · subst e
      simp
    · rw [if_neg e, List.idxOf_cons]
      have e2 : ¬ x = w := fun z => e z.symm
      by_cases q : x ∈ l
      · have b : (w == x) = false := by simp [e]
        rw [if_pos q, if_pos (List.mem_cons_of_mem _ q), b]
        simp only [Bool.false_eq_true, if_false, cond_false]
        omega
      · rw [if_neg q, if_neg (by simp [e2, q])]
theorem wk_is (x : Int) : wk x ak_bt 0 0 = lxk x := by
  rw [wk_eq, wsg_is, wkl_is]
  unfold lxk
  by_cases q : x ∈ lxK
  · rw [if_pos q, if_pos q]
    omega
  · rw [if_neg q, if_neg q]
theorem ak_bt_len : ak_bt.length = 135 := by decide +kernel
theorem ak_bt_drop {k : Nat} (hk : k < 135) : ak_bt.drop k = ak_bt.getD k 0 :: ak_bt.drop (k + 1) := by
  have hl : k < ak_bt.length := by rw [ak_bt_len]; exact hk
  rw [List.drop_eq_getElem_cons hl, List.getD_eq_getElem?_getD, List.getElem?_eq_getElem hl]
  rfl
theorem wk_loop : ∀ j k : Nat, j + k = 135 → ∀ n s : Int, 0 ≤ n → n ≤ k → wk x (ak_bt.drop k) n s = lxk x → am_wp am_Tokens_wordKind (d + 8) Y 6 [some (.inl x), some (.inl n), some (.inl s), some (.inl (k : Int))] [] h (am_qI fun r h1 => h1 = h ∧ r = lxk x)
  | 0, k, hk, n, s, h0, h1, e => by
    refine am_iload_n (pc := 6) ad_Tokens_wordKind_6 rfl ?_
    refine ak_ldlen (pc := 7) ad_Tokens_wordKind_7 ad_Tokens_wordKind_9 (Nat.le_of_ble_eq_true rfl) ?_
    refine am_icmp_ge (pc := 12) (tgt := 64) ad_Tokens_wordKind_12 (by decide) (fun _ => ?_) fun z => by omega
    refine am_bipush (pc := 64) ad_Tokens_wordKind_64 ⟨by decide, by decide⟩ ?_
    refine am_iret (pc := 66) ad_Tokens_wordKind_66 rfl ?_
    rw [am_qI_s]
    refine ⟨rfl, ?_⟩
    rw [← e, List.drop_eq_nil_of_le (by rw [ak_bt_len]; omega)]
    rfl
  | j + 1, k, hk, n, s, h0, h1, e => by
    have nx := wk_loop j (k + 1) (by omega)
    rw [ak_bt_drop (by omega), wk] at e
    rw [show ((k + 1 : Nat) : Int) = (k : Int) + 1 from by omega] at nx
    refine am_iload_n (pc := 6) ad_Tokens_wordKind_6 rfl ?_
    refine ak_ldlen (pc := 7) ad_Tokens_wordKind_7 ad_Tokens_wordKind_9 (Nat.le_of_ble_eq_true rfl) ?_
    refine am_icmp_ge (pc := 12) (tgt := 64) ad_Tokens_wordKind_12 (by decide) (fun z => by omega) fun _ => ?_
    refine ak_ldch (pc := 15) (i := (k : Int)) ad_Tokens_wordKind_15 ad_Tokens_wordKind_17 ad_Tokens_wordKind_18 rfl (by omega) (by omega) (Nat.le_of_ble_eq_true rfl) ?_
    rw [Int.toNat_natCast]
    refine am_bipush (pc := 21) ad_Tokens_wordKind_21 ⟨by decide, by decide⟩ ?_
    refine am_icmp_eq (pc := 23) (tgt := 46) ad_Tokens_wordKind_23 (by decide) (fun q => ?_) fun q => ?_
    · rw [if_pos q] at e
      refine am_iload_n (pc := 46) ad_Tokens_wordKind_46 rfl ?_
      refine am_iload_n (pc := 47) ad_Tokens_wordKind_47 rfl ?_
      refine am_icmp_ne (pc := 48) (tgt := 53) ad_Tokens_wordKind_48 (by decide) (fun q2 => ?_) fun q2 => ?_
      · rw [if_neg q2] at e
        refine am_iinc (pc := 53) ad_Tokens_wordKind_53 rfl (by decide) rfl (by unfold am_ri; omega) rfl ?_
        refine am_iconst (pc := 56) ad_Tokens_wordKind_56 ⟨by decide, by decide⟩ ?_
        refine am_istore_n (pc := 57) ad_Tokens_wordKind_57 (by decide) rfl rfl ?_
        refine am_iinc (pc := 58) ad_Tokens_wordKind_58 rfl (by decide) rfl (by unfold am_ri; omega) rfl ?_
        exact am_goto (pc := 61) (tgt := 6) ad_Tokens_wordKind_61 (by decide) (nx (n + 1) 0 (by omega) (by omega) e)
      · rw [if_pos q2] at e
        refine am_iload_n (pc := 51) ad_Tokens_wordKind_51 rfl ?_
        refine am_iret (pc := 52) ad_Tokens_wordKind_52 rfl ?_
        rw [am_qI_s]
        exact ⟨rfl, e⟩
    · rw [if_neg q] at e
      refine am_iload_n (pc := 26) ad_Tokens_wordKind_26 rfl ?_
      refine am_bipush (pc := 27) ad_Tokens_wordKind_27 ⟨by decide, by decide⟩ ?_
      refine am_imulW (pc := 29) ad_Tokens_wordKind_29 ?_
      refine ak_ldch (pc := 30) (i := (k : Int)) ad_Tokens_wordKind_30 ad_Tokens_wordKind_32 ad_Tokens_wordKind_33 rfl (by omega) (by omega) (Nat.le_of_ble_eq_true rfl) ?_
      rw [Int.toNat_natCast]
      refine am_bipush (pc := 36) ad_Tokens_wordKind_36 ⟨by decide, by decide⟩ ?_
      refine am_isubW (pc := 38) ad_Tokens_wordKind_38 ?_
      refine am_iconst (pc := 39) ad_Tokens_wordKind_39 ⟨by decide, by decide⟩ ?_
      refine am_iaddW (pc := 40) ad_Tokens_wordKind_40 ?_
      refine am_iaddW (pc := 41) ad_Tokens_wordKind_41 ?_
      refine am_istore_n (pc := 42) ad_Tokens_wordKind_42 (by decide) rfl rfl ?_
      refine am_goto (pc := 43) (tgt := 58) ad_Tokens_wordKind_43 (by decide) ?_
      refine am_iinc (pc := 58) ad_Tokens_wordKind_58 rfl (by decide) rfl (by unfold am_ri; omega) rfl ?_
      exact am_goto (pc := 61) (tgt := 6) ad_Tokens_wordKind_61 (by decide) (nx n _ h0 (by omega) e)
theorem ac_wordKind : am_cI am_Tokens_wordKind (d + 8) Y [.inl x] h (fun r h1 => h1 = h ∧ r = lxk x) := by
  refine am_Met.of (by decide) rfl (Nat.le_of_ble_eq_true rfl) ?_
  refine am_iconst (pc := 0) ad_Tokens_wordKind_0 ⟨by decide, by decide⟩ ?_
  refine am_istore_n (pc := 1) ad_Tokens_wordKind_1 (by decide) rfl rfl ?_
  refine am_iconst (pc := 2) ad_Tokens_wordKind_2 ⟨by decide, by decide⟩ ?_
  refine am_istore_n (pc := 3) ad_Tokens_wordKind_3 (by decide) rfl rfl ?_
  refine am_iconst (pc := 4) ad_Tokens_wordKind_4 ⟨by decide, by decide⟩ ?_
  refine am_istore_n (pc := 5) ad_Tokens_wordKind_5 (by decide) rfl rfl ?_
  exact wk_loop 135 0 rfl 0 0 (by omega) (by omega) (wk_is x)
end

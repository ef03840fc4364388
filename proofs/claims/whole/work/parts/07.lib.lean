/-! rows: Math.max, Math.min, System.arraycopy -/
theorem am_maxI {x y : Int} (hx : am_ri x) (hy : am_ri y) : (if Int32.ofInt x < Int32.ofInt y then Int32.ofInt y else Int32.ofInt x) = Int32.ofInt (max x y) := by
  by_cases h : x < y
  · rw [if_pos ((am_ilt hx hy).mpr h), Int.max_eq_right (by omega)]
  · rw [if_neg (fun e => h ((am_ilt hx hy).mp e)), Int.max_eq_left (by omega)]
theorem am_minI {x y : Int} (hx : am_ri x) (hy : am_ri y) : (if Int32.ofInt y < Int32.ofInt x then Int32.ofInt y else Int32.ofInt x) = Int32.ofInt (min x y) := by
  by_cases h : y < x
  · rw [if_pos ((am_ilt hy hx).mpr h), Int.min_eq_right (by omega)]
  · rw [if_neg (fun e => h ((am_ilt hy hx).mp e)), Int.min_eq_left (by omega)]
theorem am_maxJ {x y : Int} (hx : am_rl x) (hy : am_rl y) : (if Int64.ofInt y < Int64.ofInt x then Int64.ofInt x else Int64.ofInt y) = Int64.ofInt (max x y) := by
  by_cases h : y < x
  · rw [if_pos ((am_llt hy hx).mpr h), Int.max_eq_left (by omega)]
  · rw [if_neg (fun e => h ((am_llt hy hx).mp e)), Int.max_eq_right (by omega)]
/-- a block of cells is copied -/
def am_cp (h : am_H) (a b sp dp n : Nat) : am_H := fun q i => if q = b ∧ dp ≤ i ∧ i < dp + n then h a (sp + (i - dp)) else h q i
section
variable {M : am_M} {d : Nat} {Y : am_Y} {pc : Nat} {ls : am_L} {st : List am_V} {h : am_H} {Q : Option am_V → am_H → Prop}
theorem am_max {x y : Int} {idx : Nat} (hd : decode M.2.1 pc = .ok (.invokestatic idx, 3)) (h1 : Cond.methodLink M.1.cls idx Lib.Math.max.name ∈ am_ws) (h2 : Cond.static Lib.Math.max.name ∈ am_ws) (h3 : Cond.initialized "java/lang/Math" ∈ am_ws) (h4 : Cond.code Lib.Math.max.name Lib.Math.max.code 2 (some .int) ∈ am_ws) (hdd : 0 < d) (hrs : am_rs st ≤ 8) (k : am_wp M d Y (pc + 3) ls (.inl (max x y) :: st) h Q) : am_wp M d Y pc ls (.inl y :: .inl x :: st) h Q := by
  intro p l e s m args below meth c G A H locs r X hP hD hS ho hl hs hr
  have hy : am_ri y := am_hd hs
  have hx : am_ri x := am_hd (am_tl hs)
  have kk := k p l e s m args below meth c G A H locs r X hP hD hS ho hl (am_cs (show am_ri (max x y) from ⟨by have := hx.1; omega, by have := hx.2; have := hy.2; omega⟩) (am_tl (am_tl hs))) hr
  simp only [List.map_cons, am_vv] at kk ⊢
  rw [← am_maxI hx hy] at kk
  have hW := X.2.2.2.2.2.2.1
  exact va_mmax X.1 X.2.1 (X.2.2.1.trans hr.1.symm) X.2.2.2.2.1 (hW _ h1) (hW _ h2) (hW _ h3) (hW _ h4) (show 1 ≤ d by omega) (show _ + 13 ≤ 64 * d by rw [am_rs_eq]; omega) (Nat.le_refl _) (Nat.le_refl _) hd kk
theorem am_min {x y : Int} {idx : Nat} (hd : decode M.2.1 pc = .ok (.invokestatic idx, 3)) (h1 : Cond.methodLink M.1.cls idx Lib.Math.min.name ∈ am_ws) (h2 : Cond.static Lib.Math.min.name ∈ am_ws) (h3 : Cond.initialized "java/lang/Math" ∈ am_ws) (h4 : Cond.code Lib.Math.min.name Lib.Math.min.code 2 (some .int) ∈ am_ws) (hdd : 0 < d) (hrs : am_rs st ≤ 8) (k : am_wp M d Y (pc + 3) ls (.inl (min x y) :: st) h Q) : am_wp M d Y pc ls (.inl y :: .inl x :: st) h Q := by
  intro p l e s m args below meth c G A H locs r X hP hD hS ho hl hs hr
  have hy : am_ri y := am_hd hs
  have hx : am_ri x := am_hd (am_tl hs)
  have kk := k p l e s m args below meth c G A H locs r X hP hD hS ho hl (am_cs (show am_ri (min x y) from ⟨by have := hx.1; have := hy.1; omega, by have := hx.2; omega⟩) (am_tl (am_tl hs))) hr
  simp only [List.map_cons, am_vv] at kk ⊢
  rw [← am_minI hx hy] at kk
  have hW := X.2.2.2.2.2.2.1
  exact va_mmin X.1 X.2.1 (X.2.2.1.trans hr.1.symm) X.2.2.2.2.1 (hW _ h1) (hW _ h2) (hW _ h3) (hW _ h4) (show 1 ≤ d by omega) (show _ + 13 ≤ 64 * d by rw [am_rs_eq]; omega) (Nat.le_refl _) (Nat.le_refl _) hd kk
theorem am_maxL {x y : Int} {idx : Nat} (hd : decode M.2.1 pc = .ok (.invokestatic idx, 3)) (h1 : Cond.methodLink M.1.cls idx Lib.MathLoose.max_long.x ∈ am_ws) (h2 : Cond.static Lib.MathLoose.max_long.x ∈ am_ws) (h3 : Cond.initialized "java/lang/Math" ∈ am_ws) (h4 : Cond.code Lib.MathLoose.max_long.x Lib.MathLoose.max_long.code 4 (some .long) ∈ am_ws) (hdd : 0 < d) (hrs : am_rs st ≤ 8) (k : am_wp M d Y (pc + 3) ls (.inr (.inl (max x y)) :: st) h Q) : am_wp M d Y pc ls (.inr (.inl y) :: .inr (.inl x) :: st) h Q := by
  intro p l e s m args below meth c G A H locs r X hP hD hS ho hl hs hr
  have hy : am_rl y := am_hd hs
  have hx : am_rl x := am_hd (am_tl hs)
  have kk := k p l e s m args below meth c G A H locs r X hP hD hS ho hl (am_cs (show am_rl (max x y) from ⟨by have := hx.1; omega, by have := hx.2; have := hy.2; omega⟩) (am_tl (am_tl hs))) hr
  simp only [List.map_cons, am_vv] at kk ⊢
  rw [← am_maxJ hx hy] at kk
  have hW := X.2.2.2.2.2.2.1
  exact va_mmax_long X.1 X.2.1 (X.2.2.1.trans hr.1.symm) X.2.2.2.2.1 (hW _ h1) (hW _ h2) (hW _ h3) (hW _ h4) (show 1 ≤ d by omega) (show _ + 15 ≤ 64 * d by rw [am_rs_eq]; omega) (Nat.le_refl _) (Nat.le_refl _) hd kk
theorem am_copy_ {a b n0 n1 idx K t : Nat} {ty : FieldType} {sp dp n : Int} (hK : (K = 14 ∧ t = 1 ∧ ty = .int) ∨ (K = 13 ∧ t = 0 ∧ ty = .byte)) (hd : decode M.2.1 pc = .ok (.invokestatic idx, 3)) (h1 : Cond.methodLink M.1.cls idx arraycopyName ∈ am_ws) (h2 : Cond.native arraycopyName ∈ am_ws) (h3 : Cond.static arraycopyName ∈ am_ws) (h4 : Cond.initialized "java/lang/System" ∈ am_ws) (hdd : 0 < d) (hrs : am_rs st ≤ 8)
    (hYa : Y[a]? = some (K, n0)) (hYb : Y[b]? = some (K, n1)) (hq : 0 ≤ sp ∧ 0 ≤ dp ∧ 0 ≤ n ∧ sp + n ≤ n0 ∧ dp + n ≤ n1) (k : am_wp M d Y (pc + 3) ls st (am_cp h a b sp.toNat dp.toNat n.toNat) Q) : am_wp M d Y pc ls (.inl n :: .inl dp :: .inr (.inr b) :: .inl sp :: .inr (.inr a) :: st) h Q := by
  intro p l e s m args below meth c G A H locs r X hP hD hS ho hl hs hr
  have hn : am_ri n := am_hd hs
  have hdp : am_ri dp := am_hd (am_tl hs)
  have hsp : am_ri sp := am_hd (am_tl (am_tl (am_tl hs)))
  have hst := am_tl (am_tl (am_tl (am_tl (am_tl hs))))
  have heE : ∀ (h : am_H) (o n : Nat), am_e G.2.1 G.2.2.1 h o (K, n) = .inl (G.2.2.1 K, n, .inl (fun j => Int32.ofInt (h o j))) := by
    intro h o n
    rcases hK with ⟨rfl, -⟩ | ⟨rfl, -⟩
    · exact am_e14
    · exact am_e13
  have hea := am_c_at (ad := G.2.1) (ka := G.2.2.1) (h := h) hYa
  have heb := am_c_at (ad := G.2.1) (ka := G.2.2.1) (h := h) hYb
  rw [heE] at hea heb
  have hset : (am_c G.2.1 G.2.2.1 Y h).set b (G.2.1 b, .inl (G.2.2.1 K, n1, .inl (va_cpy (fun j => Int32.ofInt (h a j)) (fun j => Int32.ofInt (h b j)) sp.toNat dp.toNat n.toNat))) = am_c G.2.1 G.2.2.1 Y (am_cp h a b sp.toNat dp.toNat n.toNat) := by
    refine am_c_set hYb ?_ (fun q hq => ?_)
    · rw [heE]
      congr 4
      funext j
      unfold va_cpy am_cp
      by_cases hj : dp.toNat ≤ j ∧ j < dp.toNat + n.toNat
      · rw [if_pos hj, if_pos ⟨rfl, hj⟩]
      · rw [if_neg hj, if_neg (fun z => hj z.2)]
    · funext i
      unfold am_cp
      rw [if_neg (fun z => hq z.1)]
  have hW := X.2.2.2.2.2.2.1
  have htys : (am_tys G.2.2.1)[t]? = some (G.2.2.1 K, ty) := by
    rcases hK with ⟨rfl, rfl, rfl⟩ | ⟨rfl, rfl, rfl⟩ <;> rfl
  have hprim : refKind ty = false := by rcases hK with ⟨-, -, rfl⟩ | ⟨-, -, rfl⟩ <;> rfl
  have hfit : ∀ i, i < (Int32.ofInt n).toNatClampNeg → fits ty (.int (Int32.ofInt (h a ((Int32.ofInt sp).toNatClampNeg + i)))) = true := by
    intro i _
    rcases hK with ⟨rfl, -, rfl⟩ | ⟨rfl, -, rfl⟩
    · rfl
    · have hb := (ho a _ hYa ((Int32.ofInt sp).toNatClampNeg + i)).2.2.2 rfl
      generalize h a ((Int32.ofInt sp).toNatClampNeg + i) = z at hb ⊢
      have e1 : Int32.ofInt z = (Int32.ofInt z).toInt8.toInt32 := by
        rw [Int32.toInt8_ofInt]
        exact (Int8.toInt32_ofInt hb.1 (show z ≤ 127 by omega)).symm
      rw [e1]
      exact pk_fb _
  have hnl : ∀ z : Int, am_ri z → 0 ≤ z → ¬ Int32.ofInt z < 0 := fun z hz h0 e => by
    have := (am_ilt hz (show am_ri 0 from ⟨by omega, by omega⟩)).mp e
    omega
  have hnf : nativeFrameWords "java/lang/System" "arraycopy" 5 + 11 ≤ 40 := by decide +kernel
  have hloc : ((st.map (am_vv G.2.1)).map fun v => v.category).sum + (nativeFrameWords "java/lang/System" "arraycopy" 5 + 11) ≤ 64 * d := by rw [am_rs_eq]; omega
  refine va_copyi X.1 X.2.1 (X.2.2.1.trans hr.1.symm) X.2.2.2.2.1 (hW _ h1) (hW _ h2) (hW _ h3) (hW _ h4) X.2.2.2.2.2.2.2.2.1 hP hD hS a b t t hea heb htys htys hprim (hnl _ hsp hq.1) (hnl _ hdp hq.2.1) (hnl _ hn hq.2.2.1) (by rw [am_cn hsp, am_cn hn]; omega) (by rw [am_cn hdp, am_cn hn]; omega) hfit (show 1 ≤ d by omega) hloc hd ?_
  rw [am_cn hsp, am_cn hdp, am_cn hn, hset]
  intro H1 locs1 hP1 hD1 hS1
  refine k p l e s m args below meth c G A H1 locs1 r X hP1 hD1 hS1 (fun o y hy j => ?_) hl hst hr
  unfold am_cp
  by_cases hj : o = b ∧ dp.toNat ≤ j ∧ j < dp.toNat + n.toNat
  · rw [if_pos hj]
    obtain ⟨rfl, -⟩ := hj
    rw [hYb] at hy
    cases hy
    have e1 : am_ty (K, n1) j = am_ty (K, n0) (sp.toNat + (j - dp.toNat)) := by rcases hK with ⟨rfl, -⟩ | ⟨rfl, -⟩ <;> rfl
    rw [e1]
    exact ho a _ hYa _
  · rw [if_neg hj]
    exact ho o y hy j
end

/-! A WORLD OF FIXED OBJECTS over numbers: objects have numbers (places in a layout), their cells hold whole numbers (Int), references are fixed by the layout. am_wp: from here the method comes to its end with Q. -/
abbrev am_V : Type := Int ⊕ (Int ⊕ Nat)
abbrev am_H : Type := Nat → Nat → Int
abbrev am_Y : Type := List (Nat × Nat)
abbrev am_L : Type := List (Option am_V)
def am_vv (ad : Nat → Nat) (v : am_V) : Value := match v with
  | .inl x => .int (Int32.ofInt x)
  | .inr (.inl x) => .long (Int64.ofInt x)
  | .inr (.inr o) => .ref (ad o)
def am_ri (x : Int) : Prop := -2147483648 ≤ x ∧ x < 2147483648
def am_rl (x : Int) : Prop := -9223372036854775808 ≤ x ∧ x < 9223372036854775808
/-- what a cell of a sort holds: 0 int, 1 long, 2 boolean, 3 byte -/
def am_rg (t : Nat) (x : Int) : Prop := (t = 0 → am_ri x) ∧ (t = 1 → am_rl x) ∧ (t = 2 → x = 0 ∨ x = 1) ∧ (t = 3 → -128 ≤ x ∧ x < 128)
def am_rv (v : am_V) : Prop := match v with
  | .inl x => am_ri x
  | .inr (.inl x) => am_rl x
  | .inr (.inr _) => True
def am_fv (ad : Nat → Nat) (o f : Nat) (x : Int) : Value :=
  if f = 0 then .int (Int32.ofInt x) else if f = 1 then .long (Int64.ofInt x) else if f = 2 then .int (Int32.ofInt x) else .ref (ad (o + (f - 3)))
def am_fs (ad : Nat → Nat) (o : Nat) (g : Nat → Int) (l : List Nat) : List Value := (List.range l.length).map fun j => am_fv ad o (l.getD j 0) (g j)
/-- the sort of a cell: of an object's field, of an array's element -/
def am_ty (y : Nat × Nat) (j : Nat) : Nat :=
  if y.1 < 13 then (am_fk y.1).getD j 9 else if y.1 = 13 then 3 else if y.1 = 14 then 0 else if y.1 = 15 then 1 else if y.1 = 16 then 2 else 9
def am_ok (Y : am_Y) (h : am_H) : Prop := ∀ (o : Nat) (y : Nat × Nat), Y[o]? = some y → ∀ j : Nat, am_rg (am_ty y j) (h o j)
def am_e (ad : Nat → Nat) (ka : Nat → ClassId) (h : am_H) (o : Nat) (y : Nat × Nat) : va_E :=
  if y.1 < 13 then .inr (y.1, am_fs ad o (h o) (am_fk y.1))
  else if y.1 = 15 then .inl (ka 15, y.2, .inr (.inl (fun j => Int64.ofInt (h o j))))
  else if y.1 = 17 then .inl (ka 17, y.2, .inr (.inr (.inr (.inr (fun j => some (ad (o + 1 + 24 * j)))))))
  else .inl (ka y.1, y.2, .inl (fun j => Int32.ofInt (h o j)))
def am_c (ad : Nat → Nat) (ka : Nat → ClassId) (Y : am_Y) (h : am_H) : va_W := (List.range Y.length).map fun o => (ad o, am_e ad ka h o (Y.getD o (0, 0)))
def am_u (h : am_H) (o j : Nat) (x : Int) : am_H := fun q i => if q = o ∧ i = j then x else h q i
theorem am_u_s (h : am_H) (o j : Nat) (x : Int) : am_u h o j x o j = x := by simp [am_u]
theorem am_u_o {h : am_H} {o j q i : Nat} {x : Int} (hq : q ≠ o) : am_u h o j x q i = h q i := by simp [am_u, hq]
theorem am_u_j {h : am_H} {o j q i : Nat} {x : Int} (hi : i ≠ j) : am_u h o j x q i = h q i := by simp [am_u, hi]
theorem am_c_len {ad : Nat → Nat} {ka : Nat → ClassId} {Y : am_Y} {h : am_H} : (am_c ad ka Y h).length = Y.length := by simp [am_c]
theorem am_c_at {ad : Nat → Nat} {ka : Nat → ClassId} {Y : am_Y} {h : am_H} {o : Nat} {y : Nat × Nat} (hY : Y[o]? = some y) : (am_c ad ka Y h)[o]? = some (ad o, am_e ad ka h o y) := by
  obtain ⟨hl, rfl⟩ := List.getElem?_eq_some_iff.mp hY
  simp [am_c, hl]
theorem am_c_lt {ad : Nat → Nat} {ka : Nat → ClassId} {Y : am_Y} {h : am_H} {o : Nat} {q : Nat × va_E} (hq : (am_c ad ka Y h)[o]? = some q) : ∃ y, Y[o]? = some y ∧ q = (ad o, am_e ad ka h o y) := by
  have hl : o < Y.length := by
    have := (List.getElem?_eq_some_iff.mp hq).1
    rwa [am_c_len] at this
  have hy : Y[o]? = some Y[o] := List.getElem?_eq_getElem hl
  rw [am_c_at hy] at hq
  exact ⟨_, hy, (Option.some.inj hq).symm⟩
/-- one cell's entry is set: the rest is as it was -/
theorem am_c_set {ad : Nat → Nat} {ka : Nat → ClassId} {Y : am_Y} {h h' : am_H} {o : Nat} {y : Nat × Nat} {e : va_E} (hY : Y[o]? = some y) (he : e = am_e ad ka h' o y) (hne : ∀ q, q ≠ o → h' q = h q) : (am_c ad ka Y h).set o (ad o, e) = am_c ad ka Y h' := by
  have hl : o < Y.length := (List.getElem?_eq_some_iff.mp hY).1
  apply List.ext_getElem?
  intro q
  by_cases hq : q = o
  · subst hq
    rw [List.getElem?_set_self (by rw [am_c_len]; exact hl), am_c_at hY, he]
  · rw [List.getElem?_set_ne (Ne.symm hq)]
    by_cases hq2 : q < Y.length
    · have hy : Y[q]? = some Y[q] := List.getElem?_eq_getElem hq2
      rw [am_c_at hy, am_c_at hy]
      have e1 : am_e ad ka h q Y[q] = am_e ad ka h' q Y[q] := by
        unfold am_e
        rw [hne q hq]
      rw [e1]
    · rw [List.getElem?_eq_none (by rw [am_c_len]; omega), List.getElem?_eq_none (by rw [am_c_len]; omega)]
/-- numbers as ints -/
theorem am_i {x : Int} (h : am_ri x) : (Int32.ofInt x).toInt = x := Int32.toInt_ofInt_of_le (by unfold am_ri at h; omega) (by unfold am_ri at h; omega)
theorem am_l {x : Int} (h : am_rl x) : (Int64.ofInt x).toInt = x := Int64.toInt_ofInt_of_le (by unfold am_rl at h; omega) (by unfold am_rl at h; omega)
theorem am_ieq {x y : Int} (hx : am_ri x) (hy : am_ri y) : Int32.ofInt x = Int32.ofInt y ↔ x = y := by
  rw [← Int32.toInt_inj, am_i hx, am_i hy]
theorem am_ile {x y : Int} (hx : am_ri x) (hy : am_ri y) : Int32.ofInt x ≤ Int32.ofInt y ↔ x ≤ y := by
  rw [Int32.le_iff_toInt_le, am_i hx, am_i hy]
theorem am_ilt {x y : Int} (hx : am_ri x) (hy : am_ri y) : Int32.ofInt x < Int32.ofInt y ↔ x < y := by
  rw [Int32.lt_iff_toInt_lt, am_i hx, am_i hy]
theorem am_llt {x y : Int} (hx : am_rl x) (hy : am_rl y) : Int64.ofInt x < Int64.ofInt y ↔ x < y := by
  rw [Int64.lt_iff_toInt_lt, am_l hx, am_l hy]
theorem am_leq {x y : Int} (hx : am_rl x) (hy : am_rl y) : Int64.ofInt x = Int64.ofInt y ↔ x = y := by
  rw [← Int64.toInt_inj, am_l hx, am_l hy]
theorem am_cn {x : Int} (h : am_ri x) : (Int32.ofInt x).toNatClampNeg = x.toNat := Int32.toNatClampNeg_ofInt_of_le (by unfold am_ri at h; omega) (by unfold am_ri at h; omega)
theorem am_in {x : Int} {n : Nat} (hx : am_ri x) (h0 : 0 ≤ x) (h1 : x < n) : vp_in (Int32.ofInt x) n := by
  rw [vp_in_iff, am_i hx]
  exact ⟨h0, h1⟩
theorem am_zero : Int32.ofInt 0 = 0 := rfl
/-- the words of the tables that move from call to call -/
def am_ws : List Cond := lw_tbl.filter goodWord
def am_wn : List Cond := [.methodLinkNest "NightHelp$Village" 73 ⟨"NightHelp", "copyRow", "([I[I)V"⟩ "NightHelp", .methodLinkNest "NightHelp$Book" 57 ⟨"NightHelp", "copyRow", "([I[I)V"⟩ "NightHelp", .methodLinkNest "NightHelp$Bonds" 31 ⟨"NightHelp", "copyRow", "([I[I)V"⟩ "NightHelp", .methodLinkNest "NightHelp$Run" 71 ⟨"NightHelp", "copyRow", "([I[I)V"⟩ "NightHelp", .methodLinkNest "NightHelp$Left" 72 ⟨"NightHelp", "copyRow", "([I[I)V"⟩ "NightHelp"]
theorem am_ws_good : GoodIn am_ws am_ws := fun w h => ⟨h, good_of_word (List.mem_filter.mp h).2⟩
theorem am_ws_of {w : Cond} (h : w ∈ lw_tbl) (hg : goodWord w = true) : w ∈ am_ws := List.mem_filter.mpr ⟨h, hg⟩
def am_tys (ka : Nat → ClassId) : List (ClassId × FieldType) := [(ka 13, .byte), (ka 14, .int), (ka 15, .long), (ka 16, .boolean), (ka 17, .object "NightHelp$State")]
/-- the String constant of the words, and what its methods read -/
def am_tx : String := "help person can needs friend sees binds out gift year helps hidden thanks leaves or and not bound free gained felt helped bonds broken "
def am_bt : List Int32 := am_tx.toList.map (fun c => Int32.ofNat c.toNat)
def am_str (sa : Nat × Nat) (A : Nat → Prop) (U : State) (H : Heap) : Prop :=
  vk_R "NightHelp$Tokens" 86 am_tx sa.1 U ∧ vk_S 1 [135] [am_bt] (fun _ => sa.1) (fun _ => sa.2) A U H ∧
  va_Z "java/lang/String" "COMPACT_STRINGS" "Z" (.int 1) A U H ∧ va_Zq "jdk/internal/util/Preconditions" "SIOOBE_FORMATTER" "Ljava/util/function/BiFunction;" A U H
abbrev am_G : Type := va_G × (Nat → Nat) × (Nat → ClassId) × (Nat × Nat)
/-- the world at a state -/
def am_W (G : am_G) (A : Nat → Prop) (Y : am_Y) (h : am_H) (U : State) : Prop :=
  va_P G.1 am_cl (am_c G.2.1 G.2.2.1 Y h) U.heap ∧ va_K G.1 am_cl (am_tys G.2.2.1) U ∧ (∀ w ∈ am_wn, va_Nw w U) ∧ am_str G.2.2.2 A U U.heap
def am_Q (G : am_G) (A : Nat → Prop) (Y : am_Y) (Q : Option am_V → am_H → Prop) : Array Value → State → Outcome → State → Prop := fun _ st o t =>
  (∃ (r : Option am_V) (h' : am_H), o = .returned (r.map (am_vv G.2.1)) ∧ Q r h' ∧ am_ok Y h' ∧ (∀ v, r = some v → am_rv v) ∧ va_P G.1 am_cl (am_c G.2.1 G.2.2.1 Y h') t.heap) ∧ va_F A st t
def am_rm (d : Nat) : Room := { frames := d, cells := 0, slots := 0, locals := 64 * d }
/-- the machine, the method, the tables, the classes, the words, the String -/
def am_X (M : am_M) (p : Program) (s : State) (m : MethodId) (args : Array Value) (meth : Method) (c : Code) (G : am_G) (A : Nat → Prop) : Prop :=
  p.tables.exec = Jvm.exec ∧ c.code = M.2.1 ∧ c.maxLocals = M.2.2.1 ∧ meth.sig.returnType = M.2.2.2 ∧ s.vm.findClass M.1.cls = some m.cls ∧ meth.locks = false ∧
  (∀ w ∈ am_ws, w.before args s = true) ∧ (∀ w ∈ am_wn, va_Nw w s) ∧ va_K G.1 am_cl (am_tys G.2.2.1) s ∧ am_str G.2.2.2 A s s.heap
/-- the locals -/
def am_lv (ad : Nat → Nat) (nL : Nat) (ls : am_L) (r : Array Slot) : Prop := r.size = nL ∧ lv_wf r ∧ ∀ (i : Nat) (v : am_V), ls[i]? = some (some v) → r[i]? = some (.val (am_vv ad v))
def am_ll (ls : am_L) : Prop := ∀ (i : Nat) (v : am_V), ls[i]? = some (some v) → am_rv v
def am_wp (M : am_M) (d : Nat) (Y : am_Y) (pc : Nat) (ls : am_L) (st : List am_V) (h : am_H) (Q : Option am_V → am_H → Prop) : Prop :=
  ∀ (p : Program) (l : Launch) (e : Env) (s : State) (m : MethodId) (args : Array Value) (below : List Frame) (meth : Method) (c : Code) (G : am_G) (A : Nat → Prop) (H : Heap) (locs : List Loc) (r : Array Slot),
    am_X M p s m args meth c G A → va_P G.1 am_cl (am_c G.2.1 G.2.2.1 Y h) H → va_D A (am_c G.2.1 G.2.2.1 Y h) → va_S A s.heap H locs → am_ok Y h → am_ll ls → (∀ v ∈ st, am_rv v) → am_lv G.2.1 M.2.2.1 ls r →
    W p l e (am_rm d) s m args below meth c H locs 0 0 (MQ below (am_Q G A Y Q) args s 0 0 A) (F0 m pc r (st.map (am_vv G.2.1)))
/-- a method's contract -/
def am_Met (M : am_M) (d : Nat) (Y : am_Y) (av : List am_V) (h : am_H) (Q : Option am_V → am_H → Prop) : Prop :=
  ∀ (l : Launch) (G : am_G) (A : Nat → Prop), va_D A (am_c G.2.1 G.2.2.1 Y h) → am_ok Y h → (∀ v ∈ av, am_rv v) →
    Met l M.1 (.code M.1 M.2.1 M.2.2.1 M.2.2.2 :: am_ws) (am_rm d) (va_Pc (av.map (am_vv G.2.1)) (am_W G A Y h)) (am_Q G A Y Q) 0 0 A

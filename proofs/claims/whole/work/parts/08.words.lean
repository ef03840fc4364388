/-! words of the tables, by their places -/
theorem am_t {w : Cond} (i : Nat) (h : tables_1[i]? = some w) (hg : goodWord w = true) : w ∈ am_ws := am_ws_of (List.mem_append_right _ (List.mem_of_getElem? h)) hg
theorem am_v {w : Cond} (i : Nat) (h : (k2_sels lw_privs)[i]? = some w) (hg : goodWord w = true) : w ∈ am_ws := am_ws_of (List.mem_append_left _ (List.mem_of_getElem? h)) hg
theorem am_mems (ws : List Cond) (ps : List Nat) (hp : ps.filterMap (fun i => tables_1[i]?) = ws) (h : ws.all goodWord = true) : ∀ w ∈ ws, w ∈ am_ws := by
  intro w hw
  have hg := List.all_eq_true.mp h w hw
  rw [← hp] at hw
  obtain ⟨i, -, hi⟩ := List.mem_filterMap.mp hw
  exact am_t i hi hg
theorem am_uw0 : ∀ w ∈ u_ws am_R0 am_T0 5, w ∈ am_ws := am_mems _ [430, 432, 434, 436, 438] (by decide +kernel) (by decide +kernel)
theorem am_c0 : ∃ (T : u_T) (N : Nat), 0 < 13 ∧ am_cl[0]? = some (am_R0, T, N) := ⟨am_T0, 5, by decide, rfl⟩
theorem am_f0_0 : am_fo 0 0 "NightHelp$Best" "values" "[J" 4 true := ⟨am_R0, am_T0, 5, am_y0, rfl, by decide, rfl, rfl, rfl, by decide, am_uw0, am_p0, am_n0, fun e => absurd e (by decide), fun e => absurd e (by decide), fun e => absurd e (by decide)⟩
theorem am_f0_1 : am_fo 0 1 "NightHelp$Best" "acts" "[I" 5 true := ⟨am_R0, am_T0, 5, am_y0, rfl, by decide, rfl, rfl, rfl, by decide, am_uw0, am_p0, am_n0, fun e => absurd e (by decide), fun e => absurd e (by decide), fun e => absurd e (by decide)⟩
theorem am_f0_2 : am_fo 0 2 "NightHelp$Best" "byDay" "J" 1 false := ⟨am_R0, am_T0, 5, am_y0, rfl, by decide, rfl, rfl, rfl, by decide, am_uw0, am_p0, am_n0, fun e => absurd e (by decide), fun _ => rfl, fun e => absurd e (by decide)⟩
theorem am_f0_3 : am_fo 0 3 "NightHelp$Best" "byNight" "J" 1 false := ⟨am_R0, am_T0, 5, am_y0, rfl, by decide, rfl, rfl, rfl, by decide, am_uw0, am_p0, am_n0, fun e => absurd e (by decide), fun _ => rfl, fun e => absurd e (by decide)⟩
theorem am_f0_4 : am_fo 0 4 "NightHelp$Best" "found" "J" 1 false := ⟨am_R0, am_T0, 5, am_y0, rfl, by decide, rfl, rfl, rfl, by decide, am_uw0, am_p0, am_n0, fun e => absurd e (by decide), fun _ => rfl, fun e => absurd e (by decide)⟩
theorem am_uw1 : ∀ w ∈ u_ws am_R1 am_T1 3, w ∈ am_ws := am_mems _ [181, 183, 185] (by decide +kernel) (by decide +kernel)
theorem am_c1 : ∃ (T : u_T) (N : Nat), 1 < 13 ∧ am_cl[1]? = some (am_R1, T, N) := ⟨am_T1, 3, by decide, rfl⟩
theorem am_f1_0 : am_fo 1 0 "NightHelp$Bonds" "made" "[I" 4 true := ⟨am_R1, am_T1, 3, am_y1, rfl, by decide, rfl, rfl, rfl, by decide, am_uw1, am_p1, am_n1, fun e => absurd e (by decide), fun e => absurd e (by decide), fun e => absurd e (by decide)⟩
theorem am_f1_1 : am_fo 1 1 "NightHelp$Bonds" "last" "[I" 5 true := ⟨am_R1, am_T1, 3, am_y1, rfl, by decide, rfl, rfl, rfl, by decide, am_uw1, am_p1, am_n1, fun e => absurd e (by decide), fun e => absurd e (by decide), fun e => absurd e (by decide)⟩
theorem am_f1_2 : am_fo 1 2 "NightHelp$Bonds" "ever" "I" 0 false := ⟨am_R1, am_T1, 3, am_y1, rfl, by decide, rfl, rfl, rfl, by decide, am_uw1, am_p1, am_n1, fun _ => rfl, fun e => absurd e (by decide), fun e => absurd e (by decide)⟩
theorem am_uw2 : ∀ w ∈ u_ws am_R2 am_T2 10, w ∈ am_ws := am_mems _ [214, 216, 218, 220, 222, 224, 226, 228, 230, 232] (by decide +kernel) (by decide +kernel)
theorem am_c2 : ∃ (T : u_T) (N : Nat), 2 < 13 ∧ am_cl[2]? = some (am_R2, T, N) := ⟨am_T2, 10, by decide, rfl⟩
theorem am_f2_0 : am_fo 2 0 "NightHelp$Book" "lines" "I" 0 false := ⟨am_R2, am_T2, 10, am_y2, rfl, by decide, rfl, rfl, rfl, by decide, am_uw2, am_p2, am_n2, fun _ => rfl, fun e => absurd e (by decide), fun e => absurd e (by decide)⟩
theorem am_f2_1 : am_fo 2 1 "NightHelp$Book" "year" "I" 0 false := ⟨am_R2, am_T2, 10, am_y2, rfl, by decide, rfl, rfl, rfl, by decide, am_uw2, am_p2, am_n2, fun _ => rfl, fun e => absurd e (by decide), fun e => absurd e (by decide)⟩
theorem am_f2_2 : am_fo 2 2 "NightHelp$Book" "wrongLines" "I" 0 false := ⟨am_R2, am_T2, 10, am_y2, rfl, by decide, rfl, rfl, rfl, by decide, am_uw2, am_p2, am_n2, fun _ => rfl, fun e => absurd e (by decide), fun e => absurd e (by decide)⟩
theorem am_f2_3 : am_fo 2 3 "NightHelp$Book" "astray" "I" 0 false := ⟨am_R2, am_T2, 10, am_y2, rfl, by decide, rfl, rfl, rfl, by decide, am_uw2, am_p2, am_n2, fun _ => rfl, fun e => absurd e (by decide), fun e => absurd e (by decide)⟩
theorem am_f2_4 : am_fo 2 4 "NightHelp$Book" "wrongs" "[I" 4 true := ⟨am_R2, am_T2, 10, am_y2, rfl, by decide, rfl, rfl, rfl, by decide, am_uw2, am_p2, am_n2, fun e => absurd e (by decide), fun e => absurd e (by decide), fun e => absurd e (by decide)⟩
theorem am_f2_5 : am_fo 2 5 "NightHelp$Book" "gained" "[I" 5 true := ⟨am_R2, am_T2, 10, am_y2, rfl, by decide, rfl, rfl, rfl, by decide, am_uw2, am_p2, am_n2, fun e => absurd e (by decide), fun e => absurd e (by decide), fun e => absurd e (by decide)⟩
theorem am_f2_6 : am_fo 2 6 "NightHelp$Book" "helped" "[I" 6 true := ⟨am_R2, am_T2, 10, am_y2, rfl, by decide, rfl, rfl, rfl, by decide, am_uw2, am_p2, am_n2, fun e => absurd e (by decide), fun e => absurd e (by decide), fun e => absurd e (by decide)⟩
theorem am_f2_7 : am_fo 2 7 "NightHelp$Book" "broken" "[I" 7 true := ⟨am_R2, am_T2, 10, am_y2, rfl, by decide, rfl, rfl, rfl, by decide, am_uw2, am_p2, am_n2, fun e => absurd e (by decide), fun e => absurd e (by decide), fun e => absurd e (by decide)⟩
theorem am_f2_8 : am_fo 2 8 "NightHelp$Book" "bonds" "LNightHelp$Bonds;" 8 true := ⟨am_R2, am_T2, 10, am_y2, rfl, by decide, rfl, rfl, rfl, by decide, am_uw2, am_p2, am_n2, fun e => absurd e (by decide), fun e => absurd e (by decide), fun e => absurd e (by decide)⟩
theorem am_f2_9 : am_fo 2 9 "NightHelp$Book" "doneBy" "[I" 11 true := ⟨am_R2, am_T2, 10, am_y2, rfl, by decide, rfl, rfl, rfl, by decide, am_uw2, am_p2, am_n2, fun e => absurd e (by decide), fun e => absurd e (by decide), fun e => absurd e (by decide)⟩
theorem am_uw3 : ∀ w ∈ u_ws am_R3 am_T3 8, w ∈ am_ws := am_mems _ [369, 371, 373, 375, 377, 379, 381, 383] (by decide +kernel) (by decide +kernel)
theorem am_c3 : ∃ (T : u_T) (N : Nat), 3 < 13 ∧ am_cl[3]? = some (am_R3, T, N) := ⟨am_T3, 8, by decide, rfl⟩
theorem am_f3_0 : am_fo 3 0 "NightHelp$BookText" "tokens" "LNightHelp$Tokens;" 4 true := ⟨am_R3, am_T3, 8, am_y3, rfl, by decide, rfl, rfl, rfl, by decide, am_uw3, am_p3, am_n3, fun e => absurd e (by decide), fun e => absurd e (by decide), fun e => absurd e (by decide)⟩
theorem am_f3_1 : am_fo 3 1 "NightHelp$BookText" "draft" "LNightHelp$Book;" 8 true := ⟨am_R3, am_T3, 8, am_y3, rfl, by decide, rfl, rfl, rfl, by decide, am_uw3, am_p3, am_n3, fun e => absurd e (by decide), fun e => absurd e (by decide), fun e => absurd e (by decide)⟩
theorem am_f3_2 : am_fo 3 2 "NightHelp$BookText" "verb" "I" 0 false := ⟨am_R3, am_T3, 8, am_y3, rfl, by decide, rfl, rfl, rfl, by decide, am_uw3, am_p3, am_n3, fun _ => rfl, fun e => absurd e (by decide), fun e => absurd e (by decide)⟩
theorem am_f3_3 : am_fo 3 3 "NightHelp$BookText" "nextYear" "I" 0 false := ⟨am_R3, am_T3, 8, am_y3, rfl, by decide, rfl, rfl, rfl, by decide, am_uw3, am_p3, am_n3, fun _ => rfl, fun e => absurd e (by decide), fun e => absurd e (by decide)⟩
theorem am_f3_4 : am_fo 3 4 "NightHelp$BookText" "who" "I" 0 false := ⟨am_R3, am_T3, 8, am_y3, rfl, by decide, rfl, rfl, rfl, by decide, am_uw3, am_p3, am_n3, fun _ => rfl, fun e => absurd e (by decide), fun e => absurd e (by decide)⟩
theorem am_f3_5 : am_fo 3 5 "NightHelp$BookText" "whom" "I" 0 false := ⟨am_R3, am_T3, 8, am_y3, rfl, by decide, rfl, rfl, rfl, by decide, am_uw3, am_p3, am_n3, fun _ => rfl, fun e => absurd e (by decide), fun e => absurd e (by decide)⟩
theorem am_f3_6 : am_fo 3 6 "NightHelp$BookText" "deed" "I" 0 false := ⟨am_R3, am_T3, 8, am_y3, rfl, by decide, rfl, rfl, rfl, by decide, am_uw3, am_p3, am_n3, fun _ => rfl, fun e => absurd e (by decide), fun e => absurd e (by decide)⟩
theorem am_f3_7 : am_fo 3 7 "NightHelp$BookText" "hidden" "Z" 2 false := ⟨am_R3, am_T3, 8, am_y3, rfl, by decide, rfl, rfl, rfl, by decide, am_uw3, am_p3, am_n3, fun e => absurd e (by decide), fun e => absurd e (by decide), fun _ => rfl⟩
theorem am_uw4 : ∀ w ∈ u_ws am_R4 am_T4 11, w ∈ am_ws := am_mems _ [513, 515, 517, 519, 521, 523, 525, 527, 529, 531, 533] (by decide +kernel) (by decide +kernel)
theorem am_c4 : ∃ (T : u_T) (N : Nat), 4 < 13 ∧ am_cl[4]? = some (am_R4, T, N) := ⟨am_T4, 11, by decide, rfl⟩
theorem am_f4_0 : am_fo 4 0 "NightHelp$Left" "needs" "I" 0 false := ⟨am_R4, am_T4, 11, am_y4, rfl, by decide, rfl, rfl, rfl, by decide, am_uw4, am_p4, am_n4, fun _ => rfl, fun e => absurd e (by decide), fun e => absurd e (by decide)⟩
theorem am_f4_1 : am_fo 4 1 "NightHelp$Left" "by" "[I" 4 true := ⟨am_R4, am_T4, 11, am_y4, rfl, by decide, rfl, rfl, rfl, by decide, am_uw4, am_p4, am_n4, fun e => absurd e (by decide), fun e => absurd e (by decide), fun e => absurd e (by decide)⟩
theorem am_f4_2 : am_fo 4 2 "NightHelp$Left" "most" "I" 0 false := ⟨am_R4, am_T4, 11, am_y4, rfl, by decide, rfl, rfl, rfl, by decide, am_uw4, am_p4, am_n4, fun _ => rfl, fun e => absurd e (by decide), fun e => absurd e (by decide)⟩
theorem am_f4_3 : am_fo 4 3 "NightHelp$Left" "able" "[I" 5 true := ⟨am_R4, am_T4, 11, am_y4, rfl, by decide, rfl, rfl, rfl, by decide, am_uw4, am_p4, am_n4, fun e => absurd e (by decide), fun e => absurd e (by decide), fun e => absurd e (by decide)⟩
theorem am_f4_4 : am_fo 4 4 "NightHelp$Left" "load" "[I" 6 true := ⟨am_R4, am_T4, 11, am_y4, rfl, by decide, rfl, rfl, rfl, by decide, am_uw4, am_p4, am_n4, fun e => absurd e (by decide), fun e => absurd e (by decide), fun e => absurd e (by decide)⟩
theorem am_f4_5 : am_fo 4 5 "NightHelp$Left" "byBefore" "[I" 7 true := ⟨am_R4, am_T4, 11, am_y4, rfl, by decide, rfl, rfl, rfl, by decide, am_uw4, am_p4, am_n4, fun e => absurd e (by decide), fun e => absurd e (by decide), fun e => absurd e (by decide)⟩
theorem am_f4_6 : am_fo 4 6 "NightHelp$Left" "loadBefore" "[I" 8 true := ⟨am_R4, am_T4, 11, am_y4, rfl, by decide, rfl, rfl, rfl, by decide, am_uw4, am_p4, am_n4, fun e => absurd e (by decide), fun e => absurd e (by decide), fun e => absurd e (by decide)⟩
theorem am_f4_7 : am_fo 4 7 "NightHelp$Left" "queue" "[I" 9 true := ⟨am_R4, am_T4, 11, am_y4, rfl, by decide, rfl, rfl, rfl, by decide, am_uw4, am_p4, am_n4, fun e => absurd e (by decide), fun e => absurd e (by decide), fun e => absurd e (by decide)⟩
theorem am_f4_8 : am_fo 4 8 "NightHelp$Left" "queued" "I" 0 false := ⟨am_R4, am_T4, 11, am_y4, rfl, by decide, rfl, rfl, rfl, by decide, am_uw4, am_p4, am_n4, fun _ => rfl, fun e => absurd e (by decide), fun e => absurd e (by decide)⟩
theorem am_f4_9 : am_fo 4 9 "NightHelp$Left" "reached" "I" 0 false := ⟨am_R4, am_T4, 11, am_y4, rfl, by decide, rfl, rfl, rfl, by decide, am_uw4, am_p4, am_n4, fun _ => rfl, fun e => absurd e (by decide), fun e => absurd e (by decide)⟩
theorem am_f4_10 : am_fo 4 10 "NightHelp$Left" "reachedFor" "[I" 10 true := ⟨am_R4, am_T4, 11, am_y4, rfl, by decide, rfl, rfl, rfl, by decide, am_uw4, am_p4, am_n4, fun e => absurd e (by decide), fun e => absurd e (by decide), fun e => absurd e (by decide)⟩
theorem am_uw5 : ∀ w ∈ u_ws am_R5 am_T5 12, w ∈ am_ws := am_mems _ [469, 471, 473, 475, 477, 479, 481, 483, 485, 487, 489, 491] (by decide +kernel) (by decide +kernel)
theorem am_c5 : ∃ (T : u_T) (N : Nat), 5 < 13 ∧ am_cl[5]? = some (am_R5, T, N) := ⟨am_T5, 12, by decide, rfl⟩
theorem am_f5_0 : am_fo 5 0 "NightHelp$Run" "ran" "Z" 2 false := ⟨am_R5, am_T5, 12, am_y5, rfl, by decide, rfl, rfl, rfl, by decide, am_uw5, am_p5, am_n5, fun e => absurd e (by decide), fun e => absurd e (by decide), fun _ => rfl⟩
theorem am_f5_1 : am_fo 5 1 "NightHelp$Run" "persons" "I" 0 false := ⟨am_R5, am_T5, 12, am_y5, rfl, by decide, rfl, rfl, rfl, by decide, am_uw5, am_p5, am_n5, fun _ => rfl, fun e => absurd e (by decide), fun e => absurd e (by decide)⟩
theorem am_f5_2 : am_fo 5 2 "NightHelp$Run" "helped" "[I" 4 true := ⟨am_R5, am_T5, 12, am_y5, rfl, by decide, rfl, rfl, rfl, by decide, am_uw5, am_p5, am_n5, fun e => absurd e (by decide), fun e => absurd e (by decide), fun e => absurd e (by decide)⟩
theorem am_f5_3 : am_fo 5 3 "NightHelp$Run" "figures" "[I" 5 true := ⟨am_R5, am_T5, 12, am_y5, rfl, by decide, rfl, rfl, rfl, by decide, am_uw5, am_p5, am_n5, fun e => absurd e (by decide), fun e => absurd e (by decide), fun e => absurd e (by decide)⟩
theorem am_f5_4 : am_fo 5 4 "NightHelp$Run" "village" "LNightHelp$Village;" 6 true := ⟨am_R5, am_T5, 12, am_y5, rfl, by decide, rfl, rfl, rfl, by decide, am_uw5, am_p5, am_n5, fun e => absurd e (by decide), fun e => absurd e (by decide), fun e => absurd e (by decide)⟩
theorem am_f5_5 : am_fo 5 5 "NightHelp$Run" "helping" "[I" 17 true := ⟨am_R5, am_T5, 12, am_y5, rfl, by decide, rfl, rfl, rfl, by decide, am_uw5, am_p5, am_n5, fun e => absurd e (by decide), fun e => absurd e (by decide), fun e => absurd e (by decide)⟩
theorem am_f5_6 : am_fo 5 6 "NightHelp$Run" "thanking" "[I" 18 true := ⟨am_R5, am_T5, 12, am_y5, rfl, by decide, rfl, rfl, rfl, by decide, am_uw5, am_p5, am_n5, fun e => absurd e (by decide), fun e => absurd e (by decide), fun e => absurd e (by decide)⟩
theorem am_f5_7 : am_fo 5 7 "NightHelp$Run" "bonds" "LNightHelp$Bonds;" 19 true := ⟨am_R5, am_T5, 12, am_y5, rfl, by decide, rfl, rfl, rfl, by decide, am_uw5, am_p5, am_n5, fun e => absurd e (by decide), fun e => absurd e (by decide), fun e => absurd e (by decide)⟩
theorem am_f5_8 : am_fo 5 8 "NightHelp$Run" "best" "LNightHelp$Best;" 22 true := ⟨am_R5, am_T5, 12, am_y5, rfl, by decide, rfl, rfl, rfl, by decide, am_uw5, am_p5, am_n5, fun e => absurd e (by decide), fun e => absurd e (by decide), fun e => absurd e (by decide)⟩
theorem am_f5_9 : am_fo 5 9 "NightHelp$Run" "bindPlans" "[J" 25 true := ⟨am_R5, am_T5, 12, am_y5, rfl, by decide, rfl, rfl, rfl, by decide, am_uw5, am_p5, am_n5, fun e => absurd e (by decide), fun e => absurd e (by decide), fun e => absurd e (by decide)⟩
theorem am_f5_10 : am_fo 5 10 "NightHelp$Run" "nothingPlans" "[J" 26 true := ⟨am_R5, am_T5, 12, am_y5, rfl, by decide, rfl, rfl, rfl, by decide, am_uw5, am_p5, am_n5, fun e => absurd e (by decide), fun e => absurd e (by decide), fun e => absurd e (by decide)⟩
theorem am_f5_11 : am_fo 5 11 "NightHelp$Run" "seed" "I" 0 false := ⟨am_R5, am_T5, 12, am_y5, rfl, by decide, rfl, rfl, rfl, by decide, am_uw5, am_p5, am_n5, fun _ => rfl, fun e => absurd e (by decide), fun e => absurd e (by decide)⟩
theorem am_uw6 : ∀ w ∈ u_ws am_R6 am_T6 7, w ∈ am_ws := am_mems _ [404, 406, 408, 410, 412, 414, 416] (by decide +kernel) (by decide +kernel)
theorem am_c6 : ∃ (T : u_T) (N : Nat), 6 < 13 ∧ am_cl[6]? = some (am_R6, T, N) := ⟨am_T6, 7, by decide, rfl⟩
theorem am_f6_0 : am_fo 6 0 "NightHelp$SentenceText" "tokens" "LNightHelp$Tokens;" 4 true := ⟨am_R6, am_T6, 7, am_y6, rfl, by decide, rfl, rfl, rfl, by decide, am_uw6, am_p6, am_n6, fun e => absurd e (by decide), fun e => absurd e (by decide), fun e => absurd e (by decide)⟩
theorem am_f6_1 : am_fo 6 1 "NightHelp$SentenceText" "ones" "I" 0 false := ⟨am_R6, am_T6, 7, am_y6, rfl, by decide, rfl, rfl, rfl, by decide, am_uw6, am_p6, am_n6, fun _ => rfl, fun e => absurd e (by decide), fun e => absurd e (by decide)⟩
theorem am_f6_2 : am_fo 6 2 "NightHelp$SentenceText" "people" "I" 0 false := ⟨am_R6, am_T6, 7, am_y6, rfl, by decide, rfl, rfl, rfl, by decide, am_uw6, am_p6, am_n6, fun _ => rfl, fun e => absurd e (by decide), fun e => absurd e (by decide)⟩
theorem am_f6_3 : am_fo 6 3 "NightHelp$SentenceText" "everyone" "I" 0 false := ⟨am_R6, am_T6, 7, am_y6, rfl, by decide, rfl, rfl, rfl, by decide, am_uw6, am_p6, am_n6, fun _ => rfl, fun e => absurd e (by decide), fun e => absurd e (by decide)⟩
theorem am_f6_4 : am_fo 6 4 "NightHelp$SentenceText" "figures" "[I" 8 true := ⟨am_R6, am_T6, 7, am_y6, rfl, by decide, rfl, rfl, rfl, by decide, am_uw6, am_p6, am_n6, fun e => absurd e (by decide), fun e => absurd e (by decide), fun e => absurd e (by decide)⟩
theorem am_f6_5 : am_fo 6 5 "NightHelp$SentenceText" "boundPeople" "I" 0 false := ⟨am_R6, am_T6, 7, am_y6, rfl, by decide, rfl, rfl, rfl, by decide, am_uw6, am_p6, am_n6, fun _ => rfl, fun e => absurd e (by decide), fun e => absurd e (by decide)⟩
theorem am_f6_6 : am_fo 6 6 "NightHelp$SentenceText" "freePeople" "I" 0 false := ⟨am_R6, am_T6, 7, am_y6, rfl, by decide, rfl, rfl, rfl, by decide, am_uw6, am_p6, am_n6, fun _ => rfl, fun e => absurd e (by decide), fun e => absurd e (by decide)⟩
theorem am_uw7 : ∀ w ∈ u_ws am_R7 am_T7 7, w ∈ am_ws := am_mems _ [252, 254, 256, 258, 260, 262, 264] (by decide +kernel) (by decide +kernel)
theorem am_c7 : ∃ (T : u_T) (N : Nat), 7 < 13 ∧ am_cl[7]? = some (am_R7, T, N) := ⟨am_T7, 7, by decide, rfl⟩
theorem am_f7_0 : am_fo 7 0 "NightHelp$State" "village" "LNightHelp$Village;" 4 true := ⟨am_R7, am_T7, 7, am_y7, rfl, by decide, rfl, rfl, rfl, by decide, am_uw7, am_p7, am_n7, fun e => absurd e (by decide), fun e => absurd e (by decide), fun e => absurd e (by decide)⟩
theorem am_f7_1 : am_fo 7 1 "NightHelp$State" "book" "LNightHelp$Book;" 15 true := ⟨am_R7, am_T7, 7, am_y7, rfl, by decide, rfl, rfl, rfl, by decide, am_uw7, am_p7, am_n7, fun e => absurd e (by decide), fun e => absurd e (by decide), fun e => absurd e (by decide)⟩
theorem am_f7_2 : am_fo 7 2 "NightHelp$State" "helping" "[I" 24 true := ⟨am_R7, am_T7, 7, am_y7, rfl, by decide, rfl, rfl, rfl, by decide, am_uw7, am_p7, am_n7, fun e => absurd e (by decide), fun e => absurd e (by decide), fun e => absurd e (by decide)⟩
theorem am_f7_3 : am_fo 7 3 "NightHelp$State" "thanking" "[I" 25 true := ⟨am_R7, am_T7, 7, am_y7, rfl, by decide, rfl, rfl, rfl, by decide, am_uw7, am_p7, am_n7, fun e => absurd e (by decide), fun e => absurd e (by decide), fun e => absurd e (by decide)⟩
theorem am_f7_4 : am_fo 7 4 "NightHelp$State" "sentenceBytes" "[B" 26 true := ⟨am_R7, am_T7, 7, am_y7, rfl, by decide, rfl, rfl, rfl, by decide, am_uw7, am_p7, am_n7, fun e => absurd e (by decide), fun e => absurd e (by decide), fun e => absurd e (by decide)⟩
theorem am_f7_5 : am_fo 7 5 "NightHelp$State" "sentenceLength" "I" 0 false := ⟨am_R7, am_T7, 7, am_y7, rfl, by decide, rfl, rfl, rfl, by decide, am_uw7, am_p7, am_n7, fun _ => rfl, fun e => absurd e (by decide), fun e => absurd e (by decide)⟩
theorem am_f7_6 : am_fo 7 6 "NightHelp$State" "filled" "Z" 2 false := ⟨am_R7, am_T7, 7, am_y7, rfl, by decide, rfl, rfl, rfl, by decide, am_uw7, am_p7, am_n7, fun e => absurd e (by decide), fun e => absurd e (by decide), fun _ => rfl⟩
theorem am_uw8 : ∀ w ∈ u_ws am_R8 am_T8 12, w ∈ am_ws := am_mems _ [304, 306, 308, 310, 312, 314, 316, 318, 320, 322, 324, 326] (by decide +kernel) (by decide +kernel)
theorem am_c8 : ∃ (T : u_T) (N : Nat), 8 < 13 ∧ am_cl[8]? = some (am_R8, T, N) := ⟨am_T8, 12, by decide, rfl⟩
theorem am_f8_0 : am_fo 8 0 "NightHelp$Tokens" "kind" "I" 0 false := ⟨am_R8, am_T8, 12, am_y8, rfl, by decide, rfl, rfl, rfl, by decide, am_uw8, am_p8, am_n8, fun _ => rfl, fun e => absurd e (by decide), fun e => absurd e (by decide)⟩
theorem am_f8_1 : am_fo 8 1 "NightHelp$Tokens" "place" "I" 0 false := ⟨am_R8, am_T8, 12, am_y8, rfl, by decide, rfl, rfl, rfl, by decide, am_uw8, am_p8, am_n8, fun _ => rfl, fun e => absurd e (by decide), fun e => absurd e (by decide)⟩
theorem am_f8_2 : am_fo 8 2 "NightHelp$Tokens" "value" "I" 0 false := ⟨am_R8, am_T8, 12, am_y8, rfl, by decide, rfl, rfl, rfl, by decide, am_uw8, am_p8, am_n8, fun _ => rfl, fun e => absurd e (by decide), fun e => absurd e (by decide)⟩
theorem am_f8_3 : am_fo 8 3 "NightHelp$Tokens" "taken" "I" 0 false := ⟨am_R8, am_T8, 12, am_y8, rfl, by decide, rfl, rfl, rfl, by decide, am_uw8, am_p8, am_n8, fun _ => rfl, fun e => absurd e (by decide), fun e => absurd e (by decide)⟩
theorem am_f8_4 : am_fo 8 4 "NightHelp$Tokens" "fault" "I" 0 false := ⟨am_R8, am_T8, 12, am_y8, rfl, by decide, rfl, rfl, rfl, by decide, am_uw8, am_p8, am_n8, fun _ => rfl, fun e => absurd e (by decide), fun e => absurd e (by decide)⟩
theorem am_f8_5 : am_fo 8 5 "NightHelp$Tokens" "faultPlace" "I" 0 false := ⟨am_R8, am_T8, 12, am_y8, rfl, by decide, rfl, rfl, rfl, by decide, am_uw8, am_p8, am_n8, fun _ => rfl, fun e => absurd e (by decide), fun e => absurd e (by decide)⟩
theorem am_f8_6 : am_fo 8 6 "NightHelp$Tokens" "kinds" "[I" 4 true := ⟨am_R8, am_T8, 12, am_y8, rfl, by decide, rfl, rfl, rfl, by decide, am_uw8, am_p8, am_n8, fun e => absurd e (by decide), fun e => absurd e (by decide), fun e => absurd e (by decide)⟩
theorem am_f8_7 : am_fo 8 7 "NightHelp$Tokens" "places" "[I" 5 true := ⟨am_R8, am_T8, 12, am_y8, rfl, by decide, rfl, rfl, rfl, by decide, am_uw8, am_p8, am_n8, fun e => absurd e (by decide), fun e => absurd e (by decide), fun e => absurd e (by decide)⟩
theorem am_f8_8 : am_fo 8 8 "NightHelp$Tokens" "values" "[I" 6 true := ⟨am_R8, am_T8, 12, am_y8, rfl, by decide, rfl, rfl, rfl, by decide, am_uw8, am_p8, am_n8, fun e => absurd e (by decide), fun e => absurd e (by decide), fun e => absurd e (by decide)⟩
theorem am_f8_9 : am_fo 8 9 "NightHelp$Tokens" "many" "I" 0 false := ⟨am_R8, am_T8, 12, am_y8, rfl, by decide, rfl, rfl, rfl, by decide, am_uw8, am_p8, am_n8, fun _ => rfl, fun e => absurd e (by decide), fun e => absurd e (by decide)⟩
theorem am_f8_10 : am_fo 8 10 "NightHelp$Tokens" "at" "I" 0 false := ⟨am_R8, am_T8, 12, am_y8, rfl, by decide, rfl, rfl, rfl, by decide, am_uw8, am_p8, am_n8, fun _ => rfl, fun e => absurd e (by decide), fun e => absurd e (by decide)⟩
theorem am_f8_11 : am_fo 8 11 "NightHelp$Tokens" "next" "I" 0 false := ⟨am_R8, am_T8, 12, am_y8, rfl, by decide, rfl, rfl, rfl, by decide, am_uw8, am_p8, am_n8, fun _ => rfl, fun e => absurd e (by decide), fun e => absurd e (by decide)⟩
theorem am_uw9 : ∀ w ∈ u_ws am_R9 am_T9 17, w ∈ am_ws := am_mems _ [122, 124, 126, 128, 130, 132, 134, 136, 138, 140, 142, 144, 146, 148, 150, 152, 154] (by decide +kernel) (by decide +kernel)
theorem am_c9 : ∃ (T : u_T) (N : Nat), 9 < 13 ∧ am_cl[9]? = some (am_R9, T, N) := ⟨am_T9, 17, by decide, rfl⟩
theorem am_f9_0 : am_fo 9 0 "NightHelp$Village" "lines" "I" 0 false := ⟨am_R9, am_T9, 17, am_y9, rfl, by decide, rfl, rfl, rfl, by decide, am_uw9, am_p9, am_n9, fun _ => rfl, fun e => absurd e (by decide), fun e => absurd e (by decide)⟩
theorem am_f9_1 : am_fo 9 1 "NightHelp$Village" "helps" "I" 0 false := ⟨am_R9, am_T9, 17, am_y9, rfl, by decide, rfl, rfl, rfl, by decide, am_uw9, am_p9, am_n9, fun _ => rfl, fun e => absurd e (by decide), fun e => absurd e (by decide)⟩
theorem am_f9_2 : am_fo 9 2 "NightHelp$Village" "persons" "I" 0 false := ⟨am_R9, am_T9, 17, am_y9, rfl, by decide, rfl, rfl, rfl, by decide, am_uw9, am_p9, am_n9, fun _ => rfl, fun e => absurd e (by decide), fun e => absurd e (by decide)⟩
theorem am_f9_3 : am_fo 9 3 "NightHelp$Village" "needs" "I" 0 false := ⟨am_R9, am_T9, 17, am_y9, rfl, by decide, rfl, rfl, rfl, by decide, am_uw9, am_p9, am_n9, fun _ => rfl, fun e => absurd e (by decide), fun e => absurd e (by decide)⟩
theorem am_f9_4 : am_fo 9 4 "NightHelp$Village" "binds" "I" 0 false := ⟨am_R9, am_T9, 17, am_y9, rfl, by decide, rfl, rfl, rfl, by decide, am_uw9, am_p9, am_n9, fun _ => rfl, fun e => absurd e (by decide), fun e => absurd e (by decide)⟩
theorem am_f9_5 : am_fo 9 5 "NightHelp$Village" "out" "I" 0 false := ⟨am_R9, am_T9, 17, am_y9, rfl, by decide, rfl, rfl, rfl, by decide, am_uw9, am_p9, am_n9, fun _ => rfl, fun e => absurd e (by decide), fun e => absurd e (by decide)⟩
theorem am_f9_6 : am_fo 9 6 "NightHelp$Village" "gift" "I" 0 false := ⟨am_R9, am_T9, 17, am_y9, rfl, by decide, rfl, rfl, rfl, by decide, am_uw9, am_p9, am_n9, fun _ => rfl, fun e => absurd e (by decide), fun e => absurd e (by decide)⟩
theorem am_f9_7 : am_fo 9 7 "NightHelp$Village" "helpName" "[I" 4 true := ⟨am_R9, am_T9, 17, am_y9, rfl, by decide, rfl, rfl, rfl, by decide, am_uw9, am_p9, am_n9, fun e => absurd e (by decide), fun e => absurd e (by decide), fun e => absurd e (by decide)⟩
theorem am_f9_8 : am_fo 9 8 "NightHelp$Village" "worth" "[I" 5 true := ⟨am_R9, am_T9, 17, am_y9, rfl, by decide, rfl, rfl, rfl, by decide, am_uw9, am_p9, am_n9, fun e => absurd e (by decide), fun e => absurd e (by decide), fun e => absurd e (by decide)⟩
theorem am_f9_9 : am_fo 9 9 "NightHelp$Village" "hide" "[I" 6 true := ⟨am_R9, am_T9, 17, am_y9, rfl, by decide, rfl, rfl, rfl, by decide, am_uw9, am_p9, am_n9, fun e => absurd e (by decide), fun e => absurd e (by decide), fun e => absurd e (by decide)⟩
theorem am_f9_10 : am_fo 9 10 "NightHelp$Village" "personName" "[I" 7 true := ⟨am_R9, am_T9, 17, am_y9, rfl, by decide, rfl, rfl, rfl, by decide, am_uw9, am_p9, am_n9, fun e => absurd e (by decide), fun e => absurd e (by decide), fun e => absurd e (by decide)⟩
theorem am_f9_11 : am_fo 9 11 "NightHelp$Village" "limit" "[I" 8 true := ⟨am_R9, am_T9, 17, am_y9, rfl, by decide, rfl, rfl, rfl, by decide, am_uw9, am_p9, am_n9, fun e => absurd e (by decide), fun e => absurd e (by decide), fun e => absurd e (by decide)⟩
theorem am_f9_12 : am_fo 9 12 "NightHelp$Village" "pains" "[I" 9 true := ⟨am_R9, am_T9, 17, am_y9, rfl, by decide, rfl, rfl, rfl, by decide, am_uw9, am_p9, am_n9, fun e => absurd e (by decide), fun e => absurd e (by decide), fun e => absurd e (by decide)⟩
theorem am_f9_13 : am_fo 9 13 "NightHelp$Village" "friends" "[I" 10 true := ⟨am_R9, am_T9, 17, am_y9, rfl, by decide, rfl, rfl, rfl, by decide, am_uw9, am_p9, am_n9, fun e => absurd e (by decide), fun e => absurd e (by decide), fun e => absurd e (by decide)⟩
theorem am_f9_14 : am_fo 9 14 "NightHelp$Village" "sights" "[I" 11 true := ⟨am_R9, am_T9, 17, am_y9, rfl, by decide, rfl, rfl, rfl, by decide, am_uw9, am_p9, am_n9, fun e => absurd e (by decide), fun e => absurd e (by decide), fun e => absurd e (by decide)⟩
theorem am_f9_15 : am_fo 9 15 "NightHelp$Village" "needPerson" "[I" 12 true := ⟨am_R9, am_T9, 17, am_y9, rfl, by decide, rfl, rfl, rfl, by decide, am_uw9, am_p9, am_n9, fun e => absurd e (by decide), fun e => absurd e (by decide), fun e => absurd e (by decide)⟩
theorem am_f9_16 : am_fo 9 16 "NightHelp$Village" "needHelp" "[I" 13 true := ⟨am_R9, am_T9, 17, am_y9, rfl, by decide, rfl, rfl, rfl, by decide, am_uw9, am_p9, am_n9, fun e => absurd e (by decide), fun e => absurd e (by decide), fun e => absurd e (by decide)⟩
theorem am_uw10 : ∀ w ∈ u_ws am_R10 am_T10 5, w ∈ am_ws := am_mems _ [338, 340, 342, 344, 346] (by decide +kernel) (by decide +kernel)
theorem am_c10 : ∃ (T : u_T) (N : Nat), 10 < 13 ∧ am_cl[10]? = some (am_R10, T, N) := ⟨am_T10, 5, by decide, rfl⟩
theorem am_f10_0 : am_fo 10 0 "NightHelp$VillageText" "tokens" "LNightHelp$Tokens;" 4 true := ⟨am_R10, am_T10, 5, am_y10, rfl, by decide, rfl, rfl, rfl, by decide, am_uw10, am_p10, am_n10, fun e => absurd e (by decide), fun e => absurd e (by decide), fun e => absurd e (by decide)⟩
theorem am_f10_1 : am_fo 10 1 "NightHelp$VillageText" "draft" "LNightHelp$Village;" 8 true := ⟨am_R10, am_T10, 5, am_y10, rfl, by decide, rfl, rfl, rfl, by decide, am_uw10, am_p10, am_n10, fun e => absurd e (by decide), fun e => absurd e (by decide), fun e => absurd e (by decide)⟩
theorem am_f10_2 : am_fo 10 2 "NightHelp$VillageText" "bindsTold" "Z" 2 false := ⟨am_R10, am_T10, 5, am_y10, rfl, by decide, rfl, rfl, rfl, by decide, am_uw10, am_p10, am_n10, fun e => absurd e (by decide), fun e => absurd e (by decide), fun _ => rfl⟩
theorem am_f10_3 : am_fo 10 3 "NightHelp$VillageText" "outTold" "Z" 2 false := ⟨am_R10, am_T10, 5, am_y10, rfl, by decide, rfl, rfl, rfl, by decide, am_uw10, am_p10, am_n10, fun e => absurd e (by decide), fun e => absurd e (by decide), fun _ => rfl⟩
theorem am_f10_4 : am_fo 10 4 "NightHelp$VillageText" "giftTold" "Z" 2 false := ⟨am_R10, am_T10, 5, am_y10, rfl, by decide, rfl, rfl, rfl, by decide, am_uw10, am_p10, am_n10, fun e => absurd e (by decide), fun e => absurd e (by decide), fun _ => rfl⟩
theorem am_uw11 : ∀ w ∈ u_ws am_R11 am_T11 15, w ∈ am_ws := am_mems _ [551, 553, 555, 557, 559, 561, 563, 565, 567, 569, 571, 573, 575, 577, 579] (by decide +kernel) (by decide +kernel)
theorem am_c11 : ∃ (T : u_T) (N : Nat), 11 < 13 ∧ am_cl[11]? = some (am_R11, T, N) := ⟨am_T11, 15, by decide, rfl⟩
theorem am_f11_0 : am_fo 11 0 "NightHelp" "tape" "[B" 4 true := ⟨am_R11, am_T11, 15, am_y11, rfl, by decide, rfl, rfl, rfl, by decide, am_uw11, am_p11, am_n11, fun e => absurd e (by decide), fun e => absurd e (by decide), fun e => absurd e (by decide)⟩
theorem am_f11_1 : am_fo 11 1 "NightHelp" "tapeLength" "I" 0 false := ⟨am_R11, am_T11, 15, am_y11, rfl, by decide, rfl, rfl, rfl, by decide, am_uw11, am_p11, am_n11, fun _ => rfl, fun e => absurd e (by decide), fun e => absurd e (by decide)⟩
theorem am_f11_2 : am_fo 11 2 "NightHelp" "faultKind" "I" 0 false := ⟨am_R11, am_T11, 15, am_y11, rfl, by decide, rfl, rfl, rfl, by decide, am_uw11, am_p11, am_n11, fun _ => rfl, fun e => absurd e (by decide), fun e => absurd e (by decide)⟩
theorem am_f11_3 : am_fo 11 3 "NightHelp" "now" "LNightHelp$State;" 5 true := ⟨am_R11, am_T11, 15, am_y11, rfl, by decide, rfl, rfl, rfl, by decide, am_uw11, am_p11, am_n11, fun e => absurd e (by decide), fun e => absurd e (by decide), fun e => absurd e (by decide)⟩
theorem am_f11_4 : am_fo 11 4 "NightHelp" "kept" "[LNightHelp$State;" 29 true := ⟨am_R11, am_T11, 15, am_y11, rfl, by decide, rfl, rfl, rfl, by decide, am_uw11, am_p11, am_n11, fun e => absurd e (by decide), fun e => absurd e (by decide), fun e => absurd e (by decide)⟩
theorem am_f11_5 : am_fo 11 5 "NightHelp" "villageText" "LNightHelp$VillageText;" 78 true := ⟨am_R11, am_T11, 15, am_y11, rfl, by decide, rfl, rfl, rfl, by decide, am_uw11, am_p11, am_n11, fun e => absurd e (by decide), fun e => absurd e (by decide), fun e => absurd e (by decide)⟩
theorem am_f11_6 : am_fo 11 6 "NightHelp" "bookText" "LNightHelp$BookText;" 94 true := ⟨am_R11, am_T11, 15, am_y11, rfl, by decide, rfl, rfl, rfl, by decide, am_uw11, am_p11, am_n11, fun e => absurd e (by decide), fun e => absurd e (by decide), fun e => absurd e (by decide)⟩
theorem am_f11_7 : am_fo 11 7 "NightHelp" "sentenceText" "LNightHelp$SentenceText;" 108 true := ⟨am_R11, am_T11, 15, am_y11, rfl, by decide, rfl, rfl, rfl, by decide, am_uw11, am_p11, am_n11, fun e => absurd e (by decide), fun e => absurd e (by decide), fun e => absurd e (by decide)⟩
theorem am_f11_8 : am_fo 11 8 "NightHelp" "bestTable" "LNightHelp$Best;" 114 true := ⟨am_R11, am_T11, 15, am_y11, rfl, by decide, rfl, rfl, rfl, by decide, am_uw11, am_p11, am_n11, fun e => absurd e (by decide), fun e => absurd e (by decide), fun e => absurd e (by decide)⟩
theorem am_f11_9 : am_fo 11 9 "NightHelp" "latestRun" "LNightHelp$Run;" 117 true := ⟨am_R11, am_T11, 15, am_y11, rfl, by decide, rfl, rfl, rfl, by decide, am_uw11, am_p11, am_n11, fun e => absurd e (by decide), fun e => absurd e (by decide), fun e => absurd e (by decide)⟩
theorem am_f11_10 : am_fo 11 10 "NightHelp" "latestLeft" "LNightHelp$Left;" 141 true := ⟨am_R11, am_T11, 15, am_y11, rfl, by decide, rfl, rfl, rfl, by decide, am_uw11, am_p11, am_n11, fun e => absurd e (by decide), fun e => absurd e (by decide), fun e => absurd e (by decide)⟩
theorem am_f11_11 : am_fo 11 11 "NightHelp" "thinkParts" "[I" 149 true := ⟨am_R11, am_T11, 15, am_y11, rfl, by decide, rfl, rfl, rfl, by decide, am_uw11, am_p11, am_n11, fun e => absurd e (by decide), fun e => absurd e (by decide), fun e => absurd e (by decide)⟩
theorem am_f11_12 : am_fo 11 12 "NightHelp" "thinkDraft" "[I" 150 true := ⟨am_R11, am_T11, 15, am_y11, rfl, by decide, rfl, rfl, rfl, by decide, am_uw11, am_p11, am_n11, fun e => absurd e (by decide), fun e => absurd e (by decide), fun e => absurd e (by decide)⟩
theorem am_f11_13 : am_fo 11 13 "NightHelp" "thinkPersons" "I" 0 false := ⟨am_R11, am_T11, 15, am_y11, rfl, by decide, rfl, rfl, rfl, by decide, am_uw11, am_p11, am_n11, fun _ => rfl, fun e => absurd e (by decide), fun e => absurd e (by decide)⟩
theorem am_f11_14 : am_fo 11 14 "NightHelp" "thinkAll" "I" 0 false := ⟨am_R11, am_T11, 15, am_y11, rfl, by decide, rfl, rfl, rfl, by decide, am_uw11, am_p11, am_n11, fun _ => rfl, fun e => absurd e (by decide), fun e => absurd e (by decide)⟩
theorem am_uw12 : ∀ w ∈ u_ws am_R12 am_T12 65, w ∈ am_ws := am_mems _ [1442, 1444, 1446, 1448, 1450, 1452, 1454, 1456, 1458, 1460, 1462, 1464, 1466, 1468, 1470, 1472, 1474, 1476, 1478, 1480, 1482, 1484, 1486, 1488, 1490, 1492, 1494, 1496, 1498, 1500, 1502, 1504, 1506, 1508, 1510, 1512, 1514, 1516, 1518, 1520, 1522, 1524, 1526, 1528, 1530, 1532, 1534, 1536, 1538, 1540, 1542, 1544, 1546, 1548, 1550, 1552, 1554, 1556, 1558, 1560, 1562, 1564, 1566, 1568, 1570] (by decide +kernel) (by decide +kernel)
theorem am_c12 : ∃ (T : u_T) (N : Nat), 12 < 13 ∧ am_cl[12]? = some (am_R12, T, N) := ⟨am_T12, 65, by decide, rfl⟩
theorem am_f12_0 : am_fo 12 0 "NightHelpModel" "thrown" "I" 0 false := ⟨am_R12, am_T12, 65, am_y12, rfl, by decide, rfl, rfl, rfl, by decide, am_uw12, am_p12, am_n12, fun _ => rfl, fun e => absurd e (by decide), fun e => absurd e (by decide)⟩
theorem am_f12_1 : am_fo 12 1 "NightHelpModel" "tape" "[I" 4 true := ⟨am_R12, am_T12, 65, am_y12, rfl, by decide, rfl, rfl, rfl, by decide, am_uw12, am_p12, am_n12, fun e => absurd e (by decide), fun e => absurd e (by decide), fun e => absurd e (by decide)⟩
theorem am_f12_2 : am_fo 12 2 "NightHelpModel" "taped" "I" 0 false := ⟨am_R12, am_T12, 65, am_y12, rfl, by decide, rfl, rfl, rfl, by decide, am_uw12, am_p12, am_n12, fun _ => rfl, fun e => absurd e (by decide), fun e => absurd e (by decide)⟩
theorem am_f12_3 : am_fo 12 3 "NightHelpModel" "size" "I" 0 false := ⟨am_R12, am_T12, 65, am_y12, rfl, by decide, rfl, rfl, rfl, by decide, am_uw12, am_p12, am_n12, fun _ => rfl, fun e => absurd e (by decide), fun e => absurd e (by decide)⟩
theorem am_f12_4 : am_fo 12 4 "NightHelpModel" "limit" "I" 0 false := ⟨am_R12, am_T12, 65, am_y12, rfl, by decide, rfl, rfl, rfl, by decide, am_uw12, am_p12, am_n12, fun _ => rfl, fun e => absurd e (by decide), fun e => absurd e (by decide)⟩
theorem am_f12_5 : am_fo 12 5 "NightHelpModel" "to" "I" 0 false := ⟨am_R12, am_T12, 65, am_y12, rfl, by decide, rfl, rfl, rfl, by decide, am_uw12, am_p12, am_n12, fun _ => rfl, fun e => absurd e (by decide), fun e => absurd e (by decide)⟩
theorem am_f12_6 : am_fo 12 6 "NightHelpModel" "from" "I" 0 false := ⟨am_R12, am_T12, 65, am_y12, rfl, by decide, rfl, rfl, rfl, by decide, am_uw12, am_p12, am_n12, fun _ => rfl, fun e => absurd e (by decide), fun e => absurd e (by decide)⟩
theorem am_f12_7 : am_fo 12 7 "NightHelpModel" "kind" "I" 0 false := ⟨am_R12, am_T12, 65, am_y12, rfl, by decide, rfl, rfl, rfl, by decide, am_uw12, am_p12, am_n12, fun _ => rfl, fun e => absurd e (by decide), fun e => absurd e (by decide)⟩
theorem am_f12_8 : am_fo 12 8 "NightHelpModel" "number" "I" 0 false := ⟨am_R12, am_T12, 65, am_y12, rfl, by decide, rfl, rfl, rfl, by decide, am_uw12, am_p12, am_n12, fun _ => rfl, fun e => absurd e (by decide), fun e => absurd e (by decide)⟩
theorem am_f12_9 : am_fo 12 9 "NightHelpModel" "sign" "I" 0 false := ⟨am_R12, am_T12, 65, am_y12, rfl, by decide, rfl, rfl, rfl, by decide, am_uw12, am_p12, am_n12, fun _ => rfl, fun e => absurd e (by decide), fun e => absurd e (by decide)⟩
theorem am_f12_10 : am_fo 12 10 "NightHelpModel" "fault" "I" 0 false := ⟨am_R12, am_T12, 65, am_y12, rfl, by decide, rfl, rfl, rfl, by decide, am_uw12, am_p12, am_n12, fun _ => rfl, fun e => absurd e (by decide), fun e => absurd e (by decide)⟩
theorem am_f12_11 : am_fo 12 11 "NightHelpModel" "place" "I" 0 false := ⟨am_R12, am_T12, 65, am_y12, rfl, by decide, rfl, rfl, rfl, by decide, am_uw12, am_p12, am_n12, fun _ => rfl, fun e => absurd e (by decide), fun e => absurd e (by decide)⟩
theorem am_f12_12 : am_fo 12 12 "NightHelpModel" "word" "J" 1 false := ⟨am_R12, am_T12, 65, am_y12, rfl, by decide, rfl, rfl, rfl, by decide, am_uw12, am_p12, am_n12, fun e => absurd e (by decide), fun _ => rfl, fun e => absurd e (by decide)⟩
theorem am_f12_13 : am_fo 12 13 "NightHelpModel" "told" "I" 0 false := ⟨am_R12, am_T12, 65, am_y12, rfl, by decide, rfl, rfl, rfl, by decide, am_uw12, am_p12, am_n12, fun _ => rfl, fun e => absurd e (by decide), fun e => absurd e (by decide)⟩
theorem am_f12_14 : am_fo 12 14 "NightHelpModel" "now" "[I" 5 true := ⟨am_R12, am_T12, 65, am_y12, rfl, by decide, rfl, rfl, rfl, by decide, am_uw12, am_p12, am_n12, fun e => absurd e (by decide), fun e => absurd e (by decide), fun e => absurd e (by decide)⟩
theorem am_f12_15 : am_fo 12 15 "NightHelpModel" "read" "[I" 6 true := ⟨am_R12, am_T12, 65, am_y12, rfl, by decide, rfl, rfl, rfl, by decide, am_uw12, am_p12, am_n12, fun e => absurd e (by decide), fun e => absurd e (by decide), fun e => absurd e (by decide)⟩
theorem am_f12_16 : am_fo 12 16 "NightHelpModel" "line" "[I" 7 true := ⟨am_R12, am_T12, 65, am_y12, rfl, by decide, rfl, rfl, rfl, by decide, am_uw12, am_p12, am_n12, fun e => absurd e (by decide), fun e => absurd e (by decide), fun e => absurd e (by decide)⟩
theorem am_f12_17 : am_fo 12 17 "NightHelpModel" "kept" "[I" 8 true := ⟨am_R12, am_T12, 65, am_y12, rfl, by decide, rfl, rfl, rfl, by decide, am_uw12, am_p12, am_n12, fun e => absurd e (by decide), fun e => absurd e (by decide), fun e => absurd e (by decide)⟩
theorem am_f12_18 : am_fo 12 18 "NightHelpModel" "name" "[J" 9 true := ⟨am_R12, am_T12, 65, am_y12, rfl, by decide, rfl, rfl, rfl, by decide, am_uw12, am_p12, am_n12, fun e => absurd e (by decide), fun e => absurd e (by decide), fun e => absurd e (by decide)⟩
theorem am_f12_19 : am_fo 12 19 "NightHelpModel" "readName" "[J" 10 true := ⟨am_R12, am_T12, 65, am_y12, rfl, by decide, rfl, rfl, rfl, by decide, am_uw12, am_p12, am_n12, fun e => absurd e (by decide), fun e => absurd e (by decide), fun e => absurd e (by decide)⟩
theorem am_f12_20 : am_fo 12 20 "NightHelpModel" "keptName" "[J" 11 true := ⟨am_R12, am_T12, 65, am_y12, rfl, by decide, rfl, rfl, rfl, by decide, am_uw12, am_p12, am_n12, fun e => absurd e (by decide), fun e => absurd e (by decide), fun e => absurd e (by decide)⟩
theorem am_f12_21 : am_fo 12 21 "NightHelpModel" "isKept" "[Z" 12 true := ⟨am_R12, am_T12, 65, am_y12, rfl, by decide, rfl, rfl, rfl, by decide, am_uw12, am_p12, am_n12, fun e => absurd e (by decide), fun e => absurd e (by decide), fun e => absurd e (by decide)⟩
theorem am_f12_22 : am_fo 12 22 "NightHelpModel" "isBegun" "Z" 2 false := ⟨am_R12, am_T12, 65, am_y12, rfl, by decide, rfl, rfl, rfl, by decide, am_uw12, am_p12, am_n12, fun e => absurd e (by decide), fun e => absurd e (by decide), fun _ => rfl⟩
theorem am_f12_23 : am_fo 12 23 "NightHelpModel" "had" "I" 0 false := ⟨am_R12, am_T12, 65, am_y12, rfl, by decide, rfl, rfl, rfl, by decide, am_uw12, am_p12, am_n12, fun _ => rfl, fun e => absurd e (by decide), fun e => absurd e (by decide)⟩
theorem am_f12_24 : am_fo 12 24 "NightHelpModel" "lineMany" "I" 0 false := ⟨am_R12, am_T12, 65, am_y12, rfl, by decide, rfl, rfl, rfl, by decide, am_uw12, am_p12, am_n12, fun _ => rfl, fun e => absurd e (by decide), fun e => absurd e (by decide)⟩
theorem am_f12_25 : am_fo 12 25 "NightHelpModel" "bondFrom" "[I" 13 true := ⟨am_R12, am_T12, 65, am_y12, rfl, by decide, rfl, rfl, rfl, by decide, am_uw12, am_p12, am_n12, fun e => absurd e (by decide), fun e => absurd e (by decide), fun e => absurd e (by decide)⟩
theorem am_f12_26 : am_fo 12 26 "NightHelpModel" "bondTo" "[I" 14 true := ⟨am_R12, am_T12, 65, am_y12, rfl, by decide, rfl, rfl, rfl, by decide, am_uw12, am_p12, am_n12, fun e => absurd e (by decide), fun e => absurd e (by decide), fun e => absurd e (by decide)⟩
theorem am_f12_27 : am_fo 12 27 "NightHelpModel" "doneBy" "[I" 15 true := ⟨am_R12, am_T12, 65, am_y12, rfl, by decide, rfl, rfl, rfl, by decide, am_uw12, am_p12, am_n12, fun e => absurd e (by decide), fun e => absurd e (by decide), fun e => absurd e (by decide)⟩
theorem am_f12_28 : am_fo 12 28 "NightHelpModel" "gained" "[I" 16 true := ⟨am_R12, am_T12, 65, am_y12, rfl, by decide, rfl, rfl, rfl, by decide, am_uw12, am_p12, am_n12, fun e => absurd e (by decide), fun e => absurd e (by decide), fun e => absurd e (by decide)⟩
theorem am_f12_29 : am_fo 12 29 "NightHelpModel" "did" "[I" 17 true := ⟨am_R12, am_T12, 65, am_y12, rfl, by decide, rfl, rfl, rfl, by decide, am_uw12, am_p12, am_n12, fun e => absurd e (by decide), fun e => absurd e (by decide), fun e => absurd e (by decide)⟩
theorem am_f12_30 : am_fo 12 30 "NightHelpModel" "broke" "[I" 18 true := ⟨am_R12, am_T12, 65, am_y12, rfl, by decide, rfl, rfl, rfl, by decide, am_uw12, am_p12, am_n12, fun e => absurd e (by decide), fun e => absurd e (by decide), fun e => absurd e (by decide)⟩
theorem am_f12_31 : am_fo 12 31 "NightHelpModel" "wrongs" "[I" 19 true := ⟨am_R12, am_T12, 65, am_y12, rfl, by decide, rfl, rfl, rfl, by decide, am_uw12, am_p12, am_n12, fun e => absurd e (by decide), fun e => absurd e (by decide), fun e => absurd e (by decide)⟩
theorem am_f12_32 : am_fo 12 32 "NightHelpModel" "isDue" "[Z" 20 true := ⟨am_R12, am_T12, 65, am_y12, rfl, by decide, rfl, rfl, rfl, by decide, am_uw12, am_p12, am_n12, fun e => absurd e (by decide), fun e => absurd e (by decide), fun e => absurd e (by decide)⟩
theorem am_f12_33 : am_fo 12 33 "NightHelpModel" "wrongMany" "I" 0 false := ⟨am_R12, am_T12, 65, am_y12, rfl, by decide, rfl, rfl, rfl, by decide, am_uw12, am_p12, am_n12, fun _ => rfl, fun e => absurd e (by decide), fun e => absurd e (by decide)⟩
theorem am_f12_34 : am_fo 12 34 "NightHelpModel" "astray" "I" 0 false := ⟨am_R12, am_T12, 65, am_y12, rfl, by decide, rfl, rfl, rfl, by decide, am_uw12, am_p12, am_n12, fun _ => rfl, fun e => absurd e (by decide), fun e => absurd e (by decide)⟩
theorem am_f12_35 : am_fo 12 35 "NightHelpModel" "brokenMany" "I" 0 false := ⟨am_R12, am_T12, 65, am_y12, rfl, by decide, rfl, rfl, rfl, by decide, am_uw12, am_p12, am_n12, fun _ => rfl, fun e => absurd e (by decide), fun e => absurd e (by decide)⟩
theorem am_f12_36 : am_fo 12 36 "NightHelpModel" "everBound" "I" 0 false := ⟨am_R12, am_T12, 65, am_y12, rfl, by decide, rfl, rfl, rfl, by decide, am_uw12, am_p12, am_n12, fun _ => rfl, fun e => absurd e (by decide), fun e => absurd e (by decide)⟩
theorem am_f12_37 : am_fo 12 37 "NightHelpModel" "year" "I" 0 false := ⟨am_R12, am_T12, 65, am_y12, rfl, by decide, rfl, rfl, rfl, by decide, am_uw12, am_p12, am_n12, fun _ => rfl, fun e => absurd e (by decide), fun e => absurd e (by decide)⟩
theorem am_f12_38 : am_fo 12 38 "NightHelpModel" "value" "[J" 21 true := ⟨am_R12, am_T12, 65, am_y12, rfl, by decide, rfl, rfl, rfl, by decide, am_uw12, am_p12, am_n12, fun e => absurd e (by decide), fun e => absurd e (by decide), fun e => absurd e (by decide)⟩
theorem am_f12_39 : am_fo 12 39 "NightHelpModel" "act" "[I" 22 true := ⟨am_R12, am_T12, 65, am_y12, rfl, by decide, rfl, rfl, rfl, by decide, am_uw12, am_p12, am_n12, fun e => absurd e (by decide), fun e => absurd e (by decide), fun e => absurd e (by decide)⟩
theorem am_f12_40 : am_fo 12 40 "NightHelpModel" "seed" "I" 0 false := ⟨am_R12, am_T12, 65, am_y12, rfl, by decide, rfl, rfl, rfl, by decide, am_uw12, am_p12, am_n12, fun _ => rfl, fun e => absurd e (by decide), fun e => absurd e (by decide)⟩
theorem am_f12_41 : am_fo 12 41 "NightHelpModel" "runSum" "[I" 23 true := ⟨am_R12, am_T12, 65, am_y12, rfl, by decide, rfl, rfl, rfl, by decide, am_uw12, am_p12, am_n12, fun e => absurd e (by decide), fun e => absurd e (by decide), fun e => absurd e (by decide)⟩
theorem am_f12_42 : am_fo 12 42 "NightHelpModel" "runDid" "[I" 24 true := ⟨am_R12, am_T12, 65, am_y12, rfl, by decide, rfl, rfl, rfl, by decide, am_uw12, am_p12, am_n12, fun e => absurd e (by decide), fun e => absurd e (by decide), fun e => absurd e (by decide)⟩
theorem am_f12_43 : am_fo 12 43 "NightHelpModel" "runToldSum" "[I" 25 true := ⟨am_R12, am_T12, 65, am_y12, rfl, by decide, rfl, rfl, rfl, by decide, am_uw12, am_p12, am_n12, fun e => absurd e (by decide), fun e => absurd e (by decide), fun e => absurd e (by decide)⟩
theorem am_f12_44 : am_fo 12 44 "NightHelpModel" "runToldDid" "[I" 26 true := ⟨am_R12, am_T12, 65, am_y12, rfl, by decide, rfl, rfl, rfl, by decide, am_uw12, am_p12, am_n12, fun e => absurd e (by decide), fun e => absurd e (by decide), fun e => absurd e (by decide)⟩
theorem am_f12_45 : am_fo 12 45 "NightHelpModel" "helper" "I" 0 false := ⟨am_R12, am_T12, 65, am_y12, rfl, by decide, rfl, rfl, rfl, by decide, am_uw12, am_p12, am_n12, fun _ => rfl, fun e => absurd e (by decide), fun e => absurd e (by decide)⟩
theorem am_f12_46 : am_fo 12 46 "NightHelpModel" "second" "I" 0 false := ⟨am_R12, am_T12, 65, am_y12, rfl, by decide, rfl, rfl, rfl, by decide, am_uw12, am_p12, am_n12, fun _ => rfl, fun e => absurd e (by decide), fun e => absurd e (by decide)⟩
theorem am_f12_47 : am_fo 12 47 "NightHelpModel" "runMany" "I" 0 false := ⟨am_R12, am_T12, 65, am_y12, rfl, by decide, rfl, rfl, rfl, by decide, am_uw12, am_p12, am_n12, fun _ => rfl, fun e => absurd e (by decide), fun e => absurd e (by decide)⟩
theorem am_f12_48 : am_fo 12 48 "NightHelpModel" "wasRun" "Z" 2 false := ⟨am_R12, am_T12, 65, am_y12, rfl, by decide, rfl, rfl, rfl, by decide, am_uw12, am_p12, am_n12, fun e => absurd e (by decide), fun e => absurd e (by decide), fun _ => rfl⟩
theorem am_f12_49 : am_fo 12 49 "NightHelpModel" "by" "[I" 27 true := ⟨am_R12, am_T12, 65, am_y12, rfl, by decide, rfl, rfl, rfl, by decide, am_uw12, am_p12, am_n12, fun e => absurd e (by decide), fun e => absurd e (by decide), fun e => absurd e (by decide)⟩
theorem am_f12_50 : am_fo 12 50 "NightHelpModel" "load" "[I" 28 true := ⟨am_R12, am_T12, 65, am_y12, rfl, by decide, rfl, rfl, rfl, by decide, am_uw12, am_p12, am_n12, fun e => absurd e (by decide), fun e => absurd e (by decide), fun e => absurd e (by decide)⟩
theorem am_f12_51 : am_fo 12 51 "NightHelpModel" "fixed" "[I" 29 true := ⟨am_R12, am_T12, 65, am_y12, rfl, by decide, rfl, rfl, rfl, by decide, am_uw12, am_p12, am_n12, fun e => absurd e (by decide), fun e => absurd e (by decide), fun e => absurd e (by decide)⟩
theorem am_f12_52 : am_fo 12 52 "NightHelpModel" "leftTold" "[I" 30 true := ⟨am_R12, am_T12, 65, am_y12, rfl, by decide, rfl, rfl, rfl, by decide, am_uw12, am_p12, am_n12, fun e => absurd e (by decide), fun e => absurd e (by decide), fun e => absurd e (by decide)⟩
theorem am_f12_53 : am_fo 12 53 "NightHelpModel" "most" "I" 0 false := ⟨am_R12, am_T12, 65, am_y12, rfl, by decide, rfl, rfl, rfl, by decide, am_uw12, am_p12, am_n12, fun _ => rfl, fun e => absurd e (by decide), fun e => absurd e (by decide)⟩
theorem am_f12_54 : am_fo 12 54 "NightHelpModel" "triedSet" "I" 0 false := ⟨am_R12, am_T12, 65, am_y12, rfl, by decide, rfl, rfl, rfl, by decide, am_uw12, am_p12, am_n12, fun _ => rfl, fun e => absurd e (by decide), fun e => absurd e (by decide)⟩
theorem am_f12_55 : am_fo 12 55 "NightHelpModel" "leftMany" "I" 0 false := ⟨am_R12, am_T12, 65, am_y12, rfl, by decide, rfl, rfl, rfl, by decide, am_uw12, am_p12, am_n12, fun _ => rfl, fun e => absurd e (by decide), fun e => absurd e (by decide)⟩
theorem am_f12_56 : am_fo 12 56 "NightHelpModel" "thought" "[I" 31 true := ⟨am_R12, am_T12, 65, am_y12, rfl, by decide, rfl, rfl, rfl, by decide, am_uw12, am_p12, am_n12, fun e => absurd e (by decide), fun e => absurd e (by decide), fun e => absurd e (by decide)⟩
theorem am_f12_57 : am_fo 12 57 "NightHelpModel" "thoughtTold" "[I" 32 true := ⟨am_R12, am_T12, 65, am_y12, rfl, by decide, rfl, rfl, rfl, by decide, am_uw12, am_p12, am_n12, fun e => absurd e (by decide), fun e => absurd e (by decide), fun e => absurd e (by decide)⟩
theorem am_f12_58 : am_fo 12 58 "NightHelpModel" "thoughtMany" "I" 0 false := ⟨am_R12, am_T12, 65, am_y12, rfl, by decide, rfl, rfl, rfl, by decide, am_uw12, am_p12, am_n12, fun _ => rfl, fun e => absurd e (by decide), fun e => absurd e (by decide)⟩
theorem am_f12_59 : am_fo 12 59 "NightHelpModel" "thoughtAll" "I" 0 false := ⟨am_R12, am_T12, 65, am_y12, rfl, by decide, rfl, rfl, rfl, by decide, am_uw12, am_p12, am_n12, fun _ => rfl, fun e => absurd e (by decide), fun e => absurd e (by decide)⟩
theorem am_f12_60 : am_fo 12 60 "NightHelpModel" "node" "[I" 33 true := ⟨am_R12, am_T12, 65, am_y12, rfl, by decide, rfl, rfl, rfl, by decide, am_uw12, am_p12, am_n12, fun e => absurd e (by decide), fun e => absurd e (by decide), fun e => absurd e (by decide)⟩
theorem am_f12_61 : am_fo 12 61 "NightHelpModel" "nodes" "I" 0 false := ⟨am_R12, am_T12, 65, am_y12, rfl, by decide, rfl, rfl, rfl, by decide, am_uw12, am_p12, am_n12, fun _ => rfl, fun e => absurd e (by decide), fun e => absurd e (by decide)⟩
theorem am_f12_62 : am_fo 12 62 "NightHelpModel" "ones" "I" 0 false := ⟨am_R12, am_T12, 65, am_y12, rfl, by decide, rfl, rfl, rfl, by decide, am_uw12, am_p12, am_n12, fun _ => rfl, fun e => absurd e (by decide), fun e => absurd e (by decide)⟩
theorem am_f12_63 : am_fo 12 63 "NightHelpModel" "within" "I" 0 false := ⟨am_R12, am_T12, 65, am_y12, rfl, by decide, rfl, rfl, rfl, by decide, am_uw12, am_p12, am_n12, fun _ => rfl, fun e => absurd e (by decide), fun e => absurd e (by decide)⟩
theorem am_f12_64 : am_fo 12 64 "NightHelpModel" "top" "I" 0 false := ⟨am_R12, am_T12, 65, am_y12, rfl, by decide, rfl, rfl, rfl, by decide, am_uw12, am_p12, am_n12, fun _ => rfl, fun e => absurd e (by decide), fun e => absurd e (by decide)⟩
theorem am_fl_Village_45 : Cond.fieldLink "NightHelp$Village" 45 "NightHelp$Village" "lines" "I" ∈ am_ws := am_t 52 (by decide +kernel) (by decide +kernel)
theorem am_fl_VillageText_54 : Cond.fieldLink "NightHelp$VillageText" 54 "NightHelp$Village" "lines" "I" ∈ am_ws := am_t 53 (by decide +kernel) (by decide +kernel)
theorem am_fl_Nh_121 : Cond.fieldLink "NightHelp" 121 "NightHelp$Village" "lines" "I" ∈ am_ws := am_t 54 (by decide +kernel) (by decide +kernel)
theorem am_fl_Village_49 : Cond.fieldLink "NightHelp$Village" 49 "NightHelp$Village" "helps" "I" ∈ am_ws := am_t 55 (by decide +kernel) (by decide +kernel)
theorem am_fl_VillageText_86 : Cond.fieldLink "NightHelp$VillageText" 86 "NightHelp$Village" "helps" "I" ∈ am_ws := am_t 56 (by decide +kernel) (by decide +kernel)
theorem am_fl_Nh_207 : Cond.fieldLink "NightHelp" 207 "NightHelp$Village" "helps" "I" ∈ am_ws := am_t 57 (by decide +kernel) (by decide +kernel)
theorem am_fl_Village_52 : Cond.fieldLink "NightHelp$Village" 52 "NightHelp$Village" "persons" "I" ∈ am_ws := am_t 58 (by decide +kernel) (by decide +kernel)
theorem am_fl_Left_55 : Cond.fieldLink "NightHelp$Left" 55 "NightHelp$Village" "persons" "I" ∈ am_ws := am_t 59 (by decide +kernel) (by decide +kernel)
theorem am_fl_SentenceText_60 : Cond.fieldLink "NightHelp$SentenceText" 60 "NightHelp$Village" "persons" "I" ∈ am_ws := am_t 60 (by decide +kernel) (by decide +kernel)
theorem am_fl_Run_76 : Cond.fieldLink "NightHelp$Run" 76 "NightHelp$Village" "persons" "I" ∈ am_ws := am_t 61 (by decide +kernel) (by decide +kernel)
theorem am_fl_VillageText_121 : Cond.fieldLink "NightHelp$VillageText" 121 "NightHelp$Village" "persons" "I" ∈ am_ws := am_t 62 (by decide +kernel) (by decide +kernel)
theorem am_fl_Book_69 : Cond.fieldLink "NightHelp$Book" 69 "NightHelp$Village" "persons" "I" ∈ am_ws := am_t 63 (by decide +kernel) (by decide +kernel)
theorem am_fl_Nh_210 : Cond.fieldLink "NightHelp" 210 "NightHelp$Village" "persons" "I" ∈ am_ws := am_t 64 (by decide +kernel) (by decide +kernel)
theorem am_fl_Left_46 : Cond.fieldLink "NightHelp$Left" 46 "NightHelp$Village" "needs" "I" ∈ am_ws := am_t 65 (by decide +kernel) (by decide +kernel)
theorem am_fl_Village_55 : Cond.fieldLink "NightHelp$Village" 55 "NightHelp$Village" "needs" "I" ∈ am_ws := am_t 66 (by decide +kernel) (by decide +kernel)
theorem am_fl_Run_96 : Cond.fieldLink "NightHelp$Run" 96 "NightHelp$Village" "needs" "I" ∈ am_ws := am_t 67 (by decide +kernel) (by decide +kernel)
theorem am_fl_Book_77 : Cond.fieldLink "NightHelp$Book" 77 "NightHelp$Village" "needs" "I" ∈ am_ws := am_t 68 (by decide +kernel) (by decide +kernel)
theorem am_fl_VillageText_150 : Cond.fieldLink "NightHelp$VillageText" 150 "NightHelp$Village" "needs" "I" ∈ am_ws := am_t 69 (by decide +kernel) (by decide +kernel)
theorem am_fl_Nh_213 : Cond.fieldLink "NightHelp" 213 "NightHelp$Village" "needs" "I" ∈ am_ws := am_t 70 (by decide +kernel) (by decide +kernel)
theorem am_fl_Village_58 : Cond.fieldLink "NightHelp$Village" 58 "NightHelp$Village" "binds" "I" ∈ am_ws := am_t 71 (by decide +kernel) (by decide +kernel)
theorem am_fl_Best_75 : Cond.fieldLink "NightHelp$Best" 75 "NightHelp$Village" "binds" "I" ∈ am_ws := am_t 72 (by decide +kernel) (by decide +kernel)
theorem am_fl_Book_105 : Cond.fieldLink "NightHelp$Book" 105 "NightHelp$Village" "binds" "I" ∈ am_ws := am_t 73 (by decide +kernel) (by decide +kernel)
theorem am_fl_VillageText_162 : Cond.fieldLink "NightHelp$VillageText" 162 "NightHelp$Village" "binds" "I" ∈ am_ws := am_t 74 (by decide +kernel) (by decide +kernel)
theorem am_fl_Run_181 : Cond.fieldLink "NightHelp$Run" 181 "NightHelp$Village" "binds" "I" ∈ am_ws := am_t 75 (by decide +kernel) (by decide +kernel)
theorem am_fl_Nh_216 : Cond.fieldLink "NightHelp" 216 "NightHelp$Village" "binds" "I" ∈ am_ws := am_t 76 (by decide +kernel) (by decide +kernel)
theorem am_fl_Village_61 : Cond.fieldLink "NightHelp$Village" 61 "NightHelp$Village" "out" "I" ∈ am_ws := am_t 77 (by decide +kernel) (by decide +kernel)
theorem am_fl_Best_95 : Cond.fieldLink "NightHelp$Best" 95 "NightHelp$Village" "out" "I" ∈ am_ws := am_t 78 (by decide +kernel) (by decide +kernel)
theorem am_fl_Book_119 : Cond.fieldLink "NightHelp$Book" 119 "NightHelp$Village" "out" "I" ∈ am_ws := am_t 79 (by decide +kernel) (by decide +kernel)
theorem am_fl_VillageText_165 : Cond.fieldLink "NightHelp$VillageText" 165 "NightHelp$Village" "out" "I" ∈ am_ws := am_t 80 (by decide +kernel) (by decide +kernel)
theorem am_fl_Nh_219 : Cond.fieldLink "NightHelp" 219 "NightHelp$Village" "out" "I" ∈ am_ws := am_t 81 (by decide +kernel) (by decide +kernel)
theorem am_fl_Village_64 : Cond.fieldLink "NightHelp$Village" 64 "NightHelp$Village" "gift" "I" ∈ am_ws := am_t 82 (by decide +kernel) (by decide +kernel)
theorem am_fl_Best_86 : Cond.fieldLink "NightHelp$Best" 86 "NightHelp$Village" "gift" "I" ∈ am_ws := am_t 83 (by decide +kernel) (by decide +kernel)
theorem am_fl_VillageText_168 : Cond.fieldLink "NightHelp$VillageText" 168 "NightHelp$Village" "gift" "I" ∈ am_ws := am_t 84 (by decide +kernel) (by decide +kernel)
theorem am_fl_Nh_222 : Cond.fieldLink "NightHelp" 222 "NightHelp$Village" "gift" "I" ∈ am_ws := am_t 85 (by decide +kernel) (by decide +kernel)
theorem am_fl_Village_9 : Cond.fieldLink "NightHelp$Village" 9 "NightHelp$Village" "helpName" "[I" ∈ am_ws := am_t 86 (by decide +kernel) (by decide +kernel)
theorem am_fl_VillageText_95 : Cond.fieldLink "NightHelp$VillageText" 95 "NightHelp$Village" "helpName" "[I" ∈ am_ws := am_t 87 (by decide +kernel) (by decide +kernel)
theorem am_fl_Village_15 : Cond.fieldLink "NightHelp$Village" 15 "NightHelp$Village" "worth" "[I" ∈ am_ws := am_t 88 (by decide +kernel) (by decide +kernel)
theorem am_fl_Best_56 : Cond.fieldLink "NightHelp$Best" 56 "NightHelp$Village" "worth" "[I" ∈ am_ws := am_t 89 (by decide +kernel) (by decide +kernel)
theorem am_fl_VillageText_105 : Cond.fieldLink "NightHelp$VillageText" 105 "NightHelp$Village" "worth" "[I" ∈ am_ws := am_t 90 (by decide +kernel) (by decide +kernel)
theorem am_fl_Book_98 : Cond.fieldLink "NightHelp$Book" 98 "NightHelp$Village" "worth" "[I" ∈ am_ws := am_t 91 (by decide +kernel) (by decide +kernel)
theorem am_fl_Run_150 : Cond.fieldLink "NightHelp$Run" 150 "NightHelp$Village" "worth" "[I" ∈ am_ws := am_t 92 (by decide +kernel) (by decide +kernel)
theorem am_fl_Nh_161 : Cond.fieldLink "NightHelp" 161 "NightHelp$Village" "worth" "[I" ∈ am_ws := am_t 93 (by decide +kernel) (by decide +kernel)
theorem am_fl_Village_18 : Cond.fieldLink "NightHelp$Village" 18 "NightHelp$Village" "hide" "[I" ∈ am_ws := am_t 94 (by decide +kernel) (by decide +kernel)
theorem am_fl_Best_64 : Cond.fieldLink "NightHelp$Best" 64 "NightHelp$Village" "hide" "[I" ∈ am_ws := am_t 95 (by decide +kernel) (by decide +kernel)
theorem am_fl_VillageText_111 : Cond.fieldLink "NightHelp$VillageText" 111 "NightHelp$Village" "hide" "[I" ∈ am_ws := am_t 96 (by decide +kernel) (by decide +kernel)
theorem am_fl_Book_95 : Cond.fieldLink "NightHelp$Book" 95 "NightHelp$Village" "hide" "[I" ∈ am_ws := am_t 97 (by decide +kernel) (by decide +kernel)
theorem am_fl_Nh_164 : Cond.fieldLink "NightHelp" 164 "NightHelp$Village" "hide" "[I" ∈ am_ws := am_t 98 (by decide +kernel) (by decide +kernel)
theorem am_fl_Run_156 : Cond.fieldLink "NightHelp$Run" 156 "NightHelp$Village" "hide" "[I" ∈ am_ws := am_t 99 (by decide +kernel) (by decide +kernel)
theorem am_fl_Village_21 : Cond.fieldLink "NightHelp$Village" 21 "NightHelp$Village" "personName" "[I" ∈ am_ws := am_t 100 (by decide +kernel) (by decide +kernel)
theorem am_fl_VillageText_124 : Cond.fieldLink "NightHelp$VillageText" 124 "NightHelp$Village" "personName" "[I" ∈ am_ws := am_t 101 (by decide +kernel) (by decide +kernel)
theorem am_fl_Village_24 : Cond.fieldLink "NightHelp$Village" 24 "NightHelp$Village" "limit" "[I" ∈ am_ws := am_t 102 (by decide +kernel) (by decide +kernel)
theorem am_fl_VillageText_127 : Cond.fieldLink "NightHelp$VillageText" 127 "NightHelp$Village" "limit" "[I" ∈ am_ws := am_t 103 (by decide +kernel) (by decide +kernel)
theorem am_fl_Bonds_49 : Cond.fieldLink "NightHelp$Bonds" 49 "NightHelp$Village" "limit" "[I" ∈ am_ws := am_t 104 (by decide +kernel) (by decide +kernel)
theorem am_fl_Nh_170 : Cond.fieldLink "NightHelp" 170 "NightHelp$Village" "limit" "[I" ∈ am_ws := am_t 105 (by decide +kernel) (by decide +kernel)
theorem am_fl_Village_27 : Cond.fieldLink "NightHelp$Village" 27 "NightHelp$Village" "pains" "[I" ∈ am_ws := am_t 106 (by decide +kernel) (by decide +kernel)
theorem am_fl_VillageText_143 : Cond.fieldLink "NightHelp$VillageText" 143 "NightHelp$Village" "pains" "[I" ∈ am_ws := am_t 107 (by decide +kernel) (by decide +kernel)
theorem am_fl_Village_30 : Cond.fieldLink "NightHelp$Village" 30 "NightHelp$Village" "friends" "[I" ∈ am_ws := am_t 108 (by decide +kernel) (by decide +kernel)
theorem am_fl_VillageText_63 : Cond.fieldLink "NightHelp$VillageText" 63 "NightHelp$Village" "friends" "[I" ∈ am_ws := am_t 109 (by decide +kernel) (by decide +kernel)
theorem am_fl_Village_33 : Cond.fieldLink "NightHelp$Village" 33 "NightHelp$Village" "sights" "[I" ∈ am_ws := am_t 110 (by decide +kernel) (by decide +kernel)
theorem am_fl_VillageText_71 : Cond.fieldLink "NightHelp$VillageText" 71 "NightHelp$Village" "sights" "[I" ∈ am_ws := am_t 111 (by decide +kernel) (by decide +kernel)
theorem am_fl_Village_36 : Cond.fieldLink "NightHelp$Village" 36 "NightHelp$Village" "needPerson" "[I" ∈ am_ws := am_t 112 (by decide +kernel) (by decide +kernel)
theorem am_fl_Best_49 : Cond.fieldLink "NightHelp$Best" 49 "NightHelp$Village" "needPerson" "[I" ∈ am_ws := am_t 113 (by decide +kernel) (by decide +kernel)
theorem am_fl_Run_117 : Cond.fieldLink "NightHelp$Run" 117 "NightHelp$Village" "needPerson" "[I" ∈ am_ws := am_t 114 (by decide +kernel) (by decide +kernel)
theorem am_fl_VillageText_153 : Cond.fieldLink "NightHelp$VillageText" 153 "NightHelp$Village" "needPerson" "[I" ∈ am_ws := am_t 115 (by decide +kernel) (by decide +kernel)
theorem am_fl_Nh_189 : Cond.fieldLink "NightHelp" 189 "NightHelp$Village" "needPerson" "[I" ∈ am_ws := am_t 116 (by decide +kernel) (by decide +kernel)
theorem am_fl_Village_39 : Cond.fieldLink "NightHelp$Village" 39 "NightHelp$Village" "needHelp" "[I" ∈ am_ws := am_t 117 (by decide +kernel) (by decide +kernel)
theorem am_fl_Best_44 : Cond.fieldLink "NightHelp$Best" 44 "NightHelp$Village" "needHelp" "[I" ∈ am_ws := am_t 118 (by decide +kernel) (by decide +kernel)
theorem am_fl_VillageText_156 : Cond.fieldLink "NightHelp$VillageText" 156 "NightHelp$Village" "needHelp" "[I" ∈ am_ws := am_t 119 (by decide +kernel) (by decide +kernel)
theorem am_fl_Run_147 : Cond.fieldLink "NightHelp$Run" 147 "NightHelp$Village" "needHelp" "[I" ∈ am_ws := am_t 120 (by decide +kernel) (by decide +kernel)
theorem am_fl_Nh_192 : Cond.fieldLink "NightHelp" 192 "NightHelp$Village" "needHelp" "[I" ∈ am_ws := am_t 121 (by decide +kernel) (by decide +kernel)
theorem am_fl_Bonds_9 : Cond.fieldLink "NightHelp$Bonds" 9 "NightHelp$Bonds" "made" "[I" ∈ am_ws := am_t 176 (by decide +kernel) (by decide +kernel)
theorem am_fl_Bonds_15 : Cond.fieldLink "NightHelp$Bonds" 15 "NightHelp$Bonds" "last" "[I" ∈ am_ws := am_t 177 (by decide +kernel) (by decide +kernel)
theorem am_fl_Bonds_18 : Cond.fieldLink "NightHelp$Bonds" 18 "NightHelp$Bonds" "ever" "I" ∈ am_ws := am_t 178 (by decide +kernel) (by decide +kernel)
theorem am_fl_SentenceText_71 : Cond.fieldLink "NightHelp$SentenceText" 71 "NightHelp$Bonds" "ever" "I" ∈ am_ws := am_t 179 (by decide +kernel) (by decide +kernel)
theorem am_fl_Book_74 : Cond.fieldLink "NightHelp$Book" 74 "NightHelp$Bonds" "ever" "I" ∈ am_ws := am_t 180 (by decide +kernel) (by decide +kernel)
theorem am_fl_Book_9 : Cond.fieldLink "NightHelp$Book" 9 "NightHelp$Book" "lines" "I" ∈ am_ws := am_t 194 (by decide +kernel) (by decide +kernel)
theorem am_fl_BookText_84 : Cond.fieldLink "NightHelp$BookText" 84 "NightHelp$Book" "lines" "I" ∈ am_ws := am_t 195 (by decide +kernel) (by decide +kernel)
theorem am_fl_Nh_142 : Cond.fieldLink "NightHelp" 142 "NightHelp$Book" "lines" "I" ∈ am_ws := am_t 196 (by decide +kernel) (by decide +kernel)
theorem am_fl_Book_15 : Cond.fieldLink "NightHelp$Book" 15 "NightHelp$Book" "year" "I" ∈ am_ws := am_t 197 (by decide +kernel) (by decide +kernel)
theorem am_fl_BookText_71 : Cond.fieldLink "NightHelp$BookText" 71 "NightHelp$Book" "year" "I" ∈ am_ws := am_t 198 (by decide +kernel) (by decide +kernel)
theorem am_fl_Book_18 : Cond.fieldLink "NightHelp$Book" 18 "NightHelp$Book" "wrongLines" "I" ∈ am_ws := am_t 199 (by decide +kernel) (by decide +kernel)
theorem am_fl_Nh_228 : Cond.fieldLink "NightHelp" 228 "NightHelp$Book" "wrongLines" "I" ∈ am_ws := am_t 200 (by decide +kernel) (by decide +kernel)
theorem am_fl_Book_21 : Cond.fieldLink "NightHelp$Book" 21 "NightHelp$Book" "astray" "I" ∈ am_ws := am_t 201 (by decide +kernel) (by decide +kernel)
theorem am_fl_Nh_231 : Cond.fieldLink "NightHelp" 231 "NightHelp$Book" "astray" "I" ∈ am_ws := am_t 202 (by decide +kernel) (by decide +kernel)
theorem am_fl_Book_24 : Cond.fieldLink "NightHelp$Book" 24 "NightHelp$Book" "wrongs" "[I" ∈ am_ws := am_t 203 (by decide +kernel) (by decide +kernel)
theorem am_fl_Nh_225 : Cond.fieldLink "NightHelp" 225 "NightHelp$Book" "wrongs" "[I" ∈ am_ws := am_t 204 (by decide +kernel) (by decide +kernel)
theorem am_fl_Book_28 : Cond.fieldLink "NightHelp$Book" 28 "NightHelp$Book" "gained" "[I" ∈ am_ws := am_t 205 (by decide +kernel) (by decide +kernel)
theorem am_fl_Nh_241 : Cond.fieldLink "NightHelp" 241 "NightHelp$Book" "gained" "[I" ∈ am_ws := am_t 206 (by decide +kernel) (by decide +kernel)
theorem am_fl_Book_31 : Cond.fieldLink "NightHelp$Book" 31 "NightHelp$Book" "helped" "[I" ∈ am_ws := am_t 207 (by decide +kernel) (by decide +kernel)
theorem am_fl_Nh_244 : Cond.fieldLink "NightHelp" 244 "NightHelp$Book" "helped" "[I" ∈ am_ws := am_t 208 (by decide +kernel) (by decide +kernel)
theorem am_fl_Book_34 : Cond.fieldLink "NightHelp$Book" 34 "NightHelp$Book" "broken" "[I" ∈ am_ws := am_t 209 (by decide +kernel) (by decide +kernel)
theorem am_fl_Nh_234 : Cond.fieldLink "NightHelp" 234 "NightHelp$Book" "broken" "[I" ∈ am_ws := am_t 210 (by decide +kernel) (by decide +kernel)
theorem am_fl_Book_40 : Cond.fieldLink "NightHelp$Book" 40 "NightHelp$Book" "bonds" "LNightHelp$Bonds;" ∈ am_ws := am_t 211 (by decide +kernel) (by decide +kernel)
theorem am_fl_SentenceText_65 : Cond.fieldLink "NightHelp$SentenceText" 65 "NightHelp$Book" "bonds" "LNightHelp$Bonds;" ∈ am_ws := am_t 212 (by decide +kernel) (by decide +kernel)
theorem am_fl_Book_44 : Cond.fieldLink "NightHelp$Book" 44 "NightHelp$Book" "doneBy" "[I" ∈ am_ws := am_t 213 (by decide +kernel) (by decide +kernel)
theorem am_fl_State_12 : Cond.fieldLink "NightHelp$State" 12 "NightHelp$State" "village" "LNightHelp$Village;" ∈ am_ws := am_t 235 (by decide +kernel) (by decide +kernel)
theorem am_fl_Run_63 : Cond.fieldLink "NightHelp$Run" 63 "NightHelp$State" "village" "LNightHelp$Village;" ∈ am_ws := am_t 236 (by decide +kernel) (by decide +kernel)
theorem am_fl_Nh_118 : Cond.fieldLink "NightHelp" 118 "NightHelp$State" "village" "LNightHelp$Village;" ∈ am_ws := am_t 237 (by decide +kernel) (by decide +kernel)
theorem am_fl_State_21 : Cond.fieldLink "NightHelp$State" 21 "NightHelp$State" "book" "LNightHelp$Book;" ∈ am_ws := am_t 238 (by decide +kernel) (by decide +kernel)
theorem am_fl_Nh_130 : Cond.fieldLink "NightHelp" 130 "NightHelp$State" "book" "LNightHelp$Book;" ∈ am_ws := am_t 239 (by decide +kernel) (by decide +kernel)
theorem am_fl_State_25 : Cond.fieldLink "NightHelp$State" 25 "NightHelp$State" "helping" "[I" ∈ am_ws := am_t 240 (by decide +kernel) (by decide +kernel)
theorem am_fl_Run_70 : Cond.fieldLink "NightHelp$Run" 70 "NightHelp$State" "helping" "[I" ∈ am_ws := am_t 241 (by decide +kernel) (by decide +kernel)
theorem am_fl_Nh_180 : Cond.fieldLink "NightHelp" 180 "NightHelp$State" "helping" "[I" ∈ am_ws := am_t 242 (by decide +kernel) (by decide +kernel)
theorem am_fl_State_29 : Cond.fieldLink "NightHelp$State" 29 "NightHelp$State" "thanking" "[I" ∈ am_ws := am_t 243 (by decide +kernel) (by decide +kernel)
theorem am_fl_Run_75 : Cond.fieldLink "NightHelp$Run" 75 "NightHelp$State" "thanking" "[I" ∈ am_ws := am_t 244 (by decide +kernel) (by decide +kernel)
theorem am_fl_Nh_183 : Cond.fieldLink "NightHelp" 183 "NightHelp$State" "thanking" "[I" ∈ am_ws := am_t 245 (by decide +kernel) (by decide +kernel)
theorem am_fl_State_32 : Cond.fieldLink "NightHelp$State" 32 "NightHelp$State" "sentenceBytes" "[B" ∈ am_ws := am_t 246 (by decide +kernel) (by decide +kernel)
theorem am_fl_Nh_320 : Cond.fieldLink "NightHelp" 320 "NightHelp$State" "sentenceBytes" "[B" ∈ am_ws := am_t 247 (by decide +kernel) (by decide +kernel)
theorem am_fl_State_36 : Cond.fieldLink "NightHelp$State" 36 "NightHelp$State" "sentenceLength" "I" ∈ am_ws := am_t 248 (by decide +kernel) (by decide +kernel)
theorem am_fl_Nh_317 : Cond.fieldLink "NightHelp" 317 "NightHelp$State" "sentenceLength" "I" ∈ am_ws := am_t 249 (by decide +kernel) (by decide +kernel)
theorem am_fl_State_40 : Cond.fieldLink "NightHelp$State" 40 "NightHelp$State" "filled" "Z" ∈ am_ws := am_t 250 (by decide +kernel) (by decide +kernel)
theorem am_fl_Nh_329 : Cond.fieldLink "NightHelp" 329 "NightHelp$State" "filled" "Z" ∈ am_ws := am_t 251 (by decide +kernel) (by decide +kernel)
theorem am_fl_Tokens_11 : Cond.fieldLink "NightHelp$Tokens" 11 "NightHelp$Tokens" "kind" "I" ∈ am_ws := am_t 280 (by decide +kernel) (by decide +kernel)
theorem am_fl_BookText_52 : Cond.fieldLink "NightHelp$BookText" 52 "NightHelp$Tokens" "kind" "I" ∈ am_ws := am_t 281 (by decide +kernel) (by decide +kernel)
theorem am_fl_VillageText_42 : Cond.fieldLink "NightHelp$VillageText" 42 "NightHelp$Tokens" "kind" "I" ∈ am_ws := am_t 282 (by decide +kernel) (by decide +kernel)
theorem am_fl_SentenceText_53 : Cond.fieldLink "NightHelp$SentenceText" 53 "NightHelp$Tokens" "kind" "I" ∈ am_ws := am_t 283 (by decide +kernel) (by decide +kernel)
theorem am_fl_Village_97 : Cond.fieldLink "NightHelp$Village" 97 "NightHelp$Tokens" "kind" "I" ∈ am_ws := am_t 284 (by decide +kernel) (by decide +kernel)
theorem am_fl_Tokens_15 : Cond.fieldLink "NightHelp$Tokens" 15 "NightHelp$Tokens" "place" "I" ∈ am_ws := am_t 285 (by decide +kernel) (by decide +kernel)
theorem am_fl_Tokens_18 : Cond.fieldLink "NightHelp$Tokens" 18 "NightHelp$Tokens" "value" "I" ∈ am_ws := am_t 286 (by decide +kernel) (by decide +kernel)
theorem am_fl_VillageText_98 : Cond.fieldLink "NightHelp$VillageText" 98 "NightHelp$Tokens" "value" "I" ∈ am_ws := am_t 287 (by decide +kernel) (by decide +kernel)
theorem am_fl_Village_81 : Cond.fieldLink "NightHelp$Village" 81 "NightHelp$Tokens" "value" "I" ∈ am_ws := am_t 288 (by decide +kernel) (by decide +kernel)
theorem am_fl_Tokens_21 : Cond.fieldLink "NightHelp$Tokens" 21 "NightHelp$Tokens" "taken" "I" ∈ am_ws := am_t 289 (by decide +kernel) (by decide +kernel)
theorem am_fl_BookText_104 : Cond.fieldLink "NightHelp$BookText" 104 "NightHelp$Tokens" "taken" "I" ∈ am_ws := am_t 290 (by decide +kernel) (by decide +kernel)
theorem am_fl_VillageText_108 : Cond.fieldLink "NightHelp$VillageText" 108 "NightHelp$Tokens" "taken" "I" ∈ am_ws := am_t 291 (by decide +kernel) (by decide +kernel)
theorem am_fl_SentenceText_108 : Cond.fieldLink "NightHelp$SentenceText" 108 "NightHelp$Tokens" "taken" "I" ∈ am_ws := am_t 292 (by decide +kernel) (by decide +kernel)
theorem am_fl_Tokens_24 : Cond.fieldLink "NightHelp$Tokens" 24 "NightHelp$Tokens" "fault" "I" ∈ am_ws := am_t 293 (by decide +kernel) (by decide +kernel)
theorem am_fl_SentenceText_50 : Cond.fieldLink "NightHelp$SentenceText" 50 "NightHelp$Tokens" "fault" "I" ∈ am_ws := am_t 294 (by decide +kernel) (by decide +kernel)
theorem am_fl_Nh_102 : Cond.fieldLink "NightHelp" 102 "NightHelp$Tokens" "fault" "I" ∈ am_ws := am_t 295 (by decide +kernel) (by decide +kernel)
theorem am_fl_Tokens_27 : Cond.fieldLink "NightHelp$Tokens" 27 "NightHelp$Tokens" "faultPlace" "I" ∈ am_ws := am_t 296 (by decide +kernel) (by decide +kernel)
theorem am_fl_Nh_107 : Cond.fieldLink "NightHelp" 107 "NightHelp$Tokens" "faultPlace" "I" ∈ am_ws := am_t 297 (by decide +kernel) (by decide +kernel)
theorem am_fl_Tokens_30 : Cond.fieldLink "NightHelp$Tokens" 30 "NightHelp$Tokens" "kinds" "[I" ∈ am_ws := am_t 298 (by decide +kernel) (by decide +kernel)
theorem am_fl_Tokens_34 : Cond.fieldLink "NightHelp$Tokens" 34 "NightHelp$Tokens" "places" "[I" ∈ am_ws := am_t 299 (by decide +kernel) (by decide +kernel)
theorem am_fl_Tokens_37 : Cond.fieldLink "NightHelp$Tokens" 37 "NightHelp$Tokens" "values" "[I" ∈ am_ws := am_t 300 (by decide +kernel) (by decide +kernel)
theorem am_fl_Tokens_40 : Cond.fieldLink "NightHelp$Tokens" 40 "NightHelp$Tokens" "many" "I" ∈ am_ws := am_t 301 (by decide +kernel) (by decide +kernel)
theorem am_fl_Tokens_43 : Cond.fieldLink "NightHelp$Tokens" 43 "NightHelp$Tokens" "at" "I" ∈ am_ws := am_t 302 (by decide +kernel) (by decide +kernel)
theorem am_fl_Tokens_46 : Cond.fieldLink "NightHelp$Tokens" 46 "NightHelp$Tokens" "next" "I" ∈ am_ws := am_t 303 (by decide +kernel) (by decide +kernel)
theorem am_fl_VillageText_12 : Cond.fieldLink "NightHelp$VillageText" 12 "NightHelp$VillageText" "tokens" "LNightHelp$Tokens;" ∈ am_ws := am_t 331 (by decide +kernel) (by decide +kernel)
theorem am_fl_Nh_98 : Cond.fieldLink "NightHelp" 98 "NightHelp$VillageText" "tokens" "LNightHelp$Tokens;" ∈ am_ws := am_t 332 (by decide +kernel) (by decide +kernel)
theorem am_fl_VillageText_21 : Cond.fieldLink "NightHelp$VillageText" 21 "NightHelp$VillageText" "draft" "LNightHelp$Village;" ∈ am_ws := am_t 333 (by decide +kernel) (by decide +kernel)
theorem am_fl_Nh_110 : Cond.fieldLink "NightHelp" 110 "NightHelp$VillageText" "draft" "LNightHelp$Village;" ∈ am_ws := am_t 334 (by decide +kernel) (by decide +kernel)
theorem am_fl_VillageText_25 : Cond.fieldLink "NightHelp$VillageText" 25 "NightHelp$VillageText" "bindsTold" "Z" ∈ am_ws := am_t 335 (by decide +kernel) (by decide +kernel)
theorem am_fl_VillageText_29 : Cond.fieldLink "NightHelp$VillageText" 29 "NightHelp$VillageText" "outTold" "Z" ∈ am_ws := am_t 336 (by decide +kernel) (by decide +kernel)
theorem am_fl_VillageText_32 : Cond.fieldLink "NightHelp$VillageText" 32 "NightHelp$VillageText" "giftTold" "Z" ∈ am_ws := am_t 337 (by decide +kernel) (by decide +kernel)
theorem am_fl_BookText_12 : Cond.fieldLink "NightHelp$BookText" 12 "NightHelp$BookText" "tokens" "LNightHelp$Tokens;" ∈ am_ws := am_t 359 (by decide +kernel) (by decide +kernel)
theorem am_fl_Nh_129 : Cond.fieldLink "NightHelp" 129 "NightHelp$BookText" "tokens" "LNightHelp$Tokens;" ∈ am_ws := am_t 360 (by decide +kernel) (by decide +kernel)
theorem am_fl_BookText_21 : Cond.fieldLink "NightHelp$BookText" 21 "NightHelp$BookText" "draft" "LNightHelp$Book;" ∈ am_ws := am_t 361 (by decide +kernel) (by decide +kernel)
theorem am_fl_Nh_134 : Cond.fieldLink "NightHelp" 134 "NightHelp$BookText" "draft" "LNightHelp$Book;" ∈ am_ws := am_t 362 (by decide +kernel) (by decide +kernel)
theorem am_fl_BookText_25 : Cond.fieldLink "NightHelp$BookText" 25 "NightHelp$BookText" "verb" "I" ∈ am_ws := am_t 363 (by decide +kernel) (by decide +kernel)
theorem am_fl_BookText_29 : Cond.fieldLink "NightHelp$BookText" 29 "NightHelp$BookText" "nextYear" "I" ∈ am_ws := am_t 364 (by decide +kernel) (by decide +kernel)
theorem am_fl_BookText_32 : Cond.fieldLink "NightHelp$BookText" 32 "NightHelp$BookText" "who" "I" ∈ am_ws := am_t 365 (by decide +kernel) (by decide +kernel)
theorem am_fl_BookText_35 : Cond.fieldLink "NightHelp$BookText" 35 "NightHelp$BookText" "whom" "I" ∈ am_ws := am_t 366 (by decide +kernel) (by decide +kernel)
theorem am_fl_BookText_38 : Cond.fieldLink "NightHelp$BookText" 38 "NightHelp$BookText" "deed" "I" ∈ am_ws := am_t 367 (by decide +kernel) (by decide +kernel)
theorem am_fl_BookText_41 : Cond.fieldLink "NightHelp$BookText" 41 "NightHelp$BookText" "hidden" "Z" ∈ am_ws := am_t 368 (by decide +kernel) (by decide +kernel)
theorem am_fl_SentenceText_12 : Cond.fieldLink "NightHelp$SentenceText" 12 "NightHelp$SentenceText" "tokens" "LNightHelp$Tokens;" ∈ am_ws := am_t 394 (by decide +kernel) (by decide +kernel)
theorem am_fl_Nh_146 : Cond.fieldLink "NightHelp" 146 "NightHelp$SentenceText" "tokens" "LNightHelp$Tokens;" ∈ am_ws := am_t 395 (by decide +kernel) (by decide +kernel)
theorem am_fl_SentenceText_18 : Cond.fieldLink "NightHelp$SentenceText" 18 "NightHelp$SentenceText" "ones" "I" ∈ am_ws := am_t 396 (by decide +kernel) (by decide +kernel)
theorem am_fl_Nh_151 : Cond.fieldLink "NightHelp" 151 "NightHelp$SentenceText" "ones" "I" ∈ am_ws := am_t 397 (by decide +kernel) (by decide +kernel)
theorem am_fl_SentenceText_22 : Cond.fieldLink "NightHelp$SentenceText" 22 "NightHelp$SentenceText" "people" "I" ∈ am_ws := am_t 398 (by decide +kernel) (by decide +kernel)
theorem am_fl_Nh_323 : Cond.fieldLink "NightHelp" 323 "NightHelp$SentenceText" "people" "I" ∈ am_ws := am_t 399 (by decide +kernel) (by decide +kernel)
theorem am_fl_SentenceText_25 : Cond.fieldLink "NightHelp$SentenceText" 25 "NightHelp$SentenceText" "everyone" "I" ∈ am_ws := am_t 400 (by decide +kernel) (by decide +kernel)
theorem am_fl_SentenceText_28 : Cond.fieldLink "NightHelp$SentenceText" 28 "NightHelp$SentenceText" "figures" "[I" ∈ am_ws := am_t 401 (by decide +kernel) (by decide +kernel)
theorem am_fl_SentenceText_32 : Cond.fieldLink "NightHelp$SentenceText" 32 "NightHelp$SentenceText" "boundPeople" "I" ∈ am_ws := am_t 402 (by decide +kernel) (by decide +kernel)
theorem am_fl_SentenceText_35 : Cond.fieldLink "NightHelp$SentenceText" 35 "NightHelp$SentenceText" "freePeople" "I" ∈ am_ws := am_t 403 (by decide +kernel) (by decide +kernel)
theorem am_fl_Best_11 : Cond.fieldLink "NightHelp$Best" 11 "NightHelp$Best" "values" "[J" ∈ am_ws := am_t 425 (by decide +kernel) (by decide +kernel)
theorem am_fl_Best_15 : Cond.fieldLink "NightHelp$Best" 15 "NightHelp$Best" "acts" "[I" ∈ am_ws := am_t 426 (by decide +kernel) (by decide +kernel)
theorem am_fl_Best_19 : Cond.fieldLink "NightHelp$Best" 19 "NightHelp$Best" "byDay" "J" ∈ am_ws := am_t 427 (by decide +kernel) (by decide +kernel)
theorem am_fl_Best_23 : Cond.fieldLink "NightHelp$Best" 23 "NightHelp$Best" "byNight" "J" ∈ am_ws := am_t 428 (by decide +kernel) (by decide +kernel)
theorem am_fl_Best_26 : Cond.fieldLink "NightHelp$Best" 26 "NightHelp$Best" "found" "J" ∈ am_ws := am_t 429 (by decide +kernel) (by decide +kernel)
theorem am_fl_Run_9 : Cond.fieldLink "NightHelp$Run" 9 "NightHelp$Run" "ran" "Z" ∈ am_ws := am_t 454 (by decide +kernel) (by decide +kernel)
theorem am_fl_Nh_296 : Cond.fieldLink "NightHelp" 296 "NightHelp$Run" "ran" "Z" ∈ am_ws := am_t 455 (by decide +kernel) (by decide +kernel)
theorem am_fl_Run_15 : Cond.fieldLink "NightHelp$Run" 15 "NightHelp$Run" "persons" "I" ∈ am_ws := am_t 456 (by decide +kernel) (by decide +kernel)
theorem am_fl_Nh_300 : Cond.fieldLink "NightHelp" 300 "NightHelp$Run" "persons" "I" ∈ am_ws := am_t 457 (by decide +kernel) (by decide +kernel)
theorem am_fl_Run_19 : Cond.fieldLink "NightHelp$Run" 19 "NightHelp$Run" "helped" "[I" ∈ am_ws := am_t 458 (by decide +kernel) (by decide +kernel)
theorem am_fl_Nh_301 : Cond.fieldLink "NightHelp" 301 "NightHelp$Run" "helped" "[I" ∈ am_ws := am_t 459 (by decide +kernel) (by decide +kernel)
theorem am_fl_Run_23 : Cond.fieldLink "NightHelp$Run" 23 "NightHelp$Run" "figures" "[I" ∈ am_ws := am_t 460 (by decide +kernel) (by decide +kernel)
theorem am_fl_Run_29 : Cond.fieldLink "NightHelp$Run" 29 "NightHelp$Run" "village" "LNightHelp$Village;" ∈ am_ws := am_t 461 (by decide +kernel) (by decide +kernel)
theorem am_fl_Run_33 : Cond.fieldLink "NightHelp$Run" 33 "NightHelp$Run" "helping" "[I" ∈ am_ws := am_t 462 (by decide +kernel) (by decide +kernel)
theorem am_fl_Run_36 : Cond.fieldLink "NightHelp$Run" 36 "NightHelp$Run" "thanking" "[I" ∈ am_ws := am_t 463 (by decide +kernel) (by decide +kernel)
theorem am_fl_Run_42 : Cond.fieldLink "NightHelp$Run" 42 "NightHelp$Run" "bonds" "LNightHelp$Bonds;" ∈ am_ws := am_t 464 (by decide +kernel) (by decide +kernel)
theorem am_fl_Run_49 : Cond.fieldLink "NightHelp$Run" 49 "NightHelp$Run" "best" "LNightHelp$Best;" ∈ am_ws := am_t 465 (by decide +kernel) (by decide +kernel)
theorem am_fl_Run_53 : Cond.fieldLink "NightHelp$Run" 53 "NightHelp$Run" "bindPlans" "[J" ∈ am_ws := am_t 466 (by decide +kernel) (by decide +kernel)
theorem am_fl_Run_57 : Cond.fieldLink "NightHelp$Run" 57 "NightHelp$Run" "nothingPlans" "[J" ∈ am_ws := am_t 467 (by decide +kernel) (by decide +kernel)
theorem am_fl_Run_60 : Cond.fieldLink "NightHelp$Run" 60 "NightHelp$Run" "seed" "I" ∈ am_ws := am_t 468 (by decide +kernel) (by decide +kernel)
theorem am_fl_Left_9 : Cond.fieldLink "NightHelp$Left" 9 "NightHelp$Left" "needs" "I" ∈ am_ws := am_t 500 (by decide +kernel) (by decide +kernel)
theorem am_fl_Nh_306 : Cond.fieldLink "NightHelp" 306 "NightHelp$Left" "needs" "I" ∈ am_ws := am_t 501 (by decide +kernel) (by decide +kernel)
theorem am_fl_Left_15 : Cond.fieldLink "NightHelp$Left" 15 "NightHelp$Left" "by" "[I" ∈ am_ws := am_t 502 (by decide +kernel) (by decide +kernel)
theorem am_fl_Nh_307 : Cond.fieldLink "NightHelp" 307 "NightHelp$Left" "by" "[I" ∈ am_ws := am_t 503 (by decide +kernel) (by decide +kernel)
theorem am_fl_Left_19 : Cond.fieldLink "NightHelp$Left" 19 "NightHelp$Left" "most" "I" ∈ am_ws := am_t 504 (by decide +kernel) (by decide +kernel)
theorem am_fl_Left_22 : Cond.fieldLink "NightHelp$Left" 22 "NightHelp$Left" "able" "[I" ∈ am_ws := am_t 505 (by decide +kernel) (by decide +kernel)
theorem am_fl_Left_25 : Cond.fieldLink "NightHelp$Left" 25 "NightHelp$Left" "load" "[I" ∈ am_ws := am_t 506 (by decide +kernel) (by decide +kernel)
theorem am_fl_Left_28 : Cond.fieldLink "NightHelp$Left" 28 "NightHelp$Left" "byBefore" "[I" ∈ am_ws := am_t 507 (by decide +kernel) (by decide +kernel)
theorem am_fl_Left_31 : Cond.fieldLink "NightHelp$Left" 31 "NightHelp$Left" "loadBefore" "[I" ∈ am_ws := am_t 508 (by decide +kernel) (by decide +kernel)
theorem am_fl_Left_34 : Cond.fieldLink "NightHelp$Left" 34 "NightHelp$Left" "queue" "[I" ∈ am_ws := am_t 509 (by decide +kernel) (by decide +kernel)
theorem am_fl_Left_37 : Cond.fieldLink "NightHelp$Left" 37 "NightHelp$Left" "queued" "I" ∈ am_ws := am_t 510 (by decide +kernel) (by decide +kernel)
theorem am_fl_Left_40 : Cond.fieldLink "NightHelp$Left" 40 "NightHelp$Left" "reached" "I" ∈ am_ws := am_t 511 (by decide +kernel) (by decide +kernel)
theorem am_fl_Left_43 : Cond.fieldLink "NightHelp$Left" 43 "NightHelp$Left" "reachedFor" "[I" ∈ am_ws := am_t 512 (by decide +kernel) (by decide +kernel)
theorem am_fl_Nh_9 : Cond.fieldLink "NightHelp" 9 "NightHelp" "tape" "[B" ∈ am_ws := am_t 536 (by decide +kernel) (by decide +kernel)
theorem am_fl_Nh_13 : Cond.fieldLink "NightHelp" 13 "NightHelp" "tapeLength" "I" ∈ am_ws := am_t 537 (by decide +kernel) (by decide +kernel)
theorem am_fl_Nh_17 : Cond.fieldLink "NightHelp" 17 "NightHelp" "faultKind" "I" ∈ am_ws := am_t 538 (by decide +kernel) (by decide +kernel)
theorem am_fl_Nh_23 : Cond.fieldLink "NightHelp" 23 "NightHelp" "now" "LNightHelp$State;" ∈ am_ws := am_t 539 (by decide +kernel) (by decide +kernel)
theorem am_fl_Nh_27 : Cond.fieldLink "NightHelp" 27 "NightHelp" "kept" "[LNightHelp$State;" ∈ am_ws := am_t 540 (by decide +kernel) (by decide +kernel)
theorem am_fl_Nh_34 : Cond.fieldLink "NightHelp" 34 "NightHelp" "villageText" "LNightHelp$VillageText;" ∈ am_ws := am_t 541 (by decide +kernel) (by decide +kernel)
theorem am_fl_Nh_41 : Cond.fieldLink "NightHelp" 41 "NightHelp" "bookText" "LNightHelp$BookText;" ∈ am_ws := am_t 542 (by decide +kernel) (by decide +kernel)
theorem am_fl_Nh_48 : Cond.fieldLink "NightHelp" 48 "NightHelp" "sentenceText" "LNightHelp$SentenceText;" ∈ am_ws := am_t 543 (by decide +kernel) (by decide +kernel)
theorem am_fl_Nh_55 : Cond.fieldLink "NightHelp" 55 "NightHelp" "bestTable" "LNightHelp$Best;" ∈ am_ws := am_t 544 (by decide +kernel) (by decide +kernel)
theorem am_fl_Nh_62 : Cond.fieldLink "NightHelp" 62 "NightHelp" "latestRun" "LNightHelp$Run;" ∈ am_ws := am_t 545 (by decide +kernel) (by decide +kernel)
theorem am_fl_Nh_69 : Cond.fieldLink "NightHelp" 69 "NightHelp" "latestLeft" "LNightHelp$Left;" ∈ am_ws := am_t 546 (by decide +kernel) (by decide +kernel)
theorem am_fl_Nh_73 : Cond.fieldLink "NightHelp" 73 "NightHelp" "thinkParts" "[I" ∈ am_ws := am_t 547 (by decide +kernel) (by decide +kernel)
theorem am_fl_Nh_77 : Cond.fieldLink "NightHelp" 77 "NightHelp" "thinkDraft" "[I" ∈ am_ws := am_t 548 (by decide +kernel) (by decide +kernel)
theorem am_fl_Nh_80 : Cond.fieldLink "NightHelp" 80 "NightHelp" "thinkPersons" "I" ∈ am_ws := am_t 549 (by decide +kernel) (by decide +kernel)
theorem am_fl_Nh_83 : Cond.fieldLink "NightHelp" 83 "NightHelp" "thinkAll" "I" ∈ am_ws := am_t 550 (by decide +kernel) (by decide +kernel)
theorem am_fl_Md_102 : Cond.fieldLink "NightHelpModel" 102 "NightHelpModel" "thrown" "I" ∈ am_ws := am_t 1377 (by decide +kernel) (by decide +kernel)
theorem am_fl_Md_7 : Cond.fieldLink "NightHelpModel" 7 "NightHelpModel" "tape" "[I" ∈ am_ws := am_t 1378 (by decide +kernel) (by decide +kernel)
theorem am_fl_Md_106 : Cond.fieldLink "NightHelpModel" 106 "NightHelpModel" "taped" "I" ∈ am_ws := am_t 1379 (by decide +kernel) (by decide +kernel)
theorem am_fl_Md_113 : Cond.fieldLink "NightHelpModel" 113 "NightHelpModel" "size" "I" ∈ am_ws := am_t 1380 (by decide +kernel) (by decide +kernel)
theorem am_fl_Md_122 : Cond.fieldLink "NightHelpModel" 122 "NightHelpModel" "limit" "I" ∈ am_ws := am_t 1381 (by decide +kernel) (by decide +kernel)
theorem am_fl_Md_116 : Cond.fieldLink "NightHelpModel" 116 "NightHelpModel" "to" "I" ∈ am_ws := am_t 1382 (by decide +kernel) (by decide +kernel)
theorem am_fl_Md_119 : Cond.fieldLink "NightHelpModel" 119 "NightHelpModel" "from" "I" ∈ am_ws := am_t 1383 (by decide +kernel) (by decide +kernel)
theorem am_fl_Md_125 : Cond.fieldLink "NightHelpModel" 125 "NightHelpModel" "kind" "I" ∈ am_ws := am_t 1384 (by decide +kernel) (by decide +kernel)
theorem am_fl_Md_142 : Cond.fieldLink "NightHelpModel" 142 "NightHelpModel" "number" "I" ∈ am_ws := am_t 1385 (by decide +kernel) (by decide +kernel)
theorem am_fl_Md_135 : Cond.fieldLink "NightHelpModel" 135 "NightHelpModel" "sign" "I" ∈ am_ws := am_t 1386 (by decide +kernel) (by decide +kernel)
theorem am_fl_Md_165 : Cond.fieldLink "NightHelpModel" 165 "NightHelpModel" "fault" "I" ∈ am_ws := am_t 1387 (by decide +kernel) (by decide +kernel)
theorem am_fl_Md_168 : Cond.fieldLink "NightHelpModel" 168 "NightHelpModel" "place" "I" ∈ am_ws := am_t 1388 (by decide +kernel) (by decide +kernel)
theorem am_fl_Md_138 : Cond.fieldLink "NightHelpModel" 138 "NightHelpModel" "word" "J" ∈ am_ws := am_t 1389 (by decide +kernel) (by decide +kernel)
theorem am_fl_Md_178 : Cond.fieldLink "NightHelpModel" 178 "NightHelpModel" "told" "I" ∈ am_ws := am_t 1390 (by decide +kernel) (by decide +kernel)
theorem am_fl_Md_13 : Cond.fieldLink "NightHelpModel" 13 "NightHelpModel" "now" "[I" ∈ am_ws := am_t 1391 (by decide +kernel) (by decide +kernel)
theorem am_fl_Md_16 : Cond.fieldLink "NightHelpModel" 16 "NightHelpModel" "read" "[I" ∈ am_ws := am_t 1392 (by decide +kernel) (by decide +kernel)
theorem am_fl_Md_19 : Cond.fieldLink "NightHelpModel" 19 "NightHelpModel" "line" "[I" ∈ am_ws := am_t 1393 (by decide +kernel) (by decide +kernel)
theorem am_fl_Md_22 : Cond.fieldLink "NightHelpModel" 22 "NightHelpModel" "kept" "[I" ∈ am_ws := am_t 1394 (by decide +kernel) (by decide +kernel)
theorem am_fl_Md_25 : Cond.fieldLink "NightHelpModel" 25 "NightHelpModel" "name" "[J" ∈ am_ws := am_t 1395 (by decide +kernel) (by decide +kernel)
theorem am_fl_Md_29 : Cond.fieldLink "NightHelpModel" 29 "NightHelpModel" "readName" "[J" ∈ am_ws := am_t 1396 (by decide +kernel) (by decide +kernel)
theorem am_fl_Md_32 : Cond.fieldLink "NightHelpModel" 32 "NightHelpModel" "keptName" "[J" ∈ am_ws := am_t 1397 (by decide +kernel) (by decide +kernel)
theorem am_fl_Md_35 : Cond.fieldLink "NightHelpModel" 35 "NightHelpModel" "isKept" "[Z" ∈ am_ws := am_t 1398 (by decide +kernel) (by decide +kernel)
theorem am_fl_Md_194 : Cond.fieldLink "NightHelpModel" 194 "NightHelpModel" "isBegun" "Z" ∈ am_ws := am_t 1399 (by decide +kernel) (by decide +kernel)
theorem am_fl_Md_227 : Cond.fieldLink "NightHelpModel" 227 "NightHelpModel" "had" "I" ∈ am_ws := am_t 1400 (by decide +kernel) (by decide +kernel)
theorem am_fl_Md_279 : Cond.fieldLink "NightHelpModel" 279 "NightHelpModel" "lineMany" "I" ∈ am_ws := am_t 1401 (by decide +kernel) (by decide +kernel)
theorem am_fl_Md_39 : Cond.fieldLink "NightHelpModel" 39 "NightHelpModel" "bondFrom" "[I" ∈ am_ws := am_t 1402 (by decide +kernel) (by decide +kernel)
theorem am_fl_Md_42 : Cond.fieldLink "NightHelpModel" 42 "NightHelpModel" "bondTo" "[I" ∈ am_ws := am_t 1403 (by decide +kernel) (by decide +kernel)
theorem am_fl_Md_45 : Cond.fieldLink "NightHelpModel" 45 "NightHelpModel" "doneBy" "[I" ∈ am_ws := am_t 1404 (by decide +kernel) (by decide +kernel)
theorem am_fl_Md_48 : Cond.fieldLink "NightHelpModel" 48 "NightHelpModel" "gained" "[I" ∈ am_ws := am_t 1405 (by decide +kernel) (by decide +kernel)
theorem am_fl_Md_51 : Cond.fieldLink "NightHelpModel" 51 "NightHelpModel" "did" "[I" ∈ am_ws := am_t 1406 (by decide +kernel) (by decide +kernel)
theorem am_fl_Md_54 : Cond.fieldLink "NightHelpModel" 54 "NightHelpModel" "broke" "[I" ∈ am_ws := am_t 1407 (by decide +kernel) (by decide +kernel)
theorem am_fl_Md_57 : Cond.fieldLink "NightHelpModel" 57 "NightHelpModel" "wrongs" "[I" ∈ am_ws := am_t 1408 (by decide +kernel) (by decide +kernel)
theorem am_fl_Md_60 : Cond.fieldLink "NightHelpModel" 60 "NightHelpModel" "isDue" "[Z" ∈ am_ws := am_t 1409 (by decide +kernel) (by decide +kernel)
theorem am_fl_Md_313 : Cond.fieldLink "NightHelpModel" 313 "NightHelpModel" "wrongMany" "I" ∈ am_ws := am_t 1410 (by decide +kernel) (by decide +kernel)
theorem am_fl_Md_307 : Cond.fieldLink "NightHelpModel" 307 "NightHelpModel" "astray" "I" ∈ am_ws := am_t 1411 (by decide +kernel) (by decide +kernel)
theorem am_fl_Md_295 : Cond.fieldLink "NightHelpModel" 295 "NightHelpModel" "brokenMany" "I" ∈ am_ws := am_t 1412 (by decide +kernel) (by decide +kernel)
theorem am_fl_Md_310 : Cond.fieldLink "NightHelpModel" 310 "NightHelpModel" "everBound" "I" ∈ am_ws := am_t 1413 (by decide +kernel) (by decide +kernel)
theorem am_fl_Md_292 : Cond.fieldLink "NightHelpModel" 292 "NightHelpModel" "year" "I" ∈ am_ws := am_t 1414 (by decide +kernel) (by decide +kernel)
theorem am_fl_Md_63 : Cond.fieldLink "NightHelpModel" 63 "NightHelpModel" "value" "[J" ∈ am_ws := am_t 1415 (by decide +kernel) (by decide +kernel)
theorem am_fl_Md_66 : Cond.fieldLink "NightHelpModel" 66 "NightHelpModel" "act" "[I" ∈ am_ws := am_t 1416 (by decide +kernel) (by decide +kernel)
theorem am_fl_Md_362 : Cond.fieldLink "NightHelpModel" 362 "NightHelpModel" "seed" "I" ∈ am_ws := am_t 1417 (by decide +kernel) (by decide +kernel)
theorem am_fl_Md_69 : Cond.fieldLink "NightHelpModel" 69 "NightHelpModel" "runSum" "[I" ∈ am_ws := am_t 1418 (by decide +kernel) (by decide +kernel)
theorem am_fl_Md_72 : Cond.fieldLink "NightHelpModel" 72 "NightHelpModel" "runDid" "[I" ∈ am_ws := am_t 1419 (by decide +kernel) (by decide +kernel)
theorem am_fl_Md_75 : Cond.fieldLink "NightHelpModel" 75 "NightHelpModel" "runToldSum" "[I" ∈ am_ws := am_t 1420 (by decide +kernel) (by decide +kernel)
theorem am_fl_Md_78 : Cond.fieldLink "NightHelpModel" 78 "NightHelpModel" "runToldDid" "[I" ∈ am_ws := am_t 1421 (by decide +kernel) (by decide +kernel)
theorem am_fl_Md_375 : Cond.fieldLink "NightHelpModel" 375 "NightHelpModel" "helper" "I" ∈ am_ws := am_t 1422 (by decide +kernel) (by decide +kernel)
theorem am_fl_Md_369 : Cond.fieldLink "NightHelpModel" 369 "NightHelpModel" "second" "I" ∈ am_ws := am_t 1423 (by decide +kernel) (by decide +kernel)
theorem am_fl_Md_394 : Cond.fieldLink "NightHelpModel" 394 "NightHelpModel" "runMany" "I" ∈ am_ws := am_t 1424 (by decide +kernel) (by decide +kernel)
theorem am_fl_Md_391 : Cond.fieldLink "NightHelpModel" 391 "NightHelpModel" "wasRun" "Z" ∈ am_ws := am_t 1425 (by decide +kernel) (by decide +kernel)
theorem am_fl_Md_81 : Cond.fieldLink "NightHelpModel" 81 "NightHelpModel" "by" "[I" ∈ am_ws := am_t 1426 (by decide +kernel) (by decide +kernel)
theorem am_fl_Md_84 : Cond.fieldLink "NightHelpModel" 84 "NightHelpModel" "load" "[I" ∈ am_ws := am_t 1427 (by decide +kernel) (by decide +kernel)
theorem am_fl_Md_87 : Cond.fieldLink "NightHelpModel" 87 "NightHelpModel" "fixed" "[I" ∈ am_ws := am_t 1428 (by decide +kernel) (by decide +kernel)
theorem am_fl_Md_90 : Cond.fieldLink "NightHelpModel" 90 "NightHelpModel" "leftTold" "[I" ∈ am_ws := am_t 1429 (by decide +kernel) (by decide +kernel)
theorem am_fl_Md_400 : Cond.fieldLink "NightHelpModel" 400 "NightHelpModel" "most" "I" ∈ am_ws := am_t 1430 (by decide +kernel) (by decide +kernel)
theorem am_fl_Md_397 : Cond.fieldLink "NightHelpModel" 397 "NightHelpModel" "triedSet" "I" ∈ am_ws := am_t 1431 (by decide +kernel) (by decide +kernel)
theorem am_fl_Md_409 : Cond.fieldLink "NightHelpModel" 409 "NightHelpModel" "leftMany" "I" ∈ am_ws := am_t 1432 (by decide +kernel) (by decide +kernel)
theorem am_fl_Md_93 : Cond.fieldLink "NightHelpModel" 93 "NightHelpModel" "thought" "[I" ∈ am_ws := am_t 1433 (by decide +kernel) (by decide +kernel)
theorem am_fl_Md_96 : Cond.fieldLink "NightHelpModel" 96 "NightHelpModel" "thoughtTold" "[I" ∈ am_ws := am_t 1434 (by decide +kernel) (by decide +kernel)
theorem am_fl_Md_415 : Cond.fieldLink "NightHelpModel" 415 "NightHelpModel" "thoughtMany" "I" ∈ am_ws := am_t 1435 (by decide +kernel) (by decide +kernel)
theorem am_fl_Md_412 : Cond.fieldLink "NightHelpModel" 412 "NightHelpModel" "thoughtAll" "I" ∈ am_ws := am_t 1436 (by decide +kernel) (by decide +kernel)
theorem am_fl_Md_99 : Cond.fieldLink "NightHelpModel" 99 "NightHelpModel" "node" "[I" ∈ am_ws := am_t 1437 (by decide +kernel) (by decide +kernel)
theorem am_fl_Md_418 : Cond.fieldLink "NightHelpModel" 418 "NightHelpModel" "nodes" "I" ∈ am_ws := am_t 1438 (by decide +kernel) (by decide +kernel)
theorem am_fl_Md_433 : Cond.fieldLink "NightHelpModel" 433 "NightHelpModel" "ones" "I" ∈ am_ws := am_t 1439 (by decide +kernel) (by decide +kernel)
theorem am_fl_Md_436 : Cond.fieldLink "NightHelpModel" 436 "NightHelpModel" "within" "I" ∈ am_ws := am_t 1440 (by decide +kernel) (by decide +kernel)
theorem am_fl_Md_424 : Cond.fieldLink "NightHelpModel" 424 "NightHelpModel" "top" "I" ∈ am_ws := am_t 1441 (by decide +kernel) (by decide +kernel)
theorem am_ml_Village_42 : Cond.methodLink "NightHelp$Village" 42 ⟨"NightHelp$Village", "begin", "()V"⟩ ∈ am_ws := am_t 45 (by decide +kernel) (by decide +kernel)
theorem am_ml_Village_67 : Cond.methodLink "NightHelp$Village" 67 ⟨"java/util/Arrays", "fill", "([II)V"⟩ ∈ am_ws := am_t 49 (by decide +kernel) (by decide +kernel)
theorem am_ml_Bonds_22 : Cond.methodLink "NightHelp$Bonds" 22 ⟨"NightHelp$Bonds", "begin", "()V"⟩ ∈ am_ws := am_t 171 (by decide +kernel) (by decide +kernel)
theorem am_ml_Bonds_25 : Cond.methodLink "NightHelp$Bonds" 25 ⟨"java/util/Arrays", "fill", "([II)V"⟩ ∈ am_ws := am_t 175 (by decide +kernel) (by decide +kernel)
theorem am_ml_Book_47 : Cond.methodLink "NightHelp$Book" 47 ⟨"NightHelp$Book", "begin", "()V"⟩ ∈ am_ws := am_t 188 (by decide +kernel) (by decide +kernel)
theorem am_ml_Book_50 : Cond.methodLink "NightHelp$Book" 50 ⟨"java/util/Arrays", "fill", "([II)V"⟩ ∈ am_ws := am_t 192 (by decide +kernel) (by decide +kernel)
theorem am_ml_Book_56 : Cond.methodLink "NightHelp$Book" 56 ⟨"NightHelp$Bonds", "begin", "()V"⟩ ∈ am_ws := am_t 193 (by decide +kernel) (by decide +kernel)
theorem am_ml_Law_29 : Cond.methodLink "NightHelpLaw" 29 ⟨"NightHelp", "feed", "(IIIII)I"⟩ ∈ am_ws := am_t 582 (by decide +kernel) (by decide +kernel)
theorem am_ml_Nh_86 : Cond.methodLink "NightHelp" 86 ⟨"NightHelp", "putNumber", "(I)V"⟩ ∈ am_ws := am_t 586 (by decide +kernel) (by decide +kernel)
theorem am_ml_Law_34 : Cond.methodLink "NightHelpLaw" 34 ⟨"NightHelp", "end", "(I)Z"⟩ ∈ am_ws := am_t 590 (by decide +kernel) (by decide +kernel)
theorem am_ml_Law_39 : Cond.methodLink "NightHelpLaw" 39 ⟨"NightHelp", "village", "()I"⟩ ∈ am_ws := am_t 594 (by decide +kernel) (by decide +kernel)
theorem am_ml_Nh_90 : Cond.methodLink "NightHelp" 90 ⟨"NightHelp", "takeTape", "()I"⟩ ∈ am_ws := am_t 598 (by decide +kernel) (by decide +kernel)
theorem am_ml_Nh_94 : Cond.methodLink "NightHelp" 94 ⟨"NightHelp$VillageText", "readAll", "([BI)Z"⟩ ∈ am_ws := am_t 602 (by decide +kernel) (by decide +kernel)
theorem am_ml_VillageText_35 : Cond.methodLink "NightHelp$VillageText" 35 ⟨"NightHelp$Tokens", "open", "([BII)V"⟩ ∈ am_ws := am_t 606 (by decide +kernel) (by decide +kernel)
theorem am_ml_Tokens_49 : Cond.methodLink "NightHelp$Tokens" 49 ⟨"java/lang/Math", "min", "(II)I"⟩ ∈ am_ws := am_t 610 (by decide +kernel) (by decide +kernel)
theorem am_ml_Tokens_55 : Cond.methodLink "NightHelp$Tokens" 55 ⟨"java/lang/Math", "max", "(II)I"⟩ ∈ am_ws := am_t 613 (by decide +kernel) (by decide +kernel)
theorem am_ml_Tokens_58 : Cond.methodLink "NightHelp$Tokens" 58 ⟨"NightHelp$Tokens", "isSmall", "(I)Z"⟩ ∈ am_ws := am_t 616 (by decide +kernel) (by decide +kernel)
theorem am_ml_Tokens_62 : Cond.methodLink "NightHelp$Tokens" 62 ⟨"NightHelp$Tokens", "isDigit", "(I)Z"⟩ ∈ am_ws := am_t 619 (by decide +kernel) (by decide +kernel)
theorem am_ml_Tokens_65 : Cond.methodLink "NightHelp$Tokens" 65 ⟨"NightHelp$Tokens", "readWordOrNumber", "([BI)V"⟩ ∈ am_ws := am_t 622 (by decide +kernel) (by decide +kernel)
theorem am_ml_Tokens_83 : Cond.methodLink "NightHelp$Tokens" 83 ⟨"NightHelp$Tokens", "wordKind", "(I)I"⟩ ∈ am_ws := am_t 626 (by decide +kernel) (by decide +kernel)
theorem am_ml_Tokens_88 : Cond.methodLink "NightHelp$Tokens" 88 ⟨"java/lang/String", "length", "()I"⟩ ∈ am_ws := am_t 630 (by decide +kernel) (by decide +kernel)
theorem am_ml_Tokens_94 : Cond.methodLink "NightHelp$Tokens" 94 ⟨"java/lang/String", "charAt", "(I)C"⟩ ∈ am_ws := am_t 640 (by decide +kernel) (by decide +kernel)
theorem am_ml_Tokens_76 : Cond.methodLink "NightHelp$Tokens" 76 ⟨"NightHelp$Tokens", "add", "(III)V"⟩ ∈ am_ws := am_t 678 (by decide +kernel) (by decide +kernel)
theorem am_ml_Tokens_69 : Cond.methodLink "NightHelp$Tokens" 69 ⟨"NightHelp$Tokens", "isBlank", "(I)Z"⟩ ∈ am_ws := am_t 682 (by decide +kernel) (by decide +kernel)
theorem am_ml_Tokens_72 : Cond.methodLink "NightHelp$Tokens" 72 ⟨"NightHelp$Tokens", "signKind", "(I)I"⟩ ∈ am_ws := am_t 685 (by decide +kernel) (by decide +kernel)
theorem am_ml_Tokens_80 : Cond.methodLink "NightHelp$Tokens" 80 ⟨"NightHelp$Tokens", "advance", "()V"⟩ ∈ am_ws := am_t 688 (by decide +kernel) (by decide +kernel)
theorem am_ml_VillageText_39 : Cond.methodLink "NightHelp$VillageText" 39 ⟨"NightHelp$Village", "begin", "()V"⟩ ∈ am_ws := am_t 692 (by decide +kernel) (by decide +kernel)
theorem am_ml_VillageText_46 : Cond.methodLink "NightHelp$VillageText" 46 ⟨"NightHelp$VillageText", "readLine", "()Z"⟩ ∈ am_ws := am_t 693 (by decide +kernel) (by decide +kernel)
theorem am_ml_VillageText_57 : Cond.methodLink "NightHelp$VillageText" 57 ⟨"NightHelp$VillageText", "readHelp", "()Z"⟩ ∈ am_ws := am_t 697 (by decide +kernel) (by decide +kernel)
theorem am_ml_VillageText_83 : Cond.methodLink "NightHelp$VillageText" 83 ⟨"NightHelp$Tokens", "fail", "(I)Z"⟩ ∈ am_ws := am_t 701 (by decide +kernel) (by decide +kernel)
theorem am_ml_VillageText_89 : Cond.methodLink "NightHelp$VillageText" 89 ⟨"NightHelp$Tokens", "advance", "()V"⟩ ∈ am_ws := am_t 705 (by decide +kernel) (by decide +kernel)
theorem am_ml_VillageText_92 : Cond.methodLink "NightHelp$VillageText" 92 ⟨"NightHelp$VillageText", "isNewName", "()Z"⟩ ∈ am_ws := am_t 706 (by decide +kernel) (by decide +kernel)
theorem am_ml_VillageText_114 : Cond.methodLink "NightHelp$VillageText" 114 ⟨"NightHelp$Village", "helpNamed", "(I)I"⟩ ∈ am_ws := am_t 710 (by decide +kernel) (by decide +kernel)
theorem am_ml_Village_77 : Cond.methodLink "NightHelp$Village" 77 ⟨"NightHelp$Village", "indexOf", "([III)I"⟩ ∈ am_ws := am_t 714 (by decide +kernel) (by decide +kernel)
theorem am_ml_VillageText_118 : Cond.methodLink "NightHelp$VillageText" 118 ⟨"NightHelp$Village", "personNamed", "(I)I"⟩ ∈ am_ws := am_t 717 (by decide +kernel) (by decide +kernel)
theorem am_ml_VillageText_101 : Cond.methodLink "NightHelp$VillageText" 101 ⟨"NightHelp$Tokens", "takeNumber", "(II)Z"⟩ ∈ am_ws := am_t 721 (by decide +kernel) (by decide +kernel)
theorem am_ml_Tokens_98 : Cond.methodLink "NightHelp$Tokens" 98 ⟨"NightHelp$Tokens", "fail", "(I)Z"⟩ ∈ am_ws := am_t 725 (by decide +kernel) (by decide +kernel)
theorem am_ml_VillageText_60 : Cond.methodLink "NightHelp$VillageText" 60 ⟨"NightHelp$VillageText", "readPerson", "()Z"⟩ ∈ am_ws := am_t 726 (by decide +kernel) (by decide +kernel)
theorem am_ml_VillageText_130 : Cond.methodLink "NightHelp$VillageText" 130 ⟨"NightHelp$VillageText", "readCan", "(I)Z"⟩ ∈ am_ws := am_t 730 (by decide +kernel) (by decide +kernel)
theorem am_ml_VillageText_136 : Cond.methodLink "NightHelp$VillageText" 136 ⟨"NightHelp$Village", "helpAt", "(LNightHelp$Tokens;)I"⟩ ∈ am_ws := am_t 734 (by decide +kernel) (by decide +kernel)
theorem am_ml_Village_86 : Cond.methodLink "NightHelp$Village" 86 ⟨"NightHelp$Village", "helpNamed", "(I)I"⟩ ∈ am_ws := am_t 738 (by decide +kernel) (by decide +kernel)
theorem am_ml_Village_90 : Cond.methodLink "NightHelp$Village" 90 ⟨"NightHelp$Village", "numberAt", "(LNightHelp$Tokens;I)I"⟩ ∈ am_ws := am_t 739 (by decide +kernel) (by decide +kernel)
theorem am_ml_Village_100 : Cond.methodLink "NightHelp$Village" 100 ⟨"NightHelp$Tokens", "fail", "(I)Z"⟩ ∈ am_ws := am_t 742 (by decide +kernel) (by decide +kernel)
theorem am_ml_VillageText_140 : Cond.methodLink "NightHelp$VillageText" 140 ⟨"NightHelp$Village", "can", "(II)Z"⟩ ∈ am_ws := am_t 743 (by decide +kernel) (by decide +kernel)
theorem am_ml_Village_104 : Cond.methodLink "NightHelp$Village" 104 ⟨"NightHelp$Village", "painsOf", "(II)I"⟩ ∈ am_ws := am_t 747 (by decide +kernel) (by decide +kernel)
theorem am_ml_VillageText_133 : Cond.methodLink "NightHelp$VillageText" 133 ⟨"NightHelp$VillageText", "readNeed", "(I)Z"⟩ ∈ am_ws := am_t 751 (by decide +kernel) (by decide +kernel)
theorem am_ml_VillageText_146 : Cond.methodLink "NightHelp$VillageText" 146 ⟨"NightHelp$Village", "needOf", "(II)I"⟩ ∈ am_ws := am_t 755 (by decide +kernel) (by decide +kernel)
theorem am_ml_VillageText_67 : Cond.methodLink "NightHelp$VillageText" 67 ⟨"NightHelp$VillageText", "readTie", "([I)Z"⟩ ∈ am_ws := am_t 759 (by decide +kernel) (by decide +kernel)
theorem am_ml_VillageText_159 : Cond.methodLink "NightHelp$VillageText" 159 ⟨"NightHelp$Village", "personAt", "(LNightHelp$Tokens;)I"⟩ ∈ am_ws := am_t 763 (by decide +kernel) (by decide +kernel)
theorem am_ml_Village_94 : Cond.methodLink "NightHelp$Village" 94 ⟨"NightHelp$Village", "personNamed", "(I)I"⟩ ∈ am_ws := am_t 767 (by decide +kernel) (by decide +kernel)
theorem am_ml_VillageText_74 : Cond.methodLink "NightHelp$VillageText" 74 ⟨"NightHelp$VillageText", "readBinds", "()Z"⟩ ∈ am_ws := am_t 768 (by decide +kernel) (by decide +kernel)
theorem am_ml_VillageText_77 : Cond.methodLink "NightHelp$VillageText" 77 ⟨"NightHelp$VillageText", "readOut", "()Z"⟩ ∈ am_ws := am_t 772 (by decide +kernel) (by decide +kernel)
theorem am_ml_VillageText_80 : Cond.methodLink "NightHelp$VillageText" 80 ⟨"NightHelp$VillageText", "readGift", "()Z"⟩ ∈ am_ws := am_t 776 (by decide +kernel) (by decide +kernel)
theorem am_ml_VillageText_50 : Cond.methodLink "NightHelp$VillageText" 50 ⟨"NightHelp$Tokens", "take", "(I)Z"⟩ ∈ am_ws := am_t 780 (by decide +kernel) (by decide +kernel)
theorem am_ml_Nh_114 : Cond.methodLink "NightHelp" 114 ⟨"NightHelp$State", "beginVillage", "(LNightHelp$Village;)V"⟩ ∈ am_ws := am_t 784 (by decide +kernel) (by decide +kernel)
theorem am_ml_State_44 : Cond.methodLink "NightHelp$State" 44 ⟨"NightHelp$Village", "copyFrom", "(LNightHelp$Village;)V"⟩ ∈ am_ws := am_t 788 (by decide +kernel) (by decide +kernel)
theorem am_ml_Nh_247 : Cond.methodLink "NightHelp" 247 ⟨"java/lang/Math", "min", "(II)I"⟩ ∈ am_ws := am_t 795 (by decide +kernel) (by decide +kernel)
theorem am_ml_Nh_252 : Cond.methodLink "NightHelp" 252 ⟨"java/lang/System", "arraycopy", "(Ljava/lang/Object;ILjava/lang/Object;II)V"⟩ ∈ am_ws := am_t 796 (by decide +kernel) (by decide +kernel)
theorem am_ml_State_48 : Cond.methodLink "NightHelp$State" 48 ⟨"NightHelp$Book", "begin", "()V"⟩ ∈ am_ws := am_t 799 (by decide +kernel) (by decide +kernel)
theorem am_ml_State_51 : Cond.methodLink "NightHelp$State" 51 ⟨"java/util/Arrays", "fill", "([II)V"⟩ ∈ am_ws := am_t 800 (by decide +kernel) (by decide +kernel)
theorem am_ml_Law_69 : Cond.methodLink "NightHelpLaw" 69 ⟨"NightHelp", "book", "()I"⟩ ∈ am_ws := am_t 801 (by decide +kernel) (by decide +kernel)
theorem am_ml_Nh_126 : Cond.methodLink "NightHelp" 126 ⟨"NightHelp$BookText", "readAll", "([BILNightHelp$Village;)Z"⟩ ∈ am_ws := am_t 805 (by decide +kernel) (by decide +kernel)
theorem am_ml_BookText_45 : Cond.methodLink "NightHelp$BookText" 45 ⟨"NightHelp$Tokens", "open", "([BII)V"⟩ ∈ am_ws := am_t 809 (by decide +kernel) (by decide +kernel)
theorem am_ml_BookText_49 : Cond.methodLink "NightHelp$BookText" 49 ⟨"NightHelp$Book", "begin", "()V"⟩ ∈ am_ws := am_t 810 (by decide +kernel) (by decide +kernel)
theorem am_ml_BookText_55 : Cond.methodLink "NightHelp$BookText" 55 ⟨"NightHelp$BookText", "readLine", "(LNightHelp$Village;)Z"⟩ ∈ am_ws := am_t 811 (by decide +kernel) (by decide +kernel)
theorem am_ml_BookText_78 : Cond.methodLink "NightHelp$BookText" 78 ⟨"NightHelp$Village", "personAt", "(LNightHelp$Tokens;)I"⟩ ∈ am_ws := am_t 815 (by decide +kernel) (by decide +kernel)
theorem am_ml_BookText_87 : Cond.methodLink "NightHelp$BookText" 87 ⟨"NightHelp$Tokens", "fail", "(I)Z"⟩ ∈ am_ws := am_t 816 (by decide +kernel) (by decide +kernel)
theorem am_ml_BookText_90 : Cond.methodLink "NightHelp$BookText" 90 ⟨"NightHelp$Tokens", "advance", "()V"⟩ ∈ am_ws := am_t 817 (by decide +kernel) (by decide +kernel)
theorem am_ml_BookText_93 : Cond.methodLink "NightHelp$BookText" 93 ⟨"NightHelp$BookText", "readYear", "()Z"⟩ ∈ am_ws := am_t 818 (by decide +kernel) (by decide +kernel)
theorem am_ml_BookText_100 : Cond.methodLink "NightHelp$BookText" 100 ⟨"NightHelp$Tokens", "takeNumber", "(II)Z"⟩ ∈ am_ws := am_t 822 (by decide +kernel) (by decide +kernel)
theorem am_ml_BookText_97 : Cond.methodLink "NightHelp$BookText" 97 ⟨"NightHelp$BookText", "readDeed", "(LNightHelp$Village;)Z"⟩ ∈ am_ws := am_t 823 (by decide +kernel) (by decide +kernel)
theorem am_ml_BookText_107 : Cond.methodLink "NightHelp$BookText" 107 ⟨"NightHelp$Village", "helpAt", "(LNightHelp$Tokens;)I"⟩ ∈ am_ws := am_t 827 (by decide +kernel) (by decide +kernel)
theorem am_ml_BookText_59 : Cond.methodLink "NightHelp$BookText" 59 ⟨"NightHelp$Tokens", "take", "(I)Z"⟩ ∈ am_ws := am_t 828 (by decide +kernel) (by decide +kernel)
theorem am_ml_BookText_63 : Cond.methodLink "NightHelp$BookText" 63 ⟨"NightHelp$BookText", "judgeLine", "(LNightHelp$Village;)I"⟩ ∈ am_ws := am_t 829 (by decide +kernel) (by decide +kernel)
theorem am_ml_BookText_110 : Cond.methodLink "NightHelp$BookText" 110 ⟨"NightHelp$Book", "tellHelp", "(LNightHelp$Village;IIIZ)I"⟩ ∈ am_ws := am_t 833 (by decide +kernel) (by decide +kernel)
theorem am_ml_Book_84 : Cond.methodLink "NightHelp$Book" 84 ⟨"NightHelp$Village", "needOf", "(II)I"⟩ ∈ am_ws := am_t 837 (by decide +kernel) (by decide +kernel)
theorem am_ml_Book_88 : Cond.methodLink "NightHelp$Book" 88 ⟨"NightHelp$Village", "can", "(II)Z"⟩ ∈ am_ws := am_t 838 (by decide +kernel) (by decide +kernel)
theorem am_ml_Book_92 : Cond.methodLink "NightHelp$Book" 92 ⟨"NightHelp$Village", "painsOf", "(II)I"⟩ ∈ am_ws := am_t 839 (by decide +kernel) (by decide +kernel)
theorem am_ml_BookText_114 : Cond.methodLink "NightHelp$BookText" 114 ⟨"NightHelp$Book", "tellThanks", "(LNightHelp$Village;III)I"⟩ ∈ am_ws := am_t 840 (by decide +kernel) (by decide +kernel)
theorem am_ml_Book_101 : Cond.methodLink "NightHelp$Book" 101 ⟨"NightHelp$Bonds", "isAbove", "(LNightHelp$Village;III)Z"⟩ ∈ am_ws := am_t 844 (by decide +kernel) (by decide +kernel)
theorem am_ml_Bonds_35 : Cond.methodLink "NightHelp$Bonds" 35 ⟨"NightHelp$Bonds", "isBond", "(II)Z"⟩ ∈ am_ws := am_t 848 (by decide +kernel) (by decide +kernel)
theorem am_ml_Bonds_39 : Cond.methodLink "NightHelp$Bonds" 39 ⟨"NightHelp$Village", "hasPerson", "(I)Z"⟩ ∈ am_ws := am_t 851 (by decide +kernel) (by decide +kernel)
theorem am_ml_Bonds_45 : Cond.methodLink "NightHelp$Bonds" 45 ⟨"NightHelp$Bonds", "standing", "(II)I"⟩ ∈ am_ws := am_t 855 (by decide +kernel) (by decide +kernel)
theorem am_ml_Book_108 : Cond.methodLink "NightHelp$Book" 108 ⟨"NightHelp$Bonds", "bind", "(IIII)V"⟩ ∈ am_ws := am_t 859 (by decide +kernel) (by decide +kernel)
theorem am_ml_BookText_118 : Cond.methodLink "NightHelp$BookText" 118 ⟨"NightHelp$Book", "tellLeaving", "(LNightHelp$Village;III)I"⟩ ∈ am_ws := am_t 863 (by decide +kernel) (by decide +kernel)
theorem am_ml_Book_112 : Cond.methodLink "NightHelp$Book" 112 ⟨"NightHelp$Bonds", "lastYear", "(II)I"⟩ ∈ am_ws := am_t 867 (by decide +kernel) (by decide +kernel)
theorem am_ml_Book_115 : Cond.methodLink "NightHelp$Book" 115 ⟨"NightHelp$Bonds", "drop", "(II)V"⟩ ∈ am_ws := am_t 871 (by decide +kernel) (by decide +kernel)
theorem am_ml_BookText_121 : Cond.methodLink "NightHelp$BookText" 121 ⟨"NightHelp$Book", "beginYear", "(LNightHelp$Village;I)V"⟩ ∈ am_ws := am_t 875 (by decide +kernel) (by decide +kernel)
theorem am_ml_Book_65 : Cond.methodLink "NightHelp$Book" 65 ⟨"NightHelp$Book", "endYear", "(LNightHelp$Village;I)V"⟩ ∈ am_ws := am_t 879 (by decide +kernel) (by decide +kernel)
theorem am_ml_Book_80 : Cond.methodLink "NightHelp$Book" 80 ⟨"NightHelp$Bonds", "isDue", "(III)Z"⟩ ∈ am_ws := am_t 883 (by decide +kernel) (by decide +kernel)
theorem am_ml_BookText_67 : Cond.methodLink "NightHelp$BookText" 67 ⟨"NightHelp$Book", "addLine", "(I)V"⟩ ∈ am_ws := am_t 887 (by decide +kernel) (by decide +kernel)
theorem am_ml_BookText_74 : Cond.methodLink "NightHelp$BookText" 74 ⟨"NightHelp$Book", "endYear", "(LNightHelp$Village;I)V"⟩ ∈ am_ws := am_t 891 (by decide +kernel) (by decide +kernel)
theorem am_ml_Nh_136 : Cond.methodLink "NightHelp" 136 ⟨"NightHelp$Book", "copyFrom", "(LNightHelp$Book;)V"⟩ ∈ am_ws := am_t 892 (by decide +kernel) (by decide +kernel)
theorem am_ml_Book_61 : Cond.methodLink "NightHelp$Book" 61 ⟨"NightHelp$Bonds", "copyFrom", "(LNightHelp$Bonds;)V"⟩ ∈ am_ws := am_t 897 (by decide +kernel) (by decide +kernel)
theorem am_ml_Law_143 : Cond.methodLink "NightHelpLaw" 143 ⟨"NightHelp", "sentence", "()I"⟩ ∈ am_ws := am_t 902 (by decide +kernel) (by decide +kernel)
theorem am_ml_Nh_143 : Cond.methodLink "NightHelp" 143 ⟨"NightHelp$SentenceText", "readAll", "([BILNightHelp$Village;LNightHelp$Book;)Z"⟩ ∈ am_ws := am_t 906 (by decide +kernel) (by decide +kernel)
theorem am_ml_SentenceText_38 : Cond.methodLink "NightHelp$SentenceText" 38 ⟨"NightHelp$Tokens", "open", "([BII)V"⟩ ∈ am_ws := am_t 910 (by decide +kernel) (by decide +kernel)
theorem am_ml_SentenceText_42 : Cond.methodLink "NightHelp$SentenceText" 42 ⟨"NightHelp$SentenceText", "look", "(LNightHelp$Village;LNightHelp$Book;)V"⟩ ∈ am_ws := am_t 911 (by decide +kernel) (by decide +kernel)
theorem am_ml_SentenceText_76 : Cond.methodLink "NightHelp$SentenceText" 76 ⟨"NightHelp$Book", "figure", "(LNightHelp$Village;II)I"⟩ ∈ am_ws := am_t 915 (by decide +kernel) (by decide +kernel)
theorem am_ml_Book_130 : Cond.methodLink "NightHelp$Book" 130 ⟨"NightHelp$Village", "hasPerson", "(I)Z"⟩ ∈ am_ws := am_t 919 (by decide +kernel) (by decide +kernel)
theorem am_ml_Book_134 : Cond.methodLink "NightHelp$Book" 134 ⟨"NightHelp$Book", "felt", "(LNightHelp$Village;I)I"⟩ ∈ am_ws := am_t 920 (by decide +kernel) (by decide +kernel)
theorem am_ml_Book_127 : Cond.methodLink "NightHelp$Book" 127 ⟨"NightHelp$Village", "friendship", "(II)I"⟩ ∈ am_ws := am_t 924 (by decide +kernel) (by decide +kernel)
theorem am_ml_Village_108 : Cond.methodLink "NightHelp$Village" 108 ⟨"NightHelp$Village", "hasPerson", "(I)Z"⟩ ∈ am_ws := am_t 928 (by decide +kernel) (by decide +kernel)
theorem am_ml_Book_138 : Cond.methodLink "NightHelp$Book" 138 ⟨"NightHelp$Bonds", "standing", "(II)I"⟩ ∈ am_ws := am_t 929 (by decide +kernel) (by decide +kernel)
theorem am_ml_SentenceText_46 : Cond.methodLink "NightHelp$SentenceText" 46 ⟨"NightHelp$SentenceText", "readCond", "(I)I"⟩ ∈ am_ws := am_t 930 (by decide +kernel) (by decide +kernel)
theorem am_ml_SentenceText_80 : Cond.methodLink "NightHelp$SentenceText" 80 ⟨"NightHelp$SentenceText", "readAnds", "(I)I"⟩ ∈ am_ws := am_t 934 (by decide +kernel) (by decide +kernel)
theorem am_ml_SentenceText_89 : Cond.methodLink "NightHelp$SentenceText" 89 ⟨"NightHelp$SentenceText", "readOne", "(I)I"⟩ ∈ am_ws := am_t 938 (by decide +kernel) (by decide +kernel)
theorem am_ml_SentenceText_56 : Cond.methodLink "NightHelp$SentenceText" 56 ⟨"NightHelp$Tokens", "fail", "(I)Z"⟩ ∈ am_ws := am_t 942 (by decide +kernel) (by decide +kernel)
theorem am_ml_SentenceText_86 : Cond.methodLink "NightHelp$SentenceText" 86 ⟨"NightHelp$Tokens", "advance", "()V"⟩ ∈ am_ws := am_t 943 (by decide +kernel) (by decide +kernel)
theorem am_ml_SentenceText_92 : Cond.methodLink "NightHelp$SentenceText" 92 ⟨"NightHelp$SentenceText", "readNot", "(I)I"⟩ ∈ am_ws := am_t 944 (by decide +kernel) (by decide +kernel)
theorem am_ml_SentenceText_95 : Cond.methodLink "NightHelp$SentenceText" 95 ⟨"NightHelp$SentenceText", "readBracket", "(I)I"⟩ ∈ am_ws := am_t 948 (by decide +kernel) (by decide +kernel)
theorem am_ml_SentenceText_101 : Cond.methodLink "NightHelp$SentenceText" 101 ⟨"NightHelp$Tokens", "take", "(I)Z"⟩ ∈ am_ws := am_t 952 (by decide +kernel) (by decide +kernel)
theorem am_ml_SentenceText_98 : Cond.methodLink "NightHelp$SentenceText" 98 ⟨"NightHelp$SentenceText", "readFigure", "(I)I"⟩ ∈ am_ws := am_t 953 (by decide +kernel) (by decide +kernel)
theorem am_ml_SentenceText_104 : Cond.methodLink "NightHelp$SentenceText" 104 ⟨"NightHelp$Tokens", "takeNumber", "(II)Z"⟩ ∈ am_ws := am_t 957 (by decide +kernel) (by decide +kernel)
theorem am_ml_SentenceText_111 : Cond.methodLink "NightHelp$SentenceText" 111 ⟨"NightHelp$SentenceText", "compare", "(III)Z"⟩ ∈ am_ws := am_t 958 (by decide +kernel) (by decide +kernel)
theorem am_ml_SentenceText_83 : Cond.methodLink "NightHelp$SentenceText" 83 ⟨"NightHelp$SentenceText", "goesOn", "(I)Z"⟩ ∈ am_ws := am_t 961 (by decide +kernel) (by decide +kernel)
theorem am_ml_Nh_147 : Cond.methodLink "NightHelp" 147 ⟨"NightHelp$State", "keepSentence", "([BI)V"⟩ ∈ am_ws := am_t 965 (by decide +kernel) (by decide +kernel)
theorem am_ml_State_57 : Cond.methodLink "NightHelp$State" 57 ⟨"java/lang/System", "arraycopy", "(Ljava/lang/Object;ILjava/lang/Object;II)V"⟩ ∈ am_ws := am_t 969 (by decide +kernel) (by decide +kernel)
theorem am_ml_Law_44 : Cond.methodLink "NightHelpLaw" 44 ⟨"NightHelp", "fault", "()I"⟩ ∈ am_ws := am_t 970 (by decide +kernel) (by decide +kernel)
theorem am_ml_Law_60 : Cond.methodLink "NightHelpLaw" 60 ⟨"NightHelp", "need", "(II)I"⟩ ∈ am_ws := am_t 974 (by decide +kernel) (by decide +kernel)
theorem am_ml_Nh_186 : Cond.methodLink "NightHelp" 186 ⟨"NightHelp$Village", "hasNeed", "(I)Z"⟩ ∈ am_ws := am_t 978 (by decide +kernel) (by decide +kernel)
theorem am_ml_Law_64 : Cond.methodLink "NightHelpLaw" 64 ⟨"NightHelp", "tie", "(III)I"⟩ ∈ am_ws := am_t 982 (by decide +kernel) (by decide +kernel)
theorem am_ml_Nh_167 : Cond.methodLink "NightHelp" 167 ⟨"NightHelp$Village", "hasPerson", "(I)Z"⟩ ∈ am_ws := am_t 986 (by decide +kernel) (by decide +kernel)
theorem am_ml_Nh_195 : Cond.methodLink "NightHelp" 195 ⟨"NightHelp$Village", "friendship", "(II)I"⟩ ∈ am_ws := am_t 987 (by decide +kernel) (by decide +kernel)
theorem am_ml_Nh_199 : Cond.methodLink "NightHelp" 199 ⟨"NightHelp$Village", "sight", "(II)I"⟩ ∈ am_ws := am_t 988 (by decide +kernel) (by decide +kernel)
theorem am_ml_Law_89 : Cond.methodLink "NightHelpLaw" 89 ⟨"NightHelp", "found", "(I)I"⟩ ∈ am_ws := am_t 992 (by decide +kernel) (by decide +kernel)
theorem am_ml_Nh_202 : Cond.methodLink "NightHelp" 202 ⟨"NightHelp$Village", "foundParts", "(I)I"⟩ ∈ am_ws := am_t 996 (by decide +kernel) (by decide +kernel)
theorem am_ml_Village_115 : Cond.methodLink "NightHelp$Village" 115 ⟨"NightHelp$Village", "sight", "(II)I"⟩ ∈ am_ws := am_t 1000 (by decide +kernel) (by decide +kernel)
theorem am_ml_Law_93 : Cond.methodLink "NightHelpLaw" 93 ⟨"NightHelp", "pair", "(II)I"⟩ ∈ am_ws := am_t 1002 (by decide +kernel) (by decide +kernel)
theorem am_ml_Law_159 : Cond.methodLink "NightHelpLaw" 159 ⟨"NightHelp", "count", "(I)I"⟩ ∈ am_ws := am_t 1007 (by decide +kernel) (by decide +kernel)
theorem am_ml_Law_73 : Cond.methodLink "NightHelpLaw" 73 ⟨"NightHelp", "wrong", "(I)I"⟩ ∈ am_ws := am_t 1011 (by decide +kernel) (by decide +kernel)
theorem am_ml_Law_78 : Cond.methodLink "NightHelpLaw" 78 ⟨"NightHelp", "judge", "(I)I"⟩ ∈ am_ws := am_t 1015 (by decide +kernel) (by decide +kernel)
theorem am_ml_Nh_237 : Cond.methodLink "NightHelp" 237 ⟨"NightHelp", "sumOf", "([I)I"⟩ ∈ am_ws := am_t 1019 (by decide +kernel) (by decide +kernel)
theorem am_ml_Law_85 : Cond.methodLink "NightHelpLaw" 85 ⟨"NightHelp", "bound", "(III)I"⟩ ∈ am_ws := am_t 1022 (by decide +kernel) (by decide +kernel)
theorem am_ml_Nh_154 : Cond.methodLink "NightHelp" 154 ⟨"NightHelp$Village", "hasHelp", "(I)Z"⟩ ∈ am_ws := am_t 1026 (by decide +kernel) (by decide +kernel)
theorem am_ml_Nh_262 : Cond.methodLink "NightHelp" 262 ⟨"NightHelp$Village", "needOf", "(II)I"⟩ ∈ am_ws := am_t 1030 (by decide +kernel) (by decide +kernel)
theorem am_ml_Nh_265 : Cond.methodLink "NightHelp" 265 ⟨"NightHelp$Book", "yearsBehind", "(II)I"⟩ ∈ am_ws := am_t 1031 (by decide +kernel) (by decide +kernel)
theorem am_ml_Book_122 : Cond.methodLink "NightHelp$Book" 122 ⟨"java/lang/Math", "max", "(II)I"⟩ ∈ am_ws := am_t 1035 (by decide +kernel) (by decide +kernel)
theorem am_ml_Law_101 : Cond.methodLink "NightHelpLaw" 101 ⟨"NightHelp", "does", "(IIIII)I"⟩ ∈ am_ws := am_t 1036 (by decide +kernel) (by decide +kernel)
theorem am_ml_Nh_268 : Cond.methodLink "NightHelp" 268 ⟨"NightHelp", "isCase", "(IIIII)Z"⟩ ∈ am_ws := am_t 1040 (by decide +kernel) (by decide +kernel)
theorem am_ml_Nh_287 : Cond.methodLink "NightHelp" 287 ⟨"NightHelp$Village", "canMeet", "(II)Z"⟩ ∈ am_ws := am_t 1044 (by decide +kernel) (by decide +kernel)
theorem am_ml_Nh_283 : Cond.methodLink "NightHelp" 283 ⟨"NightHelp", "isTimeAndLaw", "(II)Z"⟩ ∈ am_ws := am_t 1048 (by decide +kernel) (by decide +kernel)
theorem am_ml_Nh_272 : Cond.methodLink "NightHelp" 272 ⟨"NightHelp$Best", "fill", "(LNightHelp$Village;IIII)V"⟩ ∈ am_ws := am_t 1051 (by decide +kernel) (by decide +kernel)
theorem am_ml_Best_29 : Cond.methodLink "NightHelp$Best" 29 ⟨"java/util/Arrays", "fill", "([JJ)V"⟩ ∈ am_ws := am_t 1055 (by decide +kernel) (by decide +kernel)
theorem am_ml_Best_35 : Cond.methodLink "NightHelp$Best" 35 ⟨"java/util/Arrays", "fill", "([II)V"⟩ ∈ am_ws := am_t 1058 (by decide +kernel) (by decide +kernel)
theorem am_ml_Best_38 : Cond.methodLink "NightHelp$Best" 38 ⟨"NightHelp$Village", "canMeet", "(II)Z"⟩ ∈ am_ws := am_t 1059 (by decide +kernel) (by decide +kernel)
theorem am_ml_Best_52 : Cond.methodLink "NightHelp$Best" 52 ⟨"NightHelp$Village", "friendship", "(II)I"⟩ ∈ am_ws := am_t 1061 (by decide +kernel) (by decide +kernel)
theorem am_ml_Best_61 : Cond.methodLink "NightHelp$Best" 61 ⟨"NightHelp$Village", "painsOf", "(II)I"⟩ ∈ am_ws := am_t 1063 (by decide +kernel) (by decide +kernel)
theorem am_ml_Best_67 : Cond.methodLink "NightHelp$Best" 67 ⟨"NightHelp$Village", "foundParts", "(I)I"⟩ ∈ am_ws := am_t 1064 (by decide +kernel) (by decide +kernel)
theorem am_ml_Best_71 : Cond.methodLink "NightHelp$Best" 71 ⟨"NightHelp$Best", "fillFree", "(LNightHelp$Village;II)V"⟩ ∈ am_ws := am_t 1065 (by decide +kernel) (by decide +kernel)
theorem am_ml_Best_82 : Cond.methodLink "NightHelp$Best" 82 ⟨"NightHelp$Best", "valueAt", "(II)J"⟩ ∈ am_ws := am_t 1069 (by decide +kernel) (by decide +kernel)
theorem am_ml_Best_104 : Cond.methodLink "NightHelp$Best" 104 ⟨"NightHelp$Best", "isInside", "(II)Z"⟩ ∈ am_ws := am_t 1073 (by decide +kernel) (by decide +kernel)
theorem am_ml_Best_91 : Cond.methodLink "NightHelp$Best" 91 ⟨"NightHelp$Best", "put", "(IIJI)V"⟩ ∈ am_ws := am_t 1077 (by decide +kernel) (by decide +kernel)
theorem am_ml_Best_79 : Cond.methodLink "NightHelp$Best" 79 ⟨"NightHelp$Best", "fillBound", "(LNightHelp$Village;II)V"⟩ ∈ am_ws := am_t 1081 (by decide +kernel) (by decide +kernel)
theorem am_ml_Best_98 : Cond.methodLink "NightHelp$Best" 98 ⟨"java/lang/Math", "max", "(JJ)J"⟩ ∈ am_ws := am_t 1085 (by decide +kernel) (by decide +kernel)
theorem am_ml_Nh_280 : Cond.methodLink "NightHelp" 280 ⟨"NightHelp$Best", "actAt", "(II)I"⟩ ∈ am_ws := am_t 1088 (by decide +kernel) (by decide +kernel)
theorem am_ml_Law_105 : Cond.methodLink "NightHelpLaw" 105 ⟨"NightHelp", "willing", "(III)I"⟩ ∈ am_ws := am_t 1092 (by decide +kernel) (by decide +kernel)
theorem am_ml_Law_109 : Cond.methodLink "NightHelpLaw" 109 ⟨"NightHelp", "ways", "(III)Z"⟩ ∈ am_ws := am_t 1096 (by decide +kernel) (by decide +kernel)
theorem am_ml_Law_114 : Cond.methodLink "NightHelpLaw" 114 ⟨"NightHelp", "run", "(II)I"⟩ ∈ am_ws := am_t 1100 (by decide +kernel) (by decide +kernel)
theorem am_ml_Nh_290 : Cond.methodLink "NightHelp" 290 ⟨"NightHelp$Run", "go", "(LNightHelp$State;II)V"⟩ ∈ am_ws := am_t 1104 (by decide +kernel) (by decide +kernel)
theorem am_ml_Run_66 : Cond.methodLink "NightHelp$Run" 66 ⟨"NightHelp$Village", "copyFrom", "(LNightHelp$Village;)V"⟩ ∈ am_ws := am_t 1108 (by decide +kernel) (by decide +kernel)
theorem am_ml_Run_77 : Cond.methodLink "NightHelp$Run" 77 ⟨"java/util/Arrays", "fill", "([II)V"⟩ ∈ am_ws := am_t 1110 (by decide +kernel) (by decide +kernel)
theorem am_ml_Run_83 : Cond.methodLink "NightHelp$Run" 83 ⟨"NightHelp$Bonds", "begin", "()V"⟩ ∈ am_ws := am_t 1111 (by decide +kernel) (by decide +kernel)
theorem am_ml_Run_86 : Cond.methodLink "NightHelp$Run" 86 ⟨"java/lang/Math", "min", "(II)I"⟩ ∈ am_ws := am_t 1112 (by decide +kernel) (by decide +kernel)
theorem am_ml_Run_92 : Cond.methodLink "NightHelp$Run" 92 ⟨"NightHelp$Run", "makePlans", "(I)V"⟩ ∈ am_ws := am_t 1113 (by decide +kernel) (by decide +kernel)
theorem am_ml_Run_103 : Cond.methodLink "NightHelp$Run" 103 ⟨"NightHelp$Village", "canMeet", "(II)Z"⟩ ∈ am_ws := am_t 1117 (by decide +kernel) (by decide +kernel)
theorem am_ml_Run_107 : Cond.methodLink "NightHelp$Run" 107 ⟨"NightHelp$Run", "makePlan", "(III)V"⟩ ∈ am_ws := am_t 1118 (by decide +kernel) (by decide +kernel)
theorem am_ml_Run_110 : Cond.methodLink "NightHelp$Run" 110 ⟨"NightHelp$Best", "fill", "(LNightHelp$Village;IIII)V"⟩ ∈ am_ws := am_t 1122 (by decide +kernel) (by decide +kernel)
theorem am_ml_Run_113 : Cond.methodLink "NightHelp$Run" 113 ⟨"NightHelp$Best", "freePlan", "()J"⟩ ∈ am_ws := am_t 1123 (by decide +kernel) (by decide +kernel)
theorem am_ml_Best_107 : Cond.methodLink "NightHelp$Best" 107 ⟨"NightHelp$Best", "actAt", "(II)I"⟩ ∈ am_ws := am_t 1127 (by decide +kernel) (by decide +kernel)
theorem am_ml_Run_99 : Cond.methodLink "NightHelp$Run" 99 ⟨"NightHelp$Run", "meet", "(III)V"⟩ ∈ am_ws := am_t 1128 (by decide +kernel) (by decide +kernel)
theorem am_ml_Run_120 : Cond.methodLink "NightHelp$Run" 120 ⟨"NightHelp$Bonds", "isDue", "(III)Z"⟩ ∈ am_ws := am_t 1132 (by decide +kernel) (by decide +kernel)
theorem am_ml_Run_124 : Cond.methodLink "NightHelp$Run" 124 ⟨"NightHelp$Run", "helpByDay", "(II)V"⟩ ∈ am_ws := am_t 1133 (by decide +kernel) (by decide +kernel)
theorem am_ml_Run_153 : Cond.methodLink "NightHelp$Run" 153 ⟨"NightHelp$Village", "painsOf", "(II)I"⟩ ∈ am_ws := am_t 1137 (by decide +kernel) (by decide +kernel)
theorem am_ml_Run_128 : Cond.methodLink "NightHelp$Run" 128 ⟨"NightHelp$Run", "freeAct", "(III)I"⟩ ∈ am_ws := am_t 1138 (by decide +kernel) (by decide +kernel)
theorem am_ml_Run_140 : Cond.methodLink "NightHelp$Run" 140 ⟨"NightHelp$Run", "planned", "(JI)I"⟩ ∈ am_ws := am_t 1142 (by decide +kernel) (by decide +kernel)
theorem am_ml_Run_144 : Cond.methodLink "NightHelp$Run" 144 ⟨"NightHelp$Run", "partnerOf", "(II)I"⟩ ∈ am_ws := am_t 1145 (by decide +kernel) (by decide +kernel)
theorem am_ml_Run_132 : Cond.methodLink "NightHelp$Run" 132 ⟨"NightHelp$Run", "thank", "(IIIII)V"⟩ ∈ am_ws := am_t 1149 (by decide +kernel) (by decide +kernel)
theorem am_ml_Run_174 : Cond.methodLink "NightHelp$Run" 174 ⟨"NightHelp$Run", "firstOther", "(II)I"⟩ ∈ am_ws := am_t 1153 (by decide +kernel) (by decide +kernel)
theorem am_ml_Run_177 : Cond.methodLink "NightHelp$Run" 177 ⟨"NightHelp$Bonds", "isAbove", "(LNightHelp$Village;III)Z"⟩ ∈ am_ws := am_t 1157 (by decide +kernel) (by decide +kernel)
theorem am_ml_Run_184 : Cond.methodLink "NightHelp$Run" 184 ⟨"NightHelp$Bonds", "bind", "(IIII)V"⟩ ∈ am_ws := am_t 1158 (by decide +kernel) (by decide +kernel)
theorem am_ml_Run_136 : Cond.methodLink "NightHelp$Run" 136 ⟨"NightHelp$Run", "helpByNight", "(IIII)V"⟩ ∈ am_ws := am_t 1159 (by decide +kernel) (by decide +kernel)
theorem am_ml_Run_159 : Cond.methodLink "NightHelp$Run" 159 ⟨"NightHelp$Run", "isFound", "(I)Z"⟩ ∈ am_ws := am_t 1163 (by decide +kernel) (by decide +kernel)
theorem am_ml_Run_167 : Cond.methodLink "NightHelp$Run" 167 ⟨"NightHelp$Village", "sight", "(II)I"⟩ ∈ am_ws := am_t 1167 (by decide +kernel) (by decide +kernel)
theorem am_ml_Run_170 : Cond.methodLink "NightHelp$Run" 170 ⟨"NightHelp$Run", "draw", "(I)I"⟩ ∈ am_ws := am_t 1168 (by decide +kernel) (by decide +kernel)
theorem am_ml_Run_163 : Cond.methodLink "NightHelp$Run" 163 ⟨"NightHelp$Run", "halfUp", "(I)I"⟩ ∈ am_ws := am_t 1173 (by decide +kernel) (by decide +kernel)
theorem am_ml_Nh_294 : Cond.methodLink "NightHelp" 294 ⟨"NightHelp$Run", "figure", "(I)I"⟩ ∈ am_ws := am_t 1176 (by decide +kernel) (by decide +kernel)
theorem am_ml_Law_118 : Cond.methodLink "NightHelpLaw" 118 ⟨"NightHelp", "runBy", "(I)I"⟩ ∈ am_ws := am_t 1180 (by decide +kernel) (by decide +kernel)
theorem am_ml_Law_122 : Cond.methodLink "NightHelpLaw" 122 ⟨"NightHelp", "runOf", "(I)I"⟩ ∈ am_ws := am_t 1184 (by decide +kernel) (by decide +kernel)
theorem am_ml_Law_126 : Cond.methodLink "NightHelpLaw" 126 ⟨"NightHelp", "left", "(I)I"⟩ ∈ am_ws := am_t 1188 (by decide +kernel) (by decide +kernel)
theorem am_ml_Nh_302 : Cond.methodLink "NightHelp" 302 ⟨"NightHelp$Left", "solve", "(LNightHelp$Village;I)I"⟩ ∈ am_ws := am_t 1192 (by decide +kernel) (by decide +kernel)
theorem am_ml_Left_49 : Cond.methodLink "NightHelp$Left" 49 ⟨"java/util/Arrays", "fill", "([II)V"⟩ ∈ am_ws := am_t 1196 (by decide +kernel) (by decide +kernel)
theorem am_ml_Left_58 : Cond.methodLink "NightHelp$Left" 58 ⟨"NightHelp$Village", "canMeet", "(II)Z"⟩ ∈ am_ws := am_t 1197 (by decide +kernel) (by decide +kernel)
theorem am_ml_Left_62 : Cond.methodLink "NightHelp$Left" 62 ⟨"NightHelp$Left", "improve", "(II)Z"⟩ ∈ am_ws := am_t 1198 (by decide +kernel) (by decide +kernel)
theorem am_ml_Left_90 : Cond.methodLink "NightHelp$Left" 90 ⟨"NightHelp$Left", "reach", "(I)V"⟩ ∈ am_ws := am_t 1202 (by decide +kernel) (by decide +kernel)
theorem am_ml_Left_93 : Cond.methodLink "NightHelp$Left" 93 ⟨"NightHelp$Left", "shift", "(I)V"⟩ ∈ am_ws := am_t 1206 (by decide +kernel) (by decide +kernel)
theorem am_ml_Left_65 : Cond.methodLink "NightHelp$Left" 65 ⟨"NightHelp$Left", "settle", "(I)V"⟩ ∈ am_ws := am_t 1210 (by decide +kernel) (by decide +kernel)
theorem am_ml_Left_69 : Cond.methodLink "NightHelp$Left" 69 ⟨"NightHelp$Left", "force", "(II)Z"⟩ ∈ am_ws := am_t 1214 (by decide +kernel) (by decide +kernel)
theorem am_ml_Left_76 : Cond.methodLink "NightHelp$Left" 76 ⟨"NightHelp$Left", "take", "(I)V"⟩ ∈ am_ws := am_t 1219 (by decide +kernel) (by decide +kernel)
theorem am_ml_Left_79 : Cond.methodLink "NightHelp$Left" 79 ⟨"NightHelp$Left", "displaceOne", "(II)Z"⟩ ∈ am_ws := am_t 1223 (by decide +kernel) (by decide +kernel)
theorem am_ml_Left_82 : Cond.methodLink "NightHelp$Left" 82 ⟨"NightHelp$Left", "give", "(II)V"⟩ ∈ am_ws := am_t 1227 (by decide +kernel) (by decide +kernel)
theorem am_ml_Left_86 : Cond.methodLink "NightHelp$Left" 86 ⟨"NightHelp$Left", "improveAny", "(I)Z"⟩ ∈ am_ws := am_t 1231 (by decide +kernel) (by decide +kernel)
theorem am_ml_Law_130 : Cond.methodLink "NightHelpLaw" 130 ⟨"NightHelp", "leftBy", "(I)I"⟩ ∈ am_ws := am_t 1235 (by decide +kernel) (by decide +kernel)
theorem am_ml_Law_134 : Cond.methodLink "NightHelpLaw" 134 ⟨"NightHelp", "think", "(IIII)I"⟩ ∈ am_ws := am_t 1239 (by decide +kernel) (by decide +kernel)
theorem am_ml_Nh_310 : Cond.methodLink "NightHelp" 310 ⟨"NightHelp$Village", "can", "(II)Z"⟩ ∈ am_ws := am_t 1243 (by decide +kernel) (by decide +kernel)
theorem am_ml_Nh_313 : Cond.methodLink "NightHelp" 313 ⟨"NightHelp", "likely", "(IIII)I"⟩ ∈ am_ws := am_t 1244 (by decide +kernel) (by decide +kernel)
theorem am_ml_Law_139 : Cond.methodLink "NightHelpLaw" 139 ⟨"NightHelp", "thinkOf", "(II)I"⟩ ∈ am_ws := am_t 1248 (by decide +kernel) (by decide +kernel)
theorem am_ml_Law_147 : Cond.methodLink "NightHelpLaw" 147 ⟨"NightHelp", "said", "()I"⟩ ∈ am_ws := am_t 1252 (by decide +kernel) (by decide +kernel)
theorem am_ml_Law_151 : Cond.methodLink "NightHelpLaw" 151 ⟨"NightHelp", "image", "(I)Z"⟩ ∈ am_ws := am_t 1256 (by decide +kernel) (by decide +kernel)
theorem am_ml_Nh_326 : Cond.methodLink "NightHelp" 326 ⟨"NightHelp$State", "copyFrom", "(LNightHelp$State;)V"⟩ ∈ am_ws := am_t 1260 (by decide +kernel) (by decide +kernel)
theorem am_ml_State_63 : Cond.methodLink "NightHelp$State" 63 ⟨"NightHelp$Book", "copyFrom", "(LNightHelp$Book;)V"⟩ ∈ am_ws := am_t 1264 (by decide +kernel) (by decide +kernel)
theorem am_ml_State_66 : Cond.methodLink "NightHelp$State" 66 ⟨"NightHelp$State", "keepSentence", "([BI)V"⟩ ∈ am_ws := am_t 1265 (by decide +kernel) (by decide +kernel)
theorem am_ml_Law_155 : Cond.methodLink "NightHelpLaw" 155 ⟨"NightHelp", "restore", "(I)Z"⟩ ∈ am_ws := am_t 1266 (by decide +kernel) (by decide +kernel)
theorem am_ml_Law_48 : Cond.methodLink "NightHelpLaw" 48 ⟨"NightHelpLaw", "help", "(LNightHelp;II[J)I"⟩ ∈ am_ws := am_t 1270 (by decide +kernel) (by decide +kernel)
theorem am_ml_Law_7 : Cond.methodLink "NightHelpLaw" 7 ⟨"NightHelp", "help", "(II)I"⟩ ∈ am_ws := am_t 1274 (by decide +kernel) (by decide +kernel)
theorem am_ml_Law_57 : Cond.methodLink "NightHelpLaw" 57 ⟨"NightHelpLaw", "person", "(LNightHelp;II[J)I"⟩ ∈ am_ws := am_t 1339 (by decide +kernel) (by decide +kernel)
theorem am_ml_Law_15 : Cond.methodLink "NightHelpLaw" 15 ⟨"NightHelp", "person", "(II)I"⟩ ∈ am_ws := am_t 1342 (by decide +kernel) (by decide +kernel)
theorem am_ml_Nh_173 : Cond.methodLink "NightHelp" 173 ⟨"NightHelp$Village", "canBits", "(I)I"⟩ ∈ am_ws := am_t 1346 (by decide +kernel) (by decide +kernel)
theorem am_ml_Village_111 : Cond.methodLink "NightHelp$Village" 111 ⟨"NightHelp$Village", "can", "(II)Z"⟩ ∈ am_ws := am_t 1350 (by decide +kernel) (by decide +kernel)
theorem am_ml_Nh_177 : Cond.methodLink "NightHelp" 177 ⟨"NightHelp$Village", "needBits", "(I)I"⟩ ∈ am_ws := am_t 1351 (by decide +kernel) (by decide +kernel)
theorem am_ml_Law_82 : Cond.methodLink "NightHelpLaw" 82 ⟨"NightHelpLaw", "came", "(LNightHelp;II[J)I"⟩ ∈ am_ws := am_t 1355 (by decide +kernel) (by decide +kernel)
theorem am_ml_Law_18 : Cond.methodLink "NightHelpLaw" 18 ⟨"NightHelp", "came", "(II)I"⟩ ∈ am_ws := am_t 1358 (by decide +kernel) (by decide +kernel)
theorem am_ml_Nh_258 : Cond.methodLink "NightHelp" 258 ⟨"NightHelp$Book", "figure", "(LNightHelp$Village;II)I"⟩ ∈ am_ws := am_t 1362 (by decide +kernel) (by decide +kernel)
theorem am_ml_Law_97 : Cond.methodLink "NightHelpLaw" 97 ⟨"NightHelpLaw", "best", "(LNightHelp;IIIII[J)I"⟩ ∈ am_ws := am_t 1363 (by decide +kernel) (by decide +kernel)
theorem am_ml_Law_21 : Cond.methodLink "NightHelpLaw" 21 ⟨"NightHelp", "best", "(IIIII)J"⟩ ∈ am_ws := am_t 1366 (by decide +kernel) (by decide +kernel)
theorem am_ml_Nh_276 : Cond.methodLink "NightHelp" 276 ⟨"NightHelp$Best", "valueAt", "(II)J"⟩ ∈ am_ws := am_t 1370 (by decide +kernel) (by decide +kernel)
theorem am_ml_Law_54 : Cond.methodLink "NightHelpLaw" 54 ⟨"NightHelpModel", "thrown", "()I"⟩ ∈ am_ws := am_t 1574 (by decide +kernel) (by decide +kernel)
theorem am_ml_Law_33 : Cond.methodLink "NightHelpLaw" 33 ⟨"NightHelpModel", "feed", "(IIIII)I"⟩ ∈ am_ws := am_t 1578 (by decide +kernel) (by decide +kernel)
theorem am_ml_Md_109 : Cond.methodLink "NightHelpModel" 109 ⟨"NightHelpModel", "come", "(I)V"⟩ ∈ am_ws := am_t 1582 (by decide +kernel) (by decide +kernel)
theorem am_ml_Law_38 : Cond.methodLink "NightHelpLaw" 38 ⟨"NightHelpModel", "end", "(I)Z"⟩ ∈ am_ws := am_t 1586 (by decide +kernel) (by decide +kernel)
theorem am_ml_Law_43 : Cond.methodLink "NightHelpLaw" 43 ⟨"NightHelpModel", "village", "()I"⟩ ∈ am_ws := am_t 1590 (by decide +kernel) (by decide +kernel)
theorem am_ml_Md_245 : Cond.methodLink "NightHelpModel" 245 ⟨"NightHelpModel", "begin", "(I)V"⟩ ∈ am_ws := am_t 1594 (by decide +kernel) (by decide +kernel)
theorem am_ml_Md_187 : Cond.methodLink "NightHelpModel" 187 ⟨"NightHelpModel", "lay", "()V"⟩ ∈ am_ws := am_t 1598 (by decide +kernel) (by decide +kernel)
theorem am_ml_Md_190 : Cond.methodLink "NightHelpModel" 190 ⟨"NightHelpModel", "take", "()I"⟩ ∈ am_ws := am_t 1602 (by decide +kernel) (by decide +kernel)
theorem am_ml_Md_181 : Cond.methodLink "NightHelpModel" 181 ⟨"NightHelpModel", "go", "()V"⟩ ∈ am_ws := am_t 1606 (by decide +kernel) (by decide +kernel)
theorem am_ml_Md_128 : Cond.methodLink "NightHelpModel" 128 ⟨"NightHelpModel", "isLetter", "(I)Z"⟩ ∈ am_ws := am_t 1610 (by decide +kernel) (by decide +kernel)
theorem am_ml_Md_132 : Cond.methodLink "NightHelpModel" 132 ⟨"NightHelpModel", "isDigit", "(I)Z"⟩ ∈ am_ws := am_t 1613 (by decide +kernel) (by decide +kernel)
theorem am_ml_Md_145 : Cond.methodLink "NightHelpModel" 145 ⟨"NightHelpModel", "byteAt", "(I)I"⟩ ∈ am_ws := am_t 1616 (by decide +kernel) (by decide +kernel)
theorem am_ml_Md_248 : Cond.methodLink "NightHelpModel" 248 ⟨"NightHelpModel", "readLine", "()Z"⟩ ∈ am_ws := am_t 1622 (by decide +kernel) (by decide +kernel)
theorem am_ml_Md_218 : Cond.methodLink "NightHelpModel" 218 ⟨"NightHelpModel", "isWord", "(I)Z"⟩ ∈ am_ws := am_t 1626 (by decide +kernel) (by decide +kernel)
theorem am_ml_Md_161 : Cond.methodLink "NightHelpModel" 161 ⟨"NightHelpModel", "wordOf", "(I)J"⟩ ∈ am_ws := am_t 1630 (by decide +kernel) (by decide +kernel)
theorem am_ml_Md_153 : Cond.methodLink "NightHelpModel" 153 ⟨"NightHelpModel", "spelt", "(IIII)J"⟩ ∈ am_ws := am_t 1633 (by decide +kernel) (by decide +kernel)
theorem am_ml_Md_157 : Cond.methodLink "NightHelpModel" 157 ⟨"NightHelpModel", "on", "(JII)J"⟩ ∈ am_ws := am_t 1636 (by decide +kernel) (by decide +kernel)
theorem am_ml_Md_171 : Cond.methodLink "NightHelpModel" 171 ⟨"NightHelpModel", "bad", "(I)Z"⟩ ∈ am_ws := am_t 1639 (by decide +kernel) (by decide +kernel)
theorem am_ml_Md_230 : Cond.methodLink "NightHelpModel" 230 ⟨"NightHelpModel", "readHelp", "()Z"⟩ ∈ am_ws := am_t 1643 (by decide +kernel) (by decide +kernel)
theorem am_ml_Md_211 : Cond.methodLink "NightHelpModel" 211 ⟨"NightHelpModel", "readNew", "(I)Z"⟩ ∈ am_ws := am_t 1647 (by decide +kernel) (by decide +kernel)
theorem am_ml_Md_204 : Cond.methodLink "NightHelpModel" 204 ⟨"NightHelpModel", "isName", "()Z"⟩ ∈ am_ws := am_t 1651 (by decide +kernel) (by decide +kernel)
theorem am_ml_Md_208 : Cond.methodLink "NightHelpModel" 208 ⟨"NightHelpModel", "findRead", "()I"⟩ ∈ am_ws := am_t 1655 (by decide +kernel) (by decide +kernel)
theorem am_ml_Md_214 : Cond.methodLink "NightHelpModel" 214 ⟨"NightHelpModel", "readNumber", "(II)Z"⟩ ∈ am_ws := am_t 1659 (by decide +kernel) (by decide +kernel)
theorem am_ml_Md_174 : Cond.methodLink "NightHelpModel" 174 ⟨"NightHelpModel", "isIn", "(III)Z"⟩ ∈ am_ws := am_t 1663 (by decide +kernel) (by decide +kernel)
theorem am_ml_Md_233 : Cond.methodLink "NightHelpModel" 233 ⟨"NightHelpModel", "readPerson", "()Z"⟩ ∈ am_ws := am_t 1666 (by decide +kernel) (by decide +kernel)
theorem am_ml_Md_221 : Cond.methodLink "NightHelpModel" 221 ⟨"NightHelpModel", "readHelpTold", "()Z"⟩ ∈ am_ws := am_t 1670 (by decide +kernel) (by decide +kernel)
theorem am_ml_Md_224 : Cond.methodLink "NightHelpModel" 224 ⟨"NightHelpModel", "has", "(II)Z"⟩ ∈ am_ws := am_t 1674 (by decide +kernel) (by decide +kernel)
theorem am_ml_Md_236 : Cond.methodLink "NightHelpModel" 236 ⟨"NightHelpModel", "readTie", "(I)Z"⟩ ∈ am_ws := am_t 1677 (by decide +kernel) (by decide +kernel)
theorem am_ml_Md_239 : Cond.methodLink "NightHelpModel" 239 ⟨"NightHelpModel", "readOnce", "(I)Z"⟩ ∈ am_ws := am_t 1681 (by decide +kernel) (by decide +kernel)
theorem am_ml_Md_242 : Cond.methodLink "NightHelpModel" 242 ⟨"NightHelpModel", "readEnd", "()Z"⟩ ∈ am_ws := am_t 1685 (by decide +kernel) (by decide +kernel)
theorem am_ml_Md_184 : Cond.methodLink "NightHelpModel" 184 ⟨"NightHelpModel", "isSign", "(I)Z"⟩ ∈ am_ws := am_t 1689 (by decide +kernel) (by decide +kernel)
theorem am_ml_Law_47 : Cond.methodLink "NightHelpLaw" 47 ⟨"NightHelpModel", "fault", "()I"⟩ ∈ am_ws := am_t 1693 (by decide +kernel) (by decide +kernel)
theorem am_ml_Law_53 : Cond.methodLink "NightHelpLaw" 53 ⟨"NightHelpModel", "help", "(II)I"⟩ ∈ am_ws := am_t 1697 (by decide +kernel) (by decide +kernel)
theorem am_ml_Md_251 : Cond.methodLink "NightHelpModel" 251 ⟨"NightHelpModel", "isHelp", "(I)Z"⟩ ∈ am_ws := am_t 1701 (by decide +kernel) (by decide +kernel)
theorem am_ml_Md_198 : Cond.methodLink "NightHelpModel" 198 ⟨"NightHelpModel", "helps", "()I"⟩ ∈ am_ws := am_t 1705 (by decide +kernel) (by decide +kernel)
theorem am_ml_Md_254 : Cond.methodLink "NightHelpModel" 254 ⟨"NightHelpModel", "refuse", "()I"⟩ ∈ am_ws := am_t 1709 (by decide +kernel) (by decide +kernel)
theorem am_ml_Law_59 : Cond.methodLink "NightHelpLaw" 59 ⟨"NightHelpModel", "person", "(II)I"⟩ ∈ am_ws := am_t 1713 (by decide +kernel) (by decide +kernel)
theorem am_ml_Md_261 : Cond.methodLink "NightHelpModel" 261 ⟨"NightHelpModel", "isPerson", "(I)Z"⟩ ∈ am_ws := am_t 1717 (by decide +kernel) (by decide +kernel)
theorem am_ml_Md_201 : Cond.methodLink "NightHelpModel" 201 ⟨"NightHelpModel", "persons", "()I"⟩ ∈ am_ws := am_t 1721 (by decide +kernel) (by decide +kernel)
theorem am_ml_Md_264 : Cond.methodLink "NightHelpModel" 264 ⟨"NightHelpModel", "cans", "(I)I"⟩ ∈ am_ws := am_t 1725 (by decide +kernel) (by decide +kernel)
theorem am_ml_Md_257 : Cond.methodLink "NightHelpModel" 257 ⟨"NightHelpModel", "pains", "(II)I"⟩ ∈ am_ws := am_t 1729 (by decide +kernel) (by decide +kernel)
theorem am_ml_Law_63 : Cond.methodLink "NightHelpLaw" 63 ⟨"NightHelpModel", "need", "(II)I"⟩ ∈ am_ws := am_t 1733 (by decide +kernel) (by decide +kernel)
theorem am_ml_Md_267 : Cond.methodLink "NightHelpModel" 267 ⟨"NightHelpModel", "isNeed", "(I)Z"⟩ ∈ am_ws := am_t 1737 (by decide +kernel) (by decide +kernel)
theorem am_ml_Law_68 : Cond.methodLink "NightHelpLaw" 68 ⟨"NightHelpModel", "tie", "(III)I"⟩ ∈ am_ws := am_t 1741 (by decide +kernel) (by decide +kernel)
theorem am_ml_Md_270 : Cond.methodLink "NightHelpModel" 270 ⟨"NightHelpModel", "friendship", "(II)I"⟩ ∈ am_ws := am_t 1745 (by decide +kernel) (by decide +kernel)
theorem am_ml_Md_273 : Cond.methodLink "NightHelpModel" 273 ⟨"NightHelpModel", "sees", "(II)I"⟩ ∈ am_ws := am_t 1749 (by decide +kernel) (by decide +kernel)
theorem am_ml_Law_72 : Cond.methodLink "NightHelpLaw" 72 ⟨"NightHelpModel", "book", "()I"⟩ ∈ am_ws := am_t 1753 (by decide +kernel) (by decide +kernel)
theorem am_ml_Md_285 : Cond.methodLink "NightHelpModel" 285 ⟨"NightHelpModel", "readBookLine", "(I)Z"⟩ ∈ am_ws := am_t 1757 (by decide +kernel) (by decide +kernel)
theorem am_ml_Md_276 : Cond.methodLink "NightHelpModel" 276 ⟨"NightHelpModel", "named", "(II)I"⟩ ∈ am_ws := am_t 1761 (by decide +kernel) (by decide +kernel)
theorem am_ml_Md_282 : Cond.methodLink "NightHelpModel" 282 ⟨"NightHelpModel", "readNamed", "(III)Z"⟩ ∈ am_ws := am_t 1765 (by decide +kernel) (by decide +kernel)
theorem am_ml_Law_77 : Cond.methodLink "NightHelpLaw" 77 ⟨"NightHelpModel", "wrong", "(I)I"⟩ ∈ am_ws := am_t 1769 (by decide +kernel) (by decide +kernel)
theorem am_ml_Md_326 : Cond.methodLink "NightHelpModel" 326 ⟨"NightHelpModel", "doBook", "()V"⟩ ∈ am_ws := am_t 1773 (by decide +kernel) (by decide +kernel)
theorem am_ml_Md_316 : Cond.methodLink "NightHelpModel" 316 ⟨"NightHelpModel", "clearBonds", "()V"⟩ ∈ am_ws := am_t 1777 (by decide +kernel) (by decide +kernel)
theorem am_ml_Md_319 : Cond.methodLink "NightHelpModel" 319 ⟨"NightHelpModel", "endYear", "()V"⟩ ∈ am_ws := am_t 1781 (by decide +kernel) (by decide +kernel)
theorem am_ml_Md_288 : Cond.methodLink "NightHelpModel" 288 ⟨"NightHelpModel", "bond", "(III)I"⟩ ∈ am_ws := am_t 1785 (by decide +kernel) (by decide +kernel)
theorem am_ml_Md_322 : Cond.methodLink "NightHelpModel" 322 ⟨"NightHelpModel", "doLine", "(IIII)I"⟩ ∈ am_ws := am_t 1788 (by decide +kernel) (by decide +kernel)
theorem am_ml_Md_298 : Cond.methodLink "NightHelpModel" 298 ⟨"NightHelpModel", "hide", "(I)I"⟩ ∈ am_ws := am_t 1792 (by decide +kernel) (by decide +kernel)
theorem am_ml_Md_301 : Cond.methodLink "NightHelpModel" 301 ⟨"NightHelpModel", "worth", "(I)I"⟩ ∈ am_ws := am_t 1796 (by decide +kernel) (by decide +kernel)
theorem am_ml_Md_304 : Cond.methodLink "NightHelpModel" 304 ⟨"NightHelpModel", "bondsOf", "(II)I"⟩ ∈ am_ws := am_t 1800 (by decide +kernel) (by decide +kernel)
theorem am_ml_Law_81 : Cond.methodLink "NightHelpLaw" 81 ⟨"NightHelpModel", "judge", "(I)I"⟩ ∈ am_ws := am_t 1804 (by decide +kernel) (by decide +kernel)
theorem am_ml_Law_84 : Cond.methodLink "NightHelpLaw" 84 ⟨"NightHelpModel", "came", "(II)I"⟩ ∈ am_ws := am_t 1808 (by decide +kernel) (by decide +kernel)
theorem am_ml_Md_332 : Cond.methodLink "NightHelpModel" 332 ⟨"NightHelpModel", "cameOf", "(II)I"⟩ ∈ am_ws := am_t 1812 (by decide +kernel) (by decide +kernel)
theorem am_ml_Md_329 : Cond.methodLink "NightHelpModel" 329 ⟨"NightHelpModel", "felt", "(I)I"⟩ ∈ am_ws := am_t 1816 (by decide +kernel) (by decide +kernel)
theorem am_ml_Law_88 : Cond.methodLink "NightHelpLaw" 88 ⟨"NightHelpModel", "bound", "(III)I"⟩ ∈ am_ws := am_t 1820 (by decide +kernel) (by decide +kernel)
theorem am_ml_Law_92 : Cond.methodLink "NightHelpLaw" 92 ⟨"NightHelpModel", "found", "(I)I"⟩ ∈ am_ws := am_t 1824 (by decide +kernel) (by decide +kernel)
theorem am_ml_Md_336 : Cond.methodLink "NightHelpModel" 336 ⟨"NightHelpModel", "foundOf", "(I)I"⟩ ∈ am_ws := am_t 1828 (by decide +kernel) (by decide +kernel)
theorem am_ml_Law_96 : Cond.methodLink "NightHelpLaw" 96 ⟨"NightHelpModel", "pair", "(II)I"⟩ ∈ am_ws := am_t 1833 (by decide +kernel) (by decide +kernel)
theorem am_ml_Law_100 : Cond.methodLink "NightHelpLaw" 100 ⟨"NightHelpModel", "best", "(IIIII)J"⟩ ∈ am_ws := am_t 1838 (by decide +kernel) (by decide +kernel)
theorem am_ml_Md_351 : Cond.methodLink "NightHelpModel" 351 ⟨"NightHelpModel", "isAsked", "(IIII)Z"⟩ ∈ am_ws := am_t 1842 (by decide +kernel) (by decide +kernel)
theorem am_ml_Md_346 : Cond.methodLink "NightHelpModel" 346 ⟨"NightHelpModel", "needy", "(I)I"⟩ ∈ am_ws := am_t 1846 (by decide +kernel) (by decide +kernel)
theorem am_ml_Md_341 : Cond.methodLink "NightHelpModel" 341 ⟨"NightHelpModel", "needed", "(I)I"⟩ ∈ am_ws := am_t 1850 (by decide +kernel) (by decide +kernel)
theorem am_ml_Md_355 : Cond.methodLink "NightHelpModel" 355 ⟨"NightHelpModel", "layValues", "(IIII)V"⟩ ∈ am_ws := am_t 1854 (by decide +kernel) (by decide +kernel)
theorem am_ml_Law_104 : Cond.methodLink "NightHelpLaw" 104 ⟨"NightHelpModel", "does", "(IIIII)I"⟩ ∈ am_ws := am_t 1860 (by decide +kernel) (by decide +kernel)
theorem am_ml_Law_108 : Cond.methodLink "NightHelpLaw" 108 ⟨"NightHelpModel", "willing", "(III)I"⟩ ∈ am_ws := am_t 1864 (by decide +kernel) (by decide +kernel)
theorem am_ml_Md_359 : Cond.methodLink "NightHelpModel" 359 ⟨"NightHelpModel", "freely", "(IIII)I"⟩ ∈ am_ws := am_t 1868 (by decide +kernel) (by decide +kernel)
theorem am_ml_Law_113 : Cond.methodLink "NightHelpLaw" 113 ⟨"NightHelpModel", "ways", "(III)Z"⟩ ∈ am_ws := am_t 1872 (by decide +kernel) (by decide +kernel)
theorem am_ml_Law_117 : Cond.methodLink "NightHelpLaw" 117 ⟨"NightHelpModel", "run", "(II)I"⟩ ∈ am_ws := am_t 1876 (by decide +kernel) (by decide +kernel)
theorem am_ml_Md_388 : Cond.methodLink "NightHelpModel" 388 ⟨"NightHelpModel", "meet", "(III)V"⟩ ∈ am_ws := am_t 1880 (by decide +kernel) (by decide +kernel)
theorem am_ml_Md_378 : Cond.methodLink "NightHelpModel" 378 ⟨"NightHelpModel", "offers", "(II)I"⟩ ∈ am_ws := am_t 1884 (by decide +kernel) (by decide +kernel)
theorem am_ml_Md_372 : Cond.methodLink "NightHelpModel" 372 ⟨"NightHelpModel", "canHelp", "(II)Z"⟩ ∈ am_ws := am_t 1888 (by decide +kernel) (by decide +kernel)
theorem am_ml_Md_381 : Cond.methodLink "NightHelpModel" 381 ⟨"NightHelpModel", "isSeen", "(I)Z"⟩ ∈ am_ws := am_t 1892 (by decide +kernel) (by decide +kernel)
theorem am_ml_Md_366 : Cond.methodLink "NightHelpModel" 366 ⟨"NightHelpModel", "draw", "(I)I"⟩ ∈ am_ws := am_t 1896 (by decide +kernel) (by decide +kernel)
theorem am_ml_Md_384 : Cond.methodLink "NightHelpModel" 384 ⟨"NightHelpModel", "thanks", "(III)V"⟩ ∈ am_ws := am_t 1901 (by decide +kernel) (by decide +kernel)
theorem am_ml_Law_121 : Cond.methodLink "NightHelpLaw" 121 ⟨"NightHelpModel", "runBy", "(I)I"⟩ ∈ am_ws := am_t 1905 (by decide +kernel) (by decide +kernel)
theorem am_ml_Law_125 : Cond.methodLink "NightHelpLaw" 125 ⟨"NightHelpModel", "runOf", "(I)I"⟩ ∈ am_ws := am_t 1909 (by decide +kernel) (by decide +kernel)
theorem am_ml_Law_129 : Cond.methodLink "NightHelpLaw" 129 ⟨"NightHelpModel", "left", "(I)I"⟩ ∈ am_ws := am_t 1913 (by decide +kernel) (by decide +kernel)
theorem am_ml_Md_406 : Cond.methodLink "NightHelpModel" 406 ⟨"NightHelpModel", "matched", "()I"⟩ ∈ am_ws := am_t 1917 (by decide +kernel) (by decide +kernel)
theorem am_ml_Md_403 : Cond.methodLink "NightHelpModel" 403 ⟨"NightHelpModel", "gets", "(I)Z"⟩ ∈ am_ws := am_t 1921 (by decide +kernel) (by decide +kernel)
theorem am_ml_Law_133 : Cond.methodLink "NightHelpLaw" 133 ⟨"NightHelpModel", "leftBy", "(I)I"⟩ ∈ am_ws := am_t 1925 (by decide +kernel) (by decide +kernel)
theorem am_ml_Law_138 : Cond.methodLink "NightHelpLaw" 138 ⟨"NightHelpModel", "think", "(IIII)I"⟩ ∈ am_ws := am_t 1929 (by decide +kernel) (by decide +kernel)
theorem am_ml_Law_142 : Cond.methodLink "NightHelpLaw" 142 ⟨"NightHelpModel", "thinkOf", "(II)I"⟩ ∈ am_ws := am_t 1933 (by decide +kernel) (by decide +kernel)
theorem am_ml_Law_146 : Cond.methodLink "NightHelpLaw" 146 ⟨"NightHelpModel", "sentence", "()I"⟩ ∈ am_ws := am_t 1937 (by decide +kernel) (by decide +kernel)
theorem am_ml_Md_448 : Cond.methodLink "NightHelpModel" 448 ⟨"NightHelpModel", "readOr", "()Z"⟩ ∈ am_ws := am_t 1941 (by decide +kernel) (by decide +kernel)
theorem am_ml_Md_421 : Cond.methodLink "NightHelpModel" 421 ⟨"NightHelpModel", "readAnd", "()Z"⟩ ∈ am_ws := am_t 1945 (by decide +kernel) (by decide +kernel)
theorem am_ml_Md_430 : Cond.methodLink "NightHelpModel" 430 ⟨"NightHelpModel", "readOne", "()Z"⟩ ∈ am_ws := am_t 1949 (by decide +kernel) (by decide +kernel)
theorem am_ml_Md_439 : Cond.methodLink "NightHelpModel" 439 ⟨"NightHelpModel", "readBracket", "()Z"⟩ ∈ am_ws := am_t 1953 (by decide +kernel) (by decide +kernel)
theorem am_ml_Md_442 : Cond.methodLink "NightHelpModel" 442 ⟨"NightHelpModel", "readNot", "()Z"⟩ ∈ am_ws := am_t 1957 (by decide +kernel) (by decide +kernel)
theorem am_ml_Md_427 : Cond.methodLink "NightHelpModel" 427 ⟨"NightHelpModel", "lays", "(IIII)I"⟩ ∈ am_ws := am_t 1961 (by decide +kernel) (by decide +kernel)
theorem am_ml_Md_445 : Cond.methodLink "NightHelpModel" 445 ⟨"NightHelpModel", "readCompare", "(I)Z"⟩ ∈ am_ws := am_t 1965 (by decide +kernel) (by decide +kernel)
theorem am_ml_Law_150 : Cond.methodLink "NightHelpLaw" 150 ⟨"NightHelpModel", "said", "()I"⟩ ∈ am_ws := am_t 1969 (by decide +kernel) (by decide +kernel)
theorem am_ml_Md_451 : Cond.methodLink "NightHelpModel" 451 ⟨"NightHelpModel", "isSo", "(II)Z"⟩ ∈ am_ws := am_t 1973 (by decide +kernel) (by decide +kernel)
theorem am_ml_Law_154 : Cond.methodLink "NightHelpLaw" 154 ⟨"NightHelpModel", "image", "(I)Z"⟩ ∈ am_ws := am_t 1977 (by decide +kernel) (by decide +kernel)
theorem am_ml_Law_158 : Cond.methodLink "NightHelpLaw" 158 ⟨"NightHelpModel", "restore", "(I)Z"⟩ ∈ am_ws := am_t 1981 (by decide +kernel) (by decide +kernel)
theorem am_ml_Law_162 : Cond.methodLink "NightHelpLaw" 162 ⟨"NightHelpModel", "count", "(I)I"⟩ ∈ am_ws := am_t 1985 (by decide +kernel) (by decide +kernel)
theorem am_cn_Village_118 : Cond.constant "NightHelp$Village" 118 (Int32.ofInt 10000000) ∈ am_ws := am_t 1001 (by decide +kernel) (by decide +kernel)
theorem am_cn_Run_173 : Cond.constant "NightHelp$Run" 173 (Int32.ofInt 1103515245) ∈ am_ws := am_t 1172 (by decide +kernel) (by decide +kernel)
theorem am_cn_Md_335 : Cond.constant "NightHelpModel" 335 (Int32.ofInt 10000000) ∈ am_ws := am_t 1832 (by decide +kernel) (by decide +kernel)
theorem am_cn_Md_365 : Cond.constant "NightHelpModel" 365 (Int32.ofInt 1103515245) ∈ am_ws := am_t 1900 (by decide +kernel) (by decide +kernel)
theorem am_cl_Nh_205 : Cond.constantLong "NightHelp" 205 (Int64.ofInt 10000000) ∈ am_ws := am_t 1006 (by decide +kernel) (by decide +kernel)
theorem am_cl_Best_47 : Cond.constantLong "NightHelp$Best" 47 (Int64.ofInt 100000) ∈ am_ws := am_t 1060 (by decide +kernel) (by decide +kernel)
theorem am_cl_Best_59 : Cond.constantLong "NightHelp$Best" 59 (Int64.ofInt 1000000) ∈ am_ws := am_t 1062 (by decide +kernel) (by decide +kernel)
theorem am_cl_Best_89 : Cond.constantLong "NightHelp$Best" 89 (Int64.ofInt 10000000) ∈ am_ws := am_t 1076 (by decide +kernel) (by decide +kernel)
theorem am_cl_Md_149 : Cond.constantLong "NightHelpModel" 149 (Int64.ofInt 27) ∈ am_ws := am_t 1620 (by decide +kernel) (by decide +kernel)
theorem am_cl_Md_151 : Cond.constantLong "NightHelpModel" 151 (Int64.ofInt 96) ∈ am_ws := am_t 1621 (by decide +kernel) (by decide +kernel)
theorem am_cl_Md_339 : Cond.constantLong "NightHelpModel" 339 (Int64.ofInt 10000000) ∈ am_ws := am_t 1837 (by decide +kernel) (by decide +kernel)
theorem am_cl_Md_344 : Cond.constantLong "NightHelpModel" 344 (Int64.ofInt 100000) ∈ am_ws := am_t 1858 (by decide +kernel) (by decide +kernel)
theorem am_cl_Md_349 : Cond.constantLong "NightHelpModel" 349 (Int64.ofInt 1000000) ∈ am_ws := am_t 1859 (by decide +kernel) (by decide +kernel)
theorem am_in_NightHelpLaw : Cond.initialized "NightHelpLaw" ∈ am_ws := am_t 0 (by decide +kernel) (by decide +kernel)
theorem am_in_NightHelp : Cond.initialized "NightHelp" ∈ am_ws := am_t 1 (by decide +kernel) (by decide +kernel)
theorem am_in_NightHelp_State : Cond.initialized "NightHelp$State" ∈ am_ws := am_t 2 (by decide +kernel) (by decide +kernel)
theorem am_in_NightHelp_Village : Cond.initialized "NightHelp$Village" ∈ am_ws := am_t 3 (by decide +kernel) (by decide +kernel)
theorem am_in_java_util_Arrays : Cond.initialized "java/util/Arrays" ∈ am_ws := am_t 4 (by decide +kernel) (by decide +kernel)
theorem am_in_NightHelp_Book : Cond.initialized "NightHelp$Book" ∈ am_ws := am_t 5 (by decide +kernel) (by decide +kernel)
theorem am_in_NightHelp_Bonds : Cond.initialized "NightHelp$Bonds" ∈ am_ws := am_t 6 (by decide +kernel) (by decide +kernel)
theorem am_in_NightHelp_VillageText : Cond.initialized "NightHelp$VillageText" ∈ am_ws := am_t 7 (by decide +kernel) (by decide +kernel)
theorem am_in_NightHelp_Tokens : Cond.initialized "NightHelp$Tokens" ∈ am_ws := am_t 8 (by decide +kernel) (by decide +kernel)
theorem am_in_NightHelp_BookText : Cond.initialized "NightHelp$BookText" ∈ am_ws := am_t 9 (by decide +kernel) (by decide +kernel)
theorem am_in_NightHelp_SentenceText : Cond.initialized "NightHelp$SentenceText" ∈ am_ws := am_t 10 (by decide +kernel) (by decide +kernel)
theorem am_in_NightHelp_Best : Cond.initialized "NightHelp$Best" ∈ am_ws := am_t 11 (by decide +kernel) (by decide +kernel)
theorem am_in_NightHelp_Run : Cond.initialized "NightHelp$Run" ∈ am_ws := am_t 12 (by decide +kernel) (by decide +kernel)
theorem am_in_NightHelp_Left : Cond.initialized "NightHelp$Left" ∈ am_ws := am_t 13 (by decide +kernel) (by decide +kernel)
theorem am_in_NightHelpModel : Cond.initialized "NightHelpModel" ∈ am_ws := am_t 14 (by decide +kernel) (by decide +kernel)
theorem am_in_java_lang_Math : Cond.initialized "java/lang/Math" ∈ am_ws := am_t 15 (by decide +kernel) (by decide +kernel)
theorem am_in_java_lang_String : Cond.initialized "java/lang/String" ∈ am_ws := am_t 16 (by decide +kernel) (by decide +kernel)
theorem am_in_java_lang_StringLatin1 : Cond.initialized "java/lang/StringLatin1" ∈ am_ws := am_t 17 (by decide +kernel) (by decide +kernel)
theorem am_in_jdk_internal_util_Preconditions : Cond.initialized "jdk/internal/util/Preconditions" ∈ am_ws := am_t 18 (by decide +kernel) (by decide +kernel)
theorem am_in_java_lang_StringUTF16 : Cond.initialized "java/lang/StringUTF16" ∈ am_ws := am_t 19 (by decide +kernel) (by decide +kernel)
theorem am_in_java_lang_System : Cond.initialized "java/lang/System" ∈ am_ws := am_t 20 (by decide +kernel) (by decide +kernel)
theorem am_in_java_lang_Throwable : Cond.initialized "java/lang/Throwable" ∈ am_ws := am_t 21 (by decide +kernel) (by decide +kernel)
theorem am_in_java_lang_Exception : Cond.initialized "java/lang/Exception" ∈ am_ws := am_t 22 (by decide +kernel) (by decide +kernel)
theorem am_in_java_lang_RuntimeException : Cond.initialized "java/lang/RuntimeException" ∈ am_ws := am_t 23 (by decide +kernel) (by decide +kernel)
theorem am_in_java_util_NoSuchElementException : Cond.initialized "java/util/NoSuchElementException" ∈ am_ws := am_t 24 (by decide +kernel) (by decide +kernel)
theorem am_Best_fill_w : am_cv am_Best_fill 5 := ⟨am_t 1054 (by decide +kernel) (by decide +kernel), am_in_NightHelp_Best, am_t 1052 (by decide +kernel) (by decide +kernel), am_t 1053 (by decide +kernel) (by decide +kernel), ⟨by decide, by decide, by decide +kernel⟩, by decide⟩
theorem am_Best_fillFree_w : am_cv am_Best_fillFree 3 := ⟨am_t 1068 (by decide +kernel) (by decide +kernel), am_in_NightHelp_Best, am_t 1067 (by decide +kernel) (by decide +kernel), am_v 27 (by decide +kernel) (by decide +kernel), ⟨by decide, by decide, by decide +kernel⟩, by decide⟩
theorem am_Best_fillBound_w : am_cv am_Best_fillBound 3 := ⟨am_t 1084 (by decide +kernel) (by decide +kernel), am_in_NightHelp_Best, am_t 1083 (by decide +kernel) (by decide +kernel), am_v 29 (by decide +kernel) (by decide +kernel), ⟨by decide, by decide, by decide +kernel⟩, by decide⟩
theorem am_Best_put_w : am_cv am_Best_put 4 := ⟨am_t 1080 (by decide +kernel) (by decide +kernel), am_in_NightHelp_Best, am_t 1079 (by decide +kernel) (by decide +kernel), am_v 28 (by decide +kernel) (by decide +kernel), ⟨by decide, by decide, by decide +kernel⟩, by decide⟩
theorem am_Best_isInside_w : am_cs_ am_Best_isInside 2 := ⟨am_t 1075 (by decide +kernel) (by decide +kernel), am_in_NightHelp_Best, am_t 1074 (by decide +kernel) (by decide +kernel), ⟨by decide, by decide, by decide +kernel⟩, by decide⟩
theorem am_Best_valueAt_w : am_cv am_Best_valueAt 2 := ⟨am_t 1072 (by decide +kernel) (by decide +kernel), am_in_NightHelp_Best, am_t 1070 (by decide +kernel) (by decide +kernel), am_t 1071 (by decide +kernel) (by decide +kernel), ⟨by decide, by decide, by decide +kernel⟩, by decide⟩
theorem am_Best_actAt_w : am_cv am_Best_actAt 2 := ⟨am_t 1091 (by decide +kernel) (by decide +kernel), am_in_NightHelp_Best, am_t 1089 (by decide +kernel) (by decide +kernel), am_t 1090 (by decide +kernel) (by decide +kernel), ⟨by decide, by decide, by decide +kernel⟩, by decide⟩
theorem am_Best_freePlan_w : am_cv am_Best_freePlan 0 := ⟨am_t 1126 (by decide +kernel) (by decide +kernel), am_in_NightHelp_Best, am_t 1124 (by decide +kernel) (by decide +kernel), am_t 1125 (by decide +kernel) (by decide +kernel), ⟨by decide, by decide, by decide +kernel⟩, by decide⟩
theorem am_Bonds_begin_w : am_cv am_Bonds_begin 0 := ⟨am_t 174 (by decide +kernel) (by decide +kernel), am_in_NightHelp_Bonds, am_t 172 (by decide +kernel) (by decide +kernel), am_t 173 (by decide +kernel) (by decide +kernel), ⟨by decide, by decide, by decide +kernel⟩, by decide⟩
theorem am_Bonds_copyFrom_w : am_cv am_Bonds_copyFrom 1 := ⟨am_t 900 (by decide +kernel) (by decide +kernel), am_in_NightHelp_Bonds, am_t 898 (by decide +kernel) (by decide +kernel), am_t 899 (by decide +kernel) (by decide +kernel), ⟨by decide, by decide, by decide +kernel⟩, by decide⟩
theorem am_Bonds_isBond_w : am_cs_ am_Bonds_isBond 2 := ⟨am_t 850 (by decide +kernel) (by decide +kernel), am_in_NightHelp_Bonds, am_t 849 (by decide +kernel) (by decide +kernel), ⟨by decide, by decide, by decide +kernel⟩, by decide⟩
theorem am_Bonds_lastYear_w : am_cv am_Bonds_lastYear 2 := ⟨am_t 870 (by decide +kernel) (by decide +kernel), am_in_NightHelp_Bonds, am_t 868 (by decide +kernel) (by decide +kernel), am_t 869 (by decide +kernel) (by decide +kernel), ⟨by decide, by decide, by decide +kernel⟩, by decide⟩
theorem am_Bonds_isDue_w : am_cv am_Bonds_isDue 3 := ⟨am_t 886 (by decide +kernel) (by decide +kernel), am_in_NightHelp_Bonds, am_t 884 (by decide +kernel) (by decide +kernel), am_t 885 (by decide +kernel) (by decide +kernel), ⟨by decide, by decide, by decide +kernel⟩, by decide⟩
theorem am_Bonds_standing_w : am_cv am_Bonds_standing 2 := ⟨am_t 858 (by decide +kernel) (by decide +kernel), am_in_NightHelp_Bonds, am_t 856 (by decide +kernel) (by decide +kernel), am_t 857 (by decide +kernel) (by decide +kernel), ⟨by decide, by decide, by decide +kernel⟩, by decide⟩
theorem am_Bonds_isAbove_w : am_cv am_Bonds_isAbove 4 := ⟨am_t 847 (by decide +kernel) (by decide +kernel), am_in_NightHelp_Bonds, am_t 845 (by decide +kernel) (by decide +kernel), am_t 846 (by decide +kernel) (by decide +kernel), ⟨by decide, by decide, by decide +kernel⟩, by decide⟩
theorem am_Bonds_bind_w : am_cv am_Bonds_bind 4 := ⟨am_t 862 (by decide +kernel) (by decide +kernel), am_in_NightHelp_Bonds, am_t 860 (by decide +kernel) (by decide +kernel), am_t 861 (by decide +kernel) (by decide +kernel), ⟨by decide, by decide, by decide +kernel⟩, by decide⟩
theorem am_Bonds_drop_w : am_cv am_Bonds_drop 2 := ⟨am_t 874 (by decide +kernel) (by decide +kernel), am_in_NightHelp_Bonds, am_t 872 (by decide +kernel) (by decide +kernel), am_t 873 (by decide +kernel) (by decide +kernel), ⟨by decide, by decide, by decide +kernel⟩, by decide⟩
theorem am_Book_begin_w : am_cv am_Book_begin 0 := ⟨am_t 191 (by decide +kernel) (by decide +kernel), am_in_NightHelp_Book, am_t 189 (by decide +kernel) (by decide +kernel), am_t 190 (by decide +kernel) (by decide +kernel), ⟨by decide, by decide, by decide +kernel⟩, by decide⟩
theorem am_Book_copyFrom_w : am_cv am_Book_copyFrom 1 := ⟨am_t 895 (by decide +kernel) (by decide +kernel), am_in_NightHelp_Book, am_t 893 (by decide +kernel) (by decide +kernel), am_t 894 (by decide +kernel) (by decide +kernel), ⟨by decide, by decide, by decide +kernel⟩, by decide⟩
theorem am_Book_addLine_w : am_cv am_Book_addLine 1 := ⟨am_t 890 (by decide +kernel) (by decide +kernel), am_in_NightHelp_Book, am_t 888 (by decide +kernel) (by decide +kernel), am_t 889 (by decide +kernel) (by decide +kernel), ⟨by decide, by decide, by decide +kernel⟩, by decide⟩
theorem am_Book_beginYear_w : am_cv am_Book_beginYear 2 := ⟨am_t 878 (by decide +kernel) (by decide +kernel), am_in_NightHelp_Book, am_t 876 (by decide +kernel) (by decide +kernel), am_t 877 (by decide +kernel) (by decide +kernel), ⟨by decide, by decide, by decide +kernel⟩, by decide⟩
theorem am_Book_endYear_w : am_cv am_Book_endYear 2 := ⟨am_t 882 (by decide +kernel) (by decide +kernel), am_in_NightHelp_Book, am_t 880 (by decide +kernel) (by decide +kernel), am_t 881 (by decide +kernel) (by decide +kernel), ⟨by decide, by decide, by decide +kernel⟩, by decide⟩
theorem am_Book_tellHelp_w : am_cv am_Book_tellHelp 5 := ⟨am_t 836 (by decide +kernel) (by decide +kernel), am_in_NightHelp_Book, am_t 834 (by decide +kernel) (by decide +kernel), am_t 835 (by decide +kernel) (by decide +kernel), ⟨by decide, by decide, by decide +kernel⟩, by decide⟩
theorem am_Book_tellThanks_w : am_cv am_Book_tellThanks 4 := ⟨am_t 843 (by decide +kernel) (by decide +kernel), am_in_NightHelp_Book, am_t 841 (by decide +kernel) (by decide +kernel), am_t 842 (by decide +kernel) (by decide +kernel), ⟨by decide, by decide, by decide +kernel⟩, by decide⟩
theorem am_Book_tellLeaving_w : am_cv am_Book_tellLeaving 4 := ⟨am_t 866 (by decide +kernel) (by decide +kernel), am_in_NightHelp_Book, am_t 864 (by decide +kernel) (by decide +kernel), am_t 865 (by decide +kernel) (by decide +kernel), ⟨by decide, by decide, by decide +kernel⟩, by decide⟩
theorem am_Book_yearsBehind_w : am_cv am_Book_yearsBehind 2 := ⟨am_t 1034 (by decide +kernel) (by decide +kernel), am_in_NightHelp_Book, am_t 1032 (by decide +kernel) (by decide +kernel), am_t 1033 (by decide +kernel) (by decide +kernel), ⟨by decide, by decide, by decide +kernel⟩, by decide⟩
theorem am_Book_felt_w : am_cv am_Book_felt 2 := ⟨am_t 923 (by decide +kernel) (by decide +kernel), am_in_NightHelp_Book, am_t 921 (by decide +kernel) (by decide +kernel), am_t 922 (by decide +kernel) (by decide +kernel), ⟨by decide, by decide, by decide +kernel⟩, by decide⟩
theorem am_Book_figure_w : am_cv am_Book_figure 3 := ⟨am_t 918 (by decide +kernel) (by decide +kernel), am_in_NightHelp_Book, am_t 916 (by decide +kernel) (by decide +kernel), am_t 917 (by decide +kernel) (by decide +kernel), ⟨by decide, by decide, by decide +kernel⟩, by decide⟩
theorem am_BookText_readAll_w : am_cv am_BookText_readAll 3 := ⟨am_t 808 (by decide +kernel) (by decide +kernel), am_in_NightHelp_BookText, am_t 806 (by decide +kernel) (by decide +kernel), am_t 807 (by decide +kernel) (by decide +kernel), ⟨by decide, by decide, by decide +kernel⟩, by decide⟩
theorem am_BookText_readLine_w : am_cv am_BookText_readLine 1 := ⟨am_t 814 (by decide +kernel) (by decide +kernel), am_in_NightHelp_BookText, am_t 813 (by decide +kernel) (by decide +kernel), am_v 14 (by decide +kernel) (by decide +kernel), ⟨by decide, by decide, by decide +kernel⟩, by decide⟩
theorem am_BookText_readYear_w : am_cv am_BookText_readYear 0 := ⟨am_t 821 (by decide +kernel) (by decide +kernel), am_in_NightHelp_BookText, am_t 820 (by decide +kernel) (by decide +kernel), am_v 15 (by decide +kernel) (by decide +kernel), ⟨by decide, by decide, by decide +kernel⟩, by decide⟩
theorem am_BookText_readDeed_w : am_cv am_BookText_readDeed 1 := ⟨am_t 826 (by decide +kernel) (by decide +kernel), am_in_NightHelp_BookText, am_t 825 (by decide +kernel) (by decide +kernel), am_v 16 (by decide +kernel) (by decide +kernel), ⟨by decide, by decide, by decide +kernel⟩, by decide⟩
theorem am_BookText_judgeLine_w : am_cv am_BookText_judgeLine 1 := ⟨am_t 832 (by decide +kernel) (by decide +kernel), am_in_NightHelp_BookText, am_t 831 (by decide +kernel) (by decide +kernel), am_v 17 (by decide +kernel) (by decide +kernel), ⟨by decide, by decide, by decide +kernel⟩, by decide⟩
theorem am_Left_solve_w : am_cv am_Left_solve 2 := ⟨am_t 1195 (by decide +kernel) (by decide +kernel), am_in_NightHelp_Left, am_t 1193 (by decide +kernel) (by decide +kernel), am_t 1194 (by decide +kernel) (by decide +kernel), ⟨by decide, by decide, by decide +kernel⟩, by decide⟩
theorem am_Left_settle_w : am_cv am_Left_settle 1 := ⟨am_t 1213 (by decide +kernel) (by decide +kernel), am_in_NightHelp_Left, am_t 1212 (by decide +kernel) (by decide +kernel), am_v 44 (by decide +kernel) (by decide +kernel), ⟨by decide, by decide, by decide +kernel⟩, by decide⟩
theorem am_Left_force_w : am_cv am_Left_force 2 := ⟨am_t 1217 (by decide +kernel) (by decide +kernel), am_in_NightHelp_Left, am_t 1216 (by decide +kernel) (by decide +kernel), am_v 45 (by decide +kernel) (by decide +kernel), ⟨by decide, by decide, by decide +kernel⟩, by decide⟩
theorem am_Left_take_w : am_cv am_Left_take 1 := ⟨am_t 1222 (by decide +kernel) (by decide +kernel), am_in_NightHelp_Left, am_t 1221 (by decide +kernel) (by decide +kernel), am_v 46 (by decide +kernel) (by decide +kernel), ⟨by decide, by decide, by decide +kernel⟩, by decide⟩
theorem am_Left_give_w : am_cv am_Left_give 2 := ⟨am_t 1230 (by decide +kernel) (by decide +kernel), am_in_NightHelp_Left, am_t 1229 (by decide +kernel) (by decide +kernel), am_v 48 (by decide +kernel) (by decide +kernel), ⟨by decide, by decide, by decide +kernel⟩, by decide⟩
theorem am_Left_displaceOne_w : am_cv am_Left_displaceOne 2 := ⟨am_t 1226 (by decide +kernel) (by decide +kernel), am_in_NightHelp_Left, am_t 1225 (by decide +kernel) (by decide +kernel), am_v 47 (by decide +kernel) (by decide +kernel), ⟨by decide, by decide, by decide +kernel⟩, by decide⟩
theorem am_Left_improveAny_w : am_cv am_Left_improveAny 1 := ⟨am_t 1234 (by decide +kernel) (by decide +kernel), am_in_NightHelp_Left, am_t 1233 (by decide +kernel) (by decide +kernel), am_v 49 (by decide +kernel) (by decide +kernel), ⟨by decide, by decide, by decide +kernel⟩, by decide⟩
theorem am_Left_improve_w : am_cv am_Left_improve 2 := ⟨am_t 1201 (by decide +kernel) (by decide +kernel), am_in_NightHelp_Left, am_t 1200 (by decide +kernel) (by decide +kernel), am_v 41 (by decide +kernel) (by decide +kernel), ⟨by decide, by decide, by decide +kernel⟩, by decide⟩
theorem am_Left_reach_w : am_cv am_Left_reach 1 := ⟨am_t 1205 (by decide +kernel) (by decide +kernel), am_in_NightHelp_Left, am_t 1204 (by decide +kernel) (by decide +kernel), am_v 42 (by decide +kernel) (by decide +kernel), ⟨by decide, by decide, by decide +kernel⟩, by decide⟩
theorem am_Left_shift_w : am_cv am_Left_shift 1 := ⟨am_t 1209 (by decide +kernel) (by decide +kernel), am_in_NightHelp_Left, am_t 1208 (by decide +kernel) (by decide +kernel), am_v 43 (by decide +kernel) (by decide +kernel), ⟨by decide, by decide, by decide +kernel⟩, by decide⟩
theorem am_Run_figure_w : am_cv am_Run_figure 1 := ⟨am_t 1179 (by decide +kernel) (by decide +kernel), am_in_NightHelp_Run, am_t 1177 (by decide +kernel) (by decide +kernel), am_t 1178 (by decide +kernel) (by decide +kernel), ⟨by decide, by decide, by decide +kernel⟩, by decide⟩
theorem am_Run_go_w : am_cv am_Run_go 3 := ⟨am_t 1107 (by decide +kernel) (by decide +kernel), am_in_NightHelp_Run, am_t 1105 (by decide +kernel) (by decide +kernel), am_t 1106 (by decide +kernel) (by decide +kernel), ⟨by decide, by decide, by decide +kernel⟩, by decide⟩
theorem am_Run_makePlans_w : am_cv am_Run_makePlans 1 := ⟨am_t 1116 (by decide +kernel) (by decide +kernel), am_in_NightHelp_Run, am_t 1115 (by decide +kernel) (by decide +kernel), am_v 30 (by decide +kernel) (by decide +kernel), ⟨by decide, by decide, by decide +kernel⟩, by decide⟩
theorem am_Run_makePlan_w : am_cv am_Run_makePlan 3 := ⟨am_t 1121 (by decide +kernel) (by decide +kernel), am_in_NightHelp_Run, am_t 1120 (by decide +kernel) (by decide +kernel), am_v 31 (by decide +kernel) (by decide +kernel), ⟨by decide, by decide, by decide +kernel⟩, by decide⟩
theorem am_Run_planned_w : am_cs_ am_Run_planned 2 := ⟨am_t 1144 (by decide +kernel) (by decide +kernel), am_in_NightHelp_Run, am_t 1143 (by decide +kernel) (by decide +kernel), ⟨by decide, by decide, by decide +kernel⟩, by decide⟩
theorem am_Run_meet_w : am_cv am_Run_meet 3 := ⟨am_t 1131 (by decide +kernel) (by decide +kernel), am_in_NightHelp_Run, am_t 1130 (by decide +kernel) (by decide +kernel), am_v 32 (by decide +kernel) (by decide +kernel), ⟨by decide, by decide, by decide +kernel⟩, by decide⟩
theorem am_Run_freeAct_w : am_cv am_Run_freeAct 3 := ⟨am_t 1141 (by decide +kernel) (by decide +kernel), am_in_NightHelp_Run, am_t 1140 (by decide +kernel) (by decide +kernel), am_v 34 (by decide +kernel) (by decide +kernel), ⟨by decide, by decide, by decide +kernel⟩, by decide⟩
theorem am_Run_partnerOf_w : am_cv am_Run_partnerOf 2 := ⟨am_t 1148 (by decide +kernel) (by decide +kernel), am_in_NightHelp_Run, am_t 1147 (by decide +kernel) (by decide +kernel), am_v 35 (by decide +kernel) (by decide +kernel), ⟨by decide, by decide, by decide +kernel⟩, by decide⟩
theorem am_Run_helpByDay_w : am_cv am_Run_helpByDay 2 := ⟨am_t 1136 (by decide +kernel) (by decide +kernel), am_in_NightHelp_Run, am_t 1135 (by decide +kernel) (by decide +kernel), am_v 33 (by decide +kernel) (by decide +kernel), ⟨by decide, by decide, by decide +kernel⟩, by decide⟩
theorem am_Run_helpByNight_w : am_cv am_Run_helpByNight 4 := ⟨am_t 1162 (by decide +kernel) (by decide +kernel), am_in_NightHelp_Run, am_t 1161 (by decide +kernel) (by decide +kernel), am_v 38 (by decide +kernel) (by decide +kernel), ⟨by decide, by decide, by decide +kernel⟩, by decide⟩
theorem am_Run_halfUp_w : am_cs_ am_Run_halfUp 1 := ⟨am_t 1175 (by decide +kernel) (by decide +kernel), am_in_NightHelp_Run, am_t 1174 (by decide +kernel) (by decide +kernel), ⟨by decide, by decide, by decide +kernel⟩, by decide⟩
theorem am_Run_isFound_w : am_cv am_Run_isFound 1 := ⟨am_t 1166 (by decide +kernel) (by decide +kernel), am_in_NightHelp_Run, am_t 1165 (by decide +kernel) (by decide +kernel), am_v 39 (by decide +kernel) (by decide +kernel), ⟨by decide, by decide, by decide +kernel⟩, by decide⟩
theorem am_Run_draw_w : am_cv am_Run_draw 1 := ⟨am_t 1171 (by decide +kernel) (by decide +kernel), am_in_NightHelp_Run, am_t 1170 (by decide +kernel) (by decide +kernel), am_v 40 (by decide +kernel) (by decide +kernel), ⟨by decide, by decide, by decide +kernel⟩, by decide⟩
theorem am_Run_thank_w : am_cv am_Run_thank 5 := ⟨am_t 1152 (by decide +kernel) (by decide +kernel), am_in_NightHelp_Run, am_t 1151 (by decide +kernel) (by decide +kernel), am_v 36 (by decide +kernel) (by decide +kernel), ⟨by decide, by decide, by decide +kernel⟩, by decide⟩
theorem am_Run_firstOther_w : am_cv am_Run_firstOther 2 := ⟨am_t 1156 (by decide +kernel) (by decide +kernel), am_in_NightHelp_Run, am_t 1155 (by decide +kernel) (by decide +kernel), am_v 37 (by decide +kernel) (by decide +kernel), ⟨by decide, by decide, by decide +kernel⟩, by decide⟩
theorem am_SentenceText_readAll_w : am_cv am_SentenceText_readAll 4 := ⟨am_t 909 (by decide +kernel) (by decide +kernel), am_in_NightHelp_SentenceText, am_t 907 (by decide +kernel) (by decide +kernel), am_t 908 (by decide +kernel) (by decide +kernel), ⟨by decide, by decide, by decide +kernel⟩, by decide⟩
theorem am_SentenceText_look_w : am_cv am_SentenceText_look 2 := ⟨am_t 914 (by decide +kernel) (by decide +kernel), am_in_NightHelp_SentenceText, am_t 913 (by decide +kernel) (by decide +kernel), am_v 18 (by decide +kernel) (by decide +kernel), ⟨by decide, by decide, by decide +kernel⟩, by decide⟩
theorem am_SentenceText_readCond_w : am_cv am_SentenceText_readCond 1 := ⟨am_t 933 (by decide +kernel) (by decide +kernel), am_in_NightHelp_SentenceText, am_t 932 (by decide +kernel) (by decide +kernel), am_v 19 (by decide +kernel) (by decide +kernel), ⟨by decide, by decide, by decide +kernel⟩, by decide⟩
theorem am_SentenceText_readAnds_w : am_cv am_SentenceText_readAnds 1 := ⟨am_t 937 (by decide +kernel) (by decide +kernel), am_in_NightHelp_SentenceText, am_t 936 (by decide +kernel) (by decide +kernel), am_v 20 (by decide +kernel) (by decide +kernel), ⟨by decide, by decide, by decide +kernel⟩, by decide⟩
theorem am_SentenceText_goesOn_w : am_cv am_SentenceText_goesOn 1 := ⟨am_t 964 (by decide +kernel) (by decide +kernel), am_in_NightHelp_SentenceText, am_t 963 (by decide +kernel) (by decide +kernel), am_v 25 (by decide +kernel) (by decide +kernel), ⟨by decide, by decide, by decide +kernel⟩, by decide⟩
theorem am_SentenceText_readOne_w : am_cv am_SentenceText_readOne 1 := ⟨am_t 941 (by decide +kernel) (by decide +kernel), am_in_NightHelp_SentenceText, am_t 940 (by decide +kernel) (by decide +kernel), am_v 21 (by decide +kernel) (by decide +kernel), ⟨by decide, by decide, by decide +kernel⟩, by decide⟩
theorem am_SentenceText_readNot_w : am_cv am_SentenceText_readNot 1 := ⟨am_t 947 (by decide +kernel) (by decide +kernel), am_in_NightHelp_SentenceText, am_t 946 (by decide +kernel) (by decide +kernel), am_v 22 (by decide +kernel) (by decide +kernel), ⟨by decide, by decide, by decide +kernel⟩, by decide⟩
theorem am_SentenceText_readBracket_w : am_cv am_SentenceText_readBracket 1 := ⟨am_t 951 (by decide +kernel) (by decide +kernel), am_in_NightHelp_SentenceText, am_t 950 (by decide +kernel) (by decide +kernel), am_v 23 (by decide +kernel) (by decide +kernel), ⟨by decide, by decide, by decide +kernel⟩, by decide⟩
theorem am_SentenceText_readFigure_w : am_cv am_SentenceText_readFigure 1 := ⟨am_t 956 (by decide +kernel) (by decide +kernel), am_in_NightHelp_SentenceText, am_t 955 (by decide +kernel) (by decide +kernel), am_v 24 (by decide +kernel) (by decide +kernel), ⟨by decide, by decide, by decide +kernel⟩, by decide⟩
theorem am_SentenceText_compare_w : am_cs_ am_SentenceText_compare 3 := ⟨am_t 960 (by decide +kernel) (by decide +kernel), am_in_NightHelp_SentenceText, am_t 959 (by decide +kernel) (by decide +kernel), ⟨by decide, by decide, by decide +kernel⟩, by decide⟩
theorem am_State_beginVillage_w : am_cv am_State_beginVillage 1 := ⟨am_t 787 (by decide +kernel) (by decide +kernel), am_in_NightHelp_State, am_t 785 (by decide +kernel) (by decide +kernel), am_t 786 (by decide +kernel) (by decide +kernel), ⟨by decide, by decide, by decide +kernel⟩, by decide⟩
theorem am_State_keepSentence_w : am_cv am_State_keepSentence 2 := ⟨am_t 968 (by decide +kernel) (by decide +kernel), am_in_NightHelp_State, am_t 966 (by decide +kernel) (by decide +kernel), am_t 967 (by decide +kernel) (by decide +kernel), ⟨by decide, by decide, by decide +kernel⟩, by decide⟩
theorem am_State_copyFrom_w : am_cv am_State_copyFrom 1 := ⟨am_t 1263 (by decide +kernel) (by decide +kernel), am_in_NightHelp_State, am_t 1261 (by decide +kernel) (by decide +kernel), am_t 1262 (by decide +kernel) (by decide +kernel), ⟨by decide, by decide, by decide +kernel⟩, by decide⟩
theorem am_Tokens_open_w : am_cv am_Tokens_open 3 := ⟨am_t 609 (by decide +kernel) (by decide +kernel), am_in_NightHelp_Tokens, am_t 607 (by decide +kernel) (by decide +kernel), am_t 608 (by decide +kernel) (by decide +kernel), ⟨by decide, by decide, by decide +kernel⟩, by decide⟩
theorem am_Tokens_readWordOrNumber_w : am_cv am_Tokens_readWordOrNumber 2 := ⟨am_t 625 (by decide +kernel) (by decide +kernel), am_in_NightHelp_Tokens, am_t 624 (by decide +kernel) (by decide +kernel), am_v 2 (by decide +kernel) (by decide +kernel), ⟨by decide, by decide, by decide +kernel⟩, by decide⟩
theorem am_Tokens_add_w : am_cv am_Tokens_add 3 := ⟨am_t 681 (by decide +kernel) (by decide +kernel), am_in_NightHelp_Tokens, am_t 680 (by decide +kernel) (by decide +kernel), am_v 3 (by decide +kernel) (by decide +kernel), ⟨by decide, by decide, by decide +kernel⟩, by decide⟩
theorem am_Tokens_advance_w : am_cv am_Tokens_advance 0 := ⟨am_t 691 (by decide +kernel) (by decide +kernel), am_in_NightHelp_Tokens, am_t 689 (by decide +kernel) (by decide +kernel), am_t 690 (by decide +kernel) (by decide +kernel), ⟨by decide, by decide, by decide +kernel⟩, by decide⟩
theorem am_Tokens_wordKind_w : am_cs_ am_Tokens_wordKind 1 := ⟨am_t 628 (by decide +kernel) (by decide +kernel), am_in_NightHelp_Tokens, am_t 627 (by decide +kernel) (by decide +kernel), ⟨by decide, by decide, by decide +kernel⟩, by decide⟩
theorem am_Tokens_signKind_w : am_cs_ am_Tokens_signKind 1 := ⟨am_t 687 (by decide +kernel) (by decide +kernel), am_in_NightHelp_Tokens, am_t 686 (by decide +kernel) (by decide +kernel), ⟨by decide, by decide, by decide +kernel⟩, by decide⟩
theorem am_Tokens_isBlank_w : am_cs_ am_Tokens_isBlank 1 := ⟨am_t 684 (by decide +kernel) (by decide +kernel), am_in_NightHelp_Tokens, am_t 683 (by decide +kernel) (by decide +kernel), ⟨by decide, by decide, by decide +kernel⟩, by decide⟩
theorem am_Tokens_isSmall_w : am_cs_ am_Tokens_isSmall 1 := ⟨am_t 618 (by decide +kernel) (by decide +kernel), am_in_NightHelp_Tokens, am_t 617 (by decide +kernel) (by decide +kernel), ⟨by decide, by decide, by decide +kernel⟩, by decide⟩
theorem am_Tokens_isDigit_w : am_cs_ am_Tokens_isDigit 1 := ⟨am_t 621 (by decide +kernel) (by decide +kernel), am_in_NightHelp_Tokens, am_t 620 (by decide +kernel) (by decide +kernel), ⟨by decide, by decide, by decide +kernel⟩, by decide⟩
theorem am_Tokens_fail_w : am_cv am_Tokens_fail 1 := ⟨am_t 704 (by decide +kernel) (by decide +kernel), am_in_NightHelp_Tokens, am_t 702 (by decide +kernel) (by decide +kernel), am_t 703 (by decide +kernel) (by decide +kernel), ⟨by decide, by decide, by decide +kernel⟩, by decide⟩
theorem am_Tokens_take_w : am_cv am_Tokens_take 1 := ⟨am_t 783 (by decide +kernel) (by decide +kernel), am_in_NightHelp_Tokens, am_t 781 (by decide +kernel) (by decide +kernel), am_t 782 (by decide +kernel) (by decide +kernel), ⟨by decide, by decide, by decide +kernel⟩, by decide⟩
theorem am_Tokens_takeNumber_w : am_cv am_Tokens_takeNumber 2 := ⟨am_t 724 (by decide +kernel) (by decide +kernel), am_in_NightHelp_Tokens, am_t 722 (by decide +kernel) (by decide +kernel), am_t 723 (by decide +kernel) (by decide +kernel), ⟨by decide, by decide, by decide +kernel⟩, by decide⟩
theorem am_Village_begin_w : am_cv am_Village_begin 0 := ⟨am_t 48 (by decide +kernel) (by decide +kernel), am_in_NightHelp_Village, am_t 46 (by decide +kernel) (by decide +kernel), am_t 47 (by decide +kernel) (by decide +kernel), ⟨by decide, by decide, by decide +kernel⟩, by decide⟩
theorem am_Village_copyFrom_w : am_cv am_Village_copyFrom 1 := ⟨am_t 791 (by decide +kernel) (by decide +kernel), am_in_NightHelp_Village, am_t 789 (by decide +kernel) (by decide +kernel), am_t 790 (by decide +kernel) (by decide +kernel), ⟨by decide, by decide, by decide +kernel⟩, by decide⟩
theorem am_Village_hasHelp_w : am_cv am_Village_hasHelp 1 := ⟨am_t 1029 (by decide +kernel) (by decide +kernel), am_in_NightHelp_Village, am_t 1027 (by decide +kernel) (by decide +kernel), am_t 1028 (by decide +kernel) (by decide +kernel), ⟨by decide, by decide, by decide +kernel⟩, by decide⟩
theorem am_Village_hasPerson_w : am_cv am_Village_hasPerson 1 := ⟨am_t 854 (by decide +kernel) (by decide +kernel), am_in_NightHelp_Village, am_t 852 (by decide +kernel) (by decide +kernel), am_t 853 (by decide +kernel) (by decide +kernel), ⟨by decide, by decide, by decide +kernel⟩, by decide⟩
theorem am_Village_hasNeed_w : am_cv am_Village_hasNeed 1 := ⟨am_t 981 (by decide +kernel) (by decide +kernel), am_in_NightHelp_Village, am_t 979 (by decide +kernel) (by decide +kernel), am_t 980 (by decide +kernel) (by decide +kernel), ⟨by decide, by decide, by decide +kernel⟩, by decide⟩
theorem am_Village_helpNamed_w : am_cv am_Village_helpNamed 1 := ⟨am_t 713 (by decide +kernel) (by decide +kernel), am_in_NightHelp_Village, am_t 711 (by decide +kernel) (by decide +kernel), am_t 712 (by decide +kernel) (by decide +kernel), ⟨by decide, by decide, by decide +kernel⟩, by decide⟩
theorem am_Village_personNamed_w : am_cv am_Village_personNamed 1 := ⟨am_t 720 (by decide +kernel) (by decide +kernel), am_in_NightHelp_Village, am_t 718 (by decide +kernel) (by decide +kernel), am_t 719 (by decide +kernel) (by decide +kernel), ⟨by decide, by decide, by decide +kernel⟩, by decide⟩
theorem am_Village_indexOf_w : am_cs_ am_Village_indexOf 3 := ⟨am_t 716 (by decide +kernel) (by decide +kernel), am_in_NightHelp_Village, am_t 715 (by decide +kernel) (by decide +kernel), ⟨by decide, by decide, by decide +kernel⟩, by decide⟩
theorem am_Village_helpAt_w : am_cv am_Village_helpAt 1 := ⟨am_t 737 (by decide +kernel) (by decide +kernel), am_in_NightHelp_Village, am_t 735 (by decide +kernel) (by decide +kernel), am_t 736 (by decide +kernel) (by decide +kernel), ⟨by decide, by decide, by decide +kernel⟩, by decide⟩
theorem am_Village_personAt_w : am_cv am_Village_personAt 1 := ⟨am_t 766 (by decide +kernel) (by decide +kernel), am_in_NightHelp_Village, am_t 764 (by decide +kernel) (by decide +kernel), am_t 765 (by decide +kernel) (by decide +kernel), ⟨by decide, by decide, by decide +kernel⟩, by decide⟩
theorem am_Village_numberAt_w : am_cs_ am_Village_numberAt 2 := ⟨am_t 741 (by decide +kernel) (by decide +kernel), am_in_NightHelp_Village, am_t 740 (by decide +kernel) (by decide +kernel), ⟨by decide, by decide, by decide +kernel⟩, by decide⟩
theorem am_Village_painsOf_w : am_cv am_Village_painsOf 2 := ⟨am_t 750 (by decide +kernel) (by decide +kernel), am_in_NightHelp_Village, am_t 748 (by decide +kernel) (by decide +kernel), am_t 749 (by decide +kernel) (by decide +kernel), ⟨by decide, by decide, by decide +kernel⟩, by decide⟩
theorem am_Village_can_w : am_cv am_Village_can 2 := ⟨am_t 746 (by decide +kernel) (by decide +kernel), am_in_NightHelp_Village, am_t 744 (by decide +kernel) (by decide +kernel), am_t 745 (by decide +kernel) (by decide +kernel), ⟨by decide, by decide, by decide +kernel⟩, by decide⟩
theorem am_Village_canMeet_w : am_cv am_Village_canMeet 2 := ⟨am_t 1047 (by decide +kernel) (by decide +kernel), am_in_NightHelp_Village, am_t 1045 (by decide +kernel) (by decide +kernel), am_t 1046 (by decide +kernel) (by decide +kernel), ⟨by decide, by decide, by decide +kernel⟩, by decide⟩
theorem am_Village_friendship_w : am_cv am_Village_friendship 2 := ⟨am_t 927 (by decide +kernel) (by decide +kernel), am_in_NightHelp_Village, am_t 925 (by decide +kernel) (by decide +kernel), am_t 926 (by decide +kernel) (by decide +kernel), ⟨by decide, by decide, by decide +kernel⟩, by decide⟩
theorem am_Village_sight_w : am_cv am_Village_sight 2 := ⟨am_t 991 (by decide +kernel) (by decide +kernel), am_in_NightHelp_Village, am_t 989 (by decide +kernel) (by decide +kernel), am_t 990 (by decide +kernel) (by decide +kernel), ⟨by decide, by decide, by decide +kernel⟩, by decide⟩
theorem am_Village_needOf_w : am_cv am_Village_needOf 2 := ⟨am_t 758 (by decide +kernel) (by decide +kernel), am_in_NightHelp_Village, am_t 756 (by decide +kernel) (by decide +kernel), am_t 757 (by decide +kernel) (by decide +kernel), ⟨by decide, by decide, by decide +kernel⟩, by decide⟩
theorem am_Village_canBits_w : am_cv am_Village_canBits 1 := ⟨am_t 1349 (by decide +kernel) (by decide +kernel), am_in_NightHelp_Village, am_t 1347 (by decide +kernel) (by decide +kernel), am_t 1348 (by decide +kernel) (by decide +kernel), ⟨by decide, by decide, by decide +kernel⟩, by decide⟩
theorem am_Village_needBits_w : am_cv am_Village_needBits 1 := ⟨am_t 1354 (by decide +kernel) (by decide +kernel), am_in_NightHelp_Village, am_t 1352 (by decide +kernel) (by decide +kernel), am_t 1353 (by decide +kernel) (by decide +kernel), ⟨by decide, by decide, by decide +kernel⟩, by decide⟩
theorem am_Village_foundParts_w : am_cv am_Village_foundParts 1 := ⟨am_t 999 (by decide +kernel) (by decide +kernel), am_in_NightHelp_Village, am_t 997 (by decide +kernel) (by decide +kernel), am_t 998 (by decide +kernel) (by decide +kernel), ⟨by decide, by decide, by decide +kernel⟩, by decide⟩
theorem am_VillageText_readAll_w : am_cv am_VillageText_readAll 2 := ⟨am_t 605 (by decide +kernel) (by decide +kernel), am_in_NightHelp_VillageText, am_t 603 (by decide +kernel) (by decide +kernel), am_t 604 (by decide +kernel) (by decide +kernel), ⟨by decide, by decide, by decide +kernel⟩, by decide⟩
theorem am_VillageText_readLine_w : am_cv am_VillageText_readLine 0 := ⟨am_t 696 (by decide +kernel) (by decide +kernel), am_in_NightHelp_VillageText, am_t 695 (by decide +kernel) (by decide +kernel), am_v 4 (by decide +kernel) (by decide +kernel), ⟨by decide, by decide, by decide +kernel⟩, by decide⟩
theorem am_VillageText_readHelp_w : am_cv am_VillageText_readHelp 0 := ⟨am_t 700 (by decide +kernel) (by decide +kernel), am_in_NightHelp_VillageText, am_t 699 (by decide +kernel) (by decide +kernel), am_v 5 (by decide +kernel) (by decide +kernel), ⟨by decide, by decide, by decide +kernel⟩, by decide⟩
theorem am_VillageText_isNewName_w : am_cv am_VillageText_isNewName 0 := ⟨am_t 709 (by decide +kernel) (by decide +kernel), am_in_NightHelp_VillageText, am_t 708 (by decide +kernel) (by decide +kernel), am_v 6 (by decide +kernel) (by decide +kernel), ⟨by decide, by decide, by decide +kernel⟩, by decide⟩
theorem am_VillageText_readPerson_w : am_cv am_VillageText_readPerson 0 := ⟨am_t 729 (by decide +kernel) (by decide +kernel), am_in_NightHelp_VillageText, am_t 728 (by decide +kernel) (by decide +kernel), am_v 7 (by decide +kernel) (by decide +kernel), ⟨by decide, by decide, by decide +kernel⟩, by decide⟩
theorem am_VillageText_readCan_w : am_cv am_VillageText_readCan 1 := ⟨am_t 733 (by decide +kernel) (by decide +kernel), am_in_NightHelp_VillageText, am_t 732 (by decide +kernel) (by decide +kernel), am_v 8 (by decide +kernel) (by decide +kernel), ⟨by decide, by decide, by decide +kernel⟩, by decide⟩
theorem am_VillageText_readNeed_w : am_cv am_VillageText_readNeed 1 := ⟨am_t 754 (by decide +kernel) (by decide +kernel), am_in_NightHelp_VillageText, am_t 753 (by decide +kernel) (by decide +kernel), am_v 9 (by decide +kernel) (by decide +kernel), ⟨by decide, by decide, by decide +kernel⟩, by decide⟩
theorem am_VillageText_readTie_w : am_cv am_VillageText_readTie 1 := ⟨am_t 762 (by decide +kernel) (by decide +kernel), am_in_NightHelp_VillageText, am_t 761 (by decide +kernel) (by decide +kernel), am_v 10 (by decide +kernel) (by decide +kernel), ⟨by decide, by decide, by decide +kernel⟩, by decide⟩
theorem am_VillageText_readBinds_w : am_cv am_VillageText_readBinds 0 := ⟨am_t 771 (by decide +kernel) (by decide +kernel), am_in_NightHelp_VillageText, am_t 770 (by decide +kernel) (by decide +kernel), am_v 11 (by decide +kernel) (by decide +kernel), ⟨by decide, by decide, by decide +kernel⟩, by decide⟩
theorem am_VillageText_readOut_w : am_cv am_VillageText_readOut 0 := ⟨am_t 775 (by decide +kernel) (by decide +kernel), am_in_NightHelp_VillageText, am_t 774 (by decide +kernel) (by decide +kernel), am_v 12 (by decide +kernel) (by decide +kernel), ⟨by decide, by decide, by decide +kernel⟩, by decide⟩
theorem am_VillageText_readGift_w : am_cv am_VillageText_readGift 0 := ⟨am_t 779 (by decide +kernel) (by decide +kernel), am_in_NightHelp_VillageText, am_t 778 (by decide +kernel) (by decide +kernel), am_v 13 (by decide +kernel) (by decide +kernel), ⟨by decide, by decide, by decide +kernel⟩, by decide⟩
theorem am_Nh_feed_w : am_cv am_Nh_feed 5 := ⟨am_t 585 (by decide +kernel) (by decide +kernel), am_in_NightHelp, am_t 583 (by decide +kernel) (by decide +kernel), am_t 584 (by decide +kernel) (by decide +kernel), ⟨by decide, by decide, by decide +kernel⟩, by decide⟩
theorem am_Nh_putNumber_w : am_cv am_Nh_putNumber 1 := ⟨am_t 589 (by decide +kernel) (by decide +kernel), am_in_NightHelp, am_t 588 (by decide +kernel) (by decide +kernel), am_v 0 (by decide +kernel) (by decide +kernel), ⟨by decide, by decide, by decide +kernel⟩, by decide⟩
theorem am_Nh_end_w : am_cv am_Nh_end 1 := ⟨am_t 593 (by decide +kernel) (by decide +kernel), am_in_NightHelp, am_t 591 (by decide +kernel) (by decide +kernel), am_t 592 (by decide +kernel) (by decide +kernel), ⟨by decide, by decide, by decide +kernel⟩, by decide⟩
theorem am_Nh_village_w : am_cv am_Nh_village 0 := ⟨am_t 597 (by decide +kernel) (by decide +kernel), am_in_NightHelp, am_t 595 (by decide +kernel) (by decide +kernel), am_t 596 (by decide +kernel) (by decide +kernel), ⟨by decide, by decide, by decide +kernel⟩, by decide⟩
theorem am_Nh_book_w : am_cv am_Nh_book 0 := ⟨am_t 804 (by decide +kernel) (by decide +kernel), am_in_NightHelp, am_t 802 (by decide +kernel) (by decide +kernel), am_t 803 (by decide +kernel) (by decide +kernel), ⟨by decide, by decide, by decide +kernel⟩, by decide⟩
theorem am_Nh_sentence_w : am_cv am_Nh_sentence 0 := ⟨am_t 905 (by decide +kernel) (by decide +kernel), am_in_NightHelp, am_t 903 (by decide +kernel) (by decide +kernel), am_t 904 (by decide +kernel) (by decide +kernel), ⟨by decide, by decide, by decide +kernel⟩, by decide⟩
theorem am_Nh_takeTape_w : am_cv am_Nh_takeTape 0 := ⟨am_t 601 (by decide +kernel) (by decide +kernel), am_in_NightHelp, am_t 600 (by decide +kernel) (by decide +kernel), am_v 1 (by decide +kernel) (by decide +kernel), ⟨by decide, by decide, by decide +kernel⟩, by decide⟩
theorem am_Nh_fault_w : am_cv am_Nh_fault 0 := ⟨am_t 973 (by decide +kernel) (by decide +kernel), am_in_NightHelp, am_t 971 (by decide +kernel) (by decide +kernel), am_t 972 (by decide +kernel) (by decide +kernel), ⟨by decide, by decide, by decide +kernel⟩, by decide⟩
theorem am_Nh_help_w : am_cv am_Nh_help 2 := ⟨am_t 1277 (by decide +kernel) (by decide +kernel), am_in_NightHelp, am_t 1275 (by decide +kernel) (by decide +kernel), am_t 1276 (by decide +kernel) (by decide +kernel), ⟨by decide, by decide, by decide +kernel⟩, by decide⟩
theorem am_Nh_person_w : am_cv am_Nh_person 2 := ⟨am_t 1345 (by decide +kernel) (by decide +kernel), am_in_NightHelp, am_t 1343 (by decide +kernel) (by decide +kernel), am_t 1344 (by decide +kernel) (by decide +kernel), ⟨by decide, by decide, by decide +kernel⟩, by decide⟩
theorem am_Nh_need_w : am_cv am_Nh_need 2 := ⟨am_t 977 (by decide +kernel) (by decide +kernel), am_in_NightHelp, am_t 975 (by decide +kernel) (by decide +kernel), am_t 976 (by decide +kernel) (by decide +kernel), ⟨by decide, by decide, by decide +kernel⟩, by decide⟩
theorem am_Nh_tie_w : am_cv am_Nh_tie 3 := ⟨am_t 985 (by decide +kernel) (by decide +kernel), am_in_NightHelp, am_t 983 (by decide +kernel) (by decide +kernel), am_t 984 (by decide +kernel) (by decide +kernel), ⟨by decide, by decide, by decide +kernel⟩, by decide⟩
theorem am_Nh_found_w : am_cv am_Nh_found 1 := ⟨am_t 995 (by decide +kernel) (by decide +kernel), am_in_NightHelp, am_t 993 (by decide +kernel) (by decide +kernel), am_t 994 (by decide +kernel) (by decide +kernel), ⟨by decide, by decide, by decide +kernel⟩, by decide⟩
theorem am_Nh_pair_w : am_cv am_Nh_pair 2 := ⟨am_t 1005 (by decide +kernel) (by decide +kernel), am_in_NightHelp, am_t 1003 (by decide +kernel) (by decide +kernel), am_t 1004 (by decide +kernel) (by decide +kernel), ⟨by decide, by decide, by decide +kernel⟩, by decide⟩
theorem am_Nh_count_w : am_cv am_Nh_count 1 := ⟨am_t 1010 (by decide +kernel) (by decide +kernel), am_in_NightHelp, am_t 1008 (by decide +kernel) (by decide +kernel), am_t 1009 (by decide +kernel) (by decide +kernel), ⟨by decide, by decide, by decide +kernel⟩, by decide⟩
theorem am_Nh_wrong_w : am_cv am_Nh_wrong 1 := ⟨am_t 1014 (by decide +kernel) (by decide +kernel), am_in_NightHelp, am_t 1012 (by decide +kernel) (by decide +kernel), am_t 1013 (by decide +kernel) (by decide +kernel), ⟨by decide, by decide, by decide +kernel⟩, by decide⟩
theorem am_Nh_judge_w : am_cv am_Nh_judge 1 := ⟨am_t 1018 (by decide +kernel) (by decide +kernel), am_in_NightHelp, am_t 1016 (by decide +kernel) (by decide +kernel), am_t 1017 (by decide +kernel) (by decide +kernel), ⟨by decide, by decide, by decide +kernel⟩, by decide⟩
theorem am_Nh_sumOf_w : am_cs_ am_Nh_sumOf 1 := ⟨am_t 1021 (by decide +kernel) (by decide +kernel), am_in_NightHelp, am_t 1020 (by decide +kernel) (by decide +kernel), ⟨by decide, by decide, by decide +kernel⟩, by decide⟩
theorem am_Nh_copyRow_w : am_cs_ am_Nh_copyRow 2 := ⟨am_t 794 (by decide +kernel) (by decide +kernel), am_in_NightHelp, am_t 793 (by decide +kernel) (by decide +kernel), ⟨by decide, by decide, by decide +kernel⟩, by decide⟩
theorem am_Nh_came_w : am_cv am_Nh_came 2 := ⟨am_t 1361 (by decide +kernel) (by decide +kernel), am_in_NightHelp, am_t 1359 (by decide +kernel) (by decide +kernel), am_t 1360 (by decide +kernel) (by decide +kernel), ⟨by decide, by decide, by decide +kernel⟩, by decide⟩
theorem am_Nh_bound_w : am_cv am_Nh_bound 3 := ⟨am_t 1025 (by decide +kernel) (by decide +kernel), am_in_NightHelp, am_t 1023 (by decide +kernel) (by decide +kernel), am_t 1024 (by decide +kernel) (by decide +kernel), ⟨by decide, by decide, by decide +kernel⟩, by decide⟩
theorem am_Nh_best_w : am_cv am_Nh_best 5 := ⟨am_t 1369 (by decide +kernel) (by decide +kernel), am_in_NightHelp, am_t 1367 (by decide +kernel) (by decide +kernel), am_t 1368 (by decide +kernel) (by decide +kernel), ⟨by decide, by decide, by decide +kernel⟩, by decide⟩
theorem am_Nh_does_w : am_cv am_Nh_does 5 := ⟨am_t 1039 (by decide +kernel) (by decide +kernel), am_in_NightHelp, am_t 1037 (by decide +kernel) (by decide +kernel), am_t 1038 (by decide +kernel) (by decide +kernel), ⟨by decide, by decide, by decide +kernel⟩, by decide⟩
theorem am_Nh_willing_w : am_cv am_Nh_willing 3 := ⟨am_t 1095 (by decide +kernel) (by decide +kernel), am_in_NightHelp, am_t 1093 (by decide +kernel) (by decide +kernel), am_t 1094 (by decide +kernel) (by decide +kernel), ⟨by decide, by decide, by decide +kernel⟩, by decide⟩
theorem am_Nh_isCase_w : am_cv am_Nh_isCase 5 := ⟨am_t 1043 (by decide +kernel) (by decide +kernel), am_in_NightHelp, am_t 1042 (by decide +kernel) (by decide +kernel), am_v 26 (by decide +kernel) (by decide +kernel), ⟨by decide, by decide, by decide +kernel⟩, by decide⟩
theorem am_Nh_isTimeAndLaw_w : am_cs_ am_Nh_isTimeAndLaw 2 := ⟨am_t 1050 (by decide +kernel) (by decide +kernel), am_in_NightHelp, am_t 1049 (by decide +kernel) (by decide +kernel), ⟨by decide, by decide, by decide +kernel⟩, by decide⟩
theorem am_Nh_ways_w : am_cv am_Nh_ways 3 := ⟨am_t 1099 (by decide +kernel) (by decide +kernel), am_in_NightHelp, am_t 1097 (by decide +kernel) (by decide +kernel), am_t 1098 (by decide +kernel) (by decide +kernel), ⟨by decide, by decide, by decide +kernel⟩, by decide⟩
theorem am_Nh_run_w : am_cv am_Nh_run 2 := ⟨am_t 1103 (by decide +kernel) (by decide +kernel), am_in_NightHelp, am_t 1101 (by decide +kernel) (by decide +kernel), am_t 1102 (by decide +kernel) (by decide +kernel), ⟨by decide, by decide, by decide +kernel⟩, by decide⟩
theorem am_Nh_runBy_w : am_cv am_Nh_runBy 1 := ⟨am_t 1183 (by decide +kernel) (by decide +kernel), am_in_NightHelp, am_t 1181 (by decide +kernel) (by decide +kernel), am_t 1182 (by decide +kernel) (by decide +kernel), ⟨by decide, by decide, by decide +kernel⟩, by decide⟩
theorem am_Nh_runOf_w : am_cv am_Nh_runOf 1 := ⟨am_t 1187 (by decide +kernel) (by decide +kernel), am_in_NightHelp, am_t 1185 (by decide +kernel) (by decide +kernel), am_t 1186 (by decide +kernel) (by decide +kernel), ⟨by decide, by decide, by decide +kernel⟩, by decide⟩
theorem am_Nh_left_w : am_cv am_Nh_left 1 := ⟨am_t 1191 (by decide +kernel) (by decide +kernel), am_in_NightHelp, am_t 1189 (by decide +kernel) (by decide +kernel), am_t 1190 (by decide +kernel) (by decide +kernel), ⟨by decide, by decide, by decide +kernel⟩, by decide⟩
theorem am_Nh_leftBy_w : am_cv am_Nh_leftBy 1 := ⟨am_t 1238 (by decide +kernel) (by decide +kernel), am_in_NightHelp, am_t 1236 (by decide +kernel) (by decide +kernel), am_t 1237 (by decide +kernel) (by decide +kernel), ⟨by decide, by decide, by decide +kernel⟩, by decide⟩
theorem am_Nh_think_w : am_cv am_Nh_think 4 := ⟨am_t 1242 (by decide +kernel) (by decide +kernel), am_in_NightHelp, am_t 1240 (by decide +kernel) (by decide +kernel), am_t 1241 (by decide +kernel) (by decide +kernel), ⟨by decide, by decide, by decide +kernel⟩, by decide⟩
theorem am_Nh_likely_w : am_cv am_Nh_likely 4 := ⟨am_t 1247 (by decide +kernel) (by decide +kernel), am_in_NightHelp, am_t 1246 (by decide +kernel) (by decide +kernel), am_v 50 (by decide +kernel) (by decide +kernel), ⟨by decide, by decide, by decide +kernel⟩, by decide⟩
theorem am_Nh_thinkOf_w : am_cv am_Nh_thinkOf 2 := ⟨am_t 1251 (by decide +kernel) (by decide +kernel), am_in_NightHelp, am_t 1249 (by decide +kernel) (by decide +kernel), am_t 1250 (by decide +kernel) (by decide +kernel), ⟨by decide, by decide, by decide +kernel⟩, by decide⟩
theorem am_Nh_said_w : am_cv am_Nh_said 0 := ⟨am_t 1255 (by decide +kernel) (by decide +kernel), am_in_NightHelp, am_t 1253 (by decide +kernel) (by decide +kernel), am_t 1254 (by decide +kernel) (by decide +kernel), ⟨by decide, by decide, by decide +kernel⟩, by decide⟩
theorem am_Nh_image_w : am_cv am_Nh_image 1 := ⟨am_t 1259 (by decide +kernel) (by decide +kernel), am_in_NightHelp, am_t 1257 (by decide +kernel) (by decide +kernel), am_t 1258 (by decide +kernel) (by decide +kernel), ⟨by decide, by decide, by decide +kernel⟩, by decide⟩
theorem am_Nh_restore_w : am_cv am_Nh_restore 1 := ⟨am_t 1269 (by decide +kernel) (by decide +kernel), am_in_NightHelp, am_t 1267 (by decide +kernel) (by decide +kernel), am_t 1268 (by decide +kernel) (by decide +kernel), ⟨by decide, by decide, by decide +kernel⟩, by decide⟩
theorem am_Md_thrown_w : am_cv am_Md_thrown 0 := ⟨am_t 1577 (by decide +kernel) (by decide +kernel), am_in_NightHelpModel, am_t 1575 (by decide +kernel) (by decide +kernel), am_t 1576 (by decide +kernel) (by decide +kernel), ⟨by decide, by decide, by decide +kernel⟩, by decide⟩
theorem am_Md_refuse_w : am_cv am_Md_refuse 0 := ⟨am_t 1712 (by decide +kernel) (by decide +kernel), am_in_NightHelpModel, am_t 1711 (by decide +kernel) (by decide +kernel), am_v 74 (by decide +kernel) (by decide +kernel), ⟨by decide, by decide, by decide +kernel⟩, by decide⟩
theorem am_Md_come_w : am_cv am_Md_come 1 := ⟨am_t 1585 (by decide +kernel) (by decide +kernel), am_in_NightHelpModel, am_t 1584 (by decide +kernel) (by decide +kernel), am_v 52 (by decide +kernel) (by decide +kernel), ⟨by decide, by decide, by decide +kernel⟩, by decide⟩
theorem am_Md_feed_w : am_cv am_Md_feed 5 := ⟨am_t 1581 (by decide +kernel) (by decide +kernel), am_in_NightHelpModel, am_t 1579 (by decide +kernel) (by decide +kernel), am_t 1580 (by decide +kernel) (by decide +kernel), ⟨by decide, by decide, by decide +kernel⟩, by decide⟩
theorem am_Md_end_w : am_cv am_Md_end 1 := ⟨am_t 1589 (by decide +kernel) (by decide +kernel), am_in_NightHelpModel, am_t 1587 (by decide +kernel) (by decide +kernel), am_t 1588 (by decide +kernel) (by decide +kernel), ⟨by decide, by decide, by decide +kernel⟩, by decide⟩
theorem am_Md_take_w : am_cv am_Md_take 0 := ⟨am_t 1605 (by decide +kernel) (by decide +kernel), am_in_NightHelpModel, am_t 1604 (by decide +kernel) (by decide +kernel), am_v 55 (by decide +kernel) (by decide +kernel), ⟨by decide, by decide, by decide +kernel⟩, by decide⟩
theorem am_Md_isIn_w : am_cs_ am_Md_isIn 3 := ⟨am_t 1665 (by decide +kernel) (by decide +kernel), am_in_NightHelpModel, am_t 1664 (by decide +kernel) (by decide +kernel), ⟨by decide, by decide, by decide +kernel⟩, by decide⟩
theorem am_Md_has_w : am_cs_ am_Md_has 2 := ⟨am_t 1676 (by decide +kernel) (by decide +kernel), am_in_NightHelpModel, am_t 1675 (by decide +kernel) (by decide +kernel), ⟨by decide, by decide, by decide +kernel⟩, by decide⟩
theorem am_Md_byteAt_w : am_cv am_Md_byteAt 1 := ⟨am_t 1619 (by decide +kernel) (by decide +kernel), am_in_NightHelpModel, am_t 1618 (by decide +kernel) (by decide +kernel), am_v 57 (by decide +kernel) (by decide +kernel), ⟨by decide, by decide, by decide +kernel⟩, by decide⟩
theorem am_Md_isDigit_w : am_cs_ am_Md_isDigit 1 := ⟨am_t 1615 (by decide +kernel) (by decide +kernel), am_in_NightHelpModel, am_t 1614 (by decide +kernel) (by decide +kernel), ⟨by decide, by decide, by decide +kernel⟩, by decide⟩
theorem am_Md_isLetter_w : am_cs_ am_Md_isLetter 1 := ⟨am_t 1612 (by decide +kernel) (by decide +kernel), am_in_NightHelpModel, am_t 1611 (by decide +kernel) (by decide +kernel), ⟨by decide, by decide, by decide +kernel⟩, by decide⟩
theorem am_Md_go_w : am_cv am_Md_go 0 := ⟨am_t 1609 (by decide +kernel) (by decide +kernel), am_in_NightHelpModel, am_t 1608 (by decide +kernel) (by decide +kernel), am_v 56 (by decide +kernel) (by decide +kernel), ⟨by decide, by decide, by decide +kernel⟩, by decide⟩
theorem am_Md_spelt_w : am_cs_ am_Md_spelt 4 := ⟨am_t 1635 (by decide +kernel) (by decide +kernel), am_in_NightHelpModel, am_t 1634 (by decide +kernel) (by decide +kernel), ⟨by decide, by decide, by decide +kernel⟩, by decide⟩
theorem am_Md_on_w : am_cs_ am_Md_on 3 := ⟨am_t 1638 (by decide +kernel) (by decide +kernel), am_in_NightHelpModel, am_t 1637 (by decide +kernel) (by decide +kernel), ⟨by decide, by decide, by decide +kernel⟩, by decide⟩
theorem am_Md_wordOf_w : am_cs_ am_Md_wordOf 1 := ⟨am_t 1632 (by decide +kernel) (by decide +kernel), am_in_NightHelpModel, am_t 1631 (by decide +kernel) (by decide +kernel), ⟨by decide, by decide, by decide +kernel⟩, by decide⟩
theorem am_Md_isWord_w : am_cv am_Md_isWord 1 := ⟨am_t 1629 (by decide +kernel) (by decide +kernel), am_in_NightHelpModel, am_t 1628 (by decide +kernel) (by decide +kernel), am_v 59 (by decide +kernel) (by decide +kernel), ⟨by decide, by decide, by decide +kernel⟩, by decide⟩
theorem am_Md_isSign_w : am_cv am_Md_isSign 1 := ⟨am_t 1692 (by decide +kernel) (by decide +kernel), am_in_NightHelpModel, am_t 1691 (by decide +kernel) (by decide +kernel), am_v 71 (by decide +kernel) (by decide +kernel), ⟨by decide, by decide, by decide +kernel⟩, by decide⟩
theorem am_Md_isName_w : am_cv am_Md_isName 0 := ⟨am_t 1654 (by decide +kernel) (by decide +kernel), am_in_NightHelpModel, am_t 1653 (by decide +kernel) (by decide +kernel), am_v 63 (by decide +kernel) (by decide +kernel), ⟨by decide, by decide, by decide +kernel⟩, by decide⟩
theorem am_Md_bad_w : am_cv am_Md_bad 1 := ⟨am_t 1642 (by decide +kernel) (by decide +kernel), am_in_NightHelpModel, am_t 1641 (by decide +kernel) (by decide +kernel), am_v 60 (by decide +kernel) (by decide +kernel), ⟨by decide, by decide, by decide +kernel⟩, by decide⟩
theorem am_Md_readNumber_w : am_cv am_Md_readNumber 2 := ⟨am_t 1662 (by decide +kernel) (by decide +kernel), am_in_NightHelpModel, am_t 1661 (by decide +kernel) (by decide +kernel), am_v 65 (by decide +kernel) (by decide +kernel), ⟨by decide, by decide, by decide +kernel⟩, by decide⟩
theorem am_Md_readEnd_w : am_cv am_Md_readEnd 0 := ⟨am_t 1688 (by decide +kernel) (by decide +kernel), am_in_NightHelpModel, am_t 1687 (by decide +kernel) (by decide +kernel), am_v 70 (by decide +kernel) (by decide +kernel), ⟨by decide, by decide, by decide +kernel⟩, by decide⟩
theorem am_Md_begin_w : am_cv am_Md_begin 1 := ⟨am_t 1597 (by decide +kernel) (by decide +kernel), am_in_NightHelpModel, am_t 1596 (by decide +kernel) (by decide +kernel), am_v 53 (by decide +kernel) (by decide +kernel), ⟨by decide, by decide, by decide +kernel⟩, by decide⟩
theorem am_Md_lay_w : am_cv am_Md_lay 0 := ⟨am_t 1601 (by decide +kernel) (by decide +kernel), am_in_NightHelpModel, am_t 1600 (by decide +kernel) (by decide +kernel), am_v 54 (by decide +kernel) (by decide +kernel), ⟨by decide, by decide, by decide +kernel⟩, by decide⟩
theorem am_Md_helps_w : am_cv am_Md_helps 0 := ⟨am_t 1708 (by decide +kernel) (by decide +kernel), am_in_NightHelpModel, am_t 1707 (by decide +kernel) (by decide +kernel), am_v 73 (by decide +kernel) (by decide +kernel), ⟨by decide, by decide, by decide +kernel⟩, by decide⟩
theorem am_Md_persons_w : am_cv am_Md_persons 0 := ⟨am_t 1724 (by decide +kernel) (by decide +kernel), am_in_NightHelpModel, am_t 1723 (by decide +kernel) (by decide +kernel), am_v 76 (by decide +kernel) (by decide +kernel), ⟨by decide, by decide, by decide +kernel⟩, by decide⟩
theorem am_Md_isHelp_w : am_cv am_Md_isHelp 1 := ⟨am_t 1704 (by decide +kernel) (by decide +kernel), am_in_NightHelpModel, am_t 1703 (by decide +kernel) (by decide +kernel), am_v 72 (by decide +kernel) (by decide +kernel), ⟨by decide, by decide, by decide +kernel⟩, by decide⟩
theorem am_Md_isPerson_w : am_cv am_Md_isPerson 1 := ⟨am_t 1720 (by decide +kernel) (by decide +kernel), am_in_NightHelpModel, am_t 1719 (by decide +kernel) (by decide +kernel), am_v 75 (by decide +kernel) (by decide +kernel), ⟨by decide, by decide, by decide +kernel⟩, by decide⟩
theorem am_Md_isNeed_w : am_cv am_Md_isNeed 1 := ⟨am_t 1740 (by decide +kernel) (by decide +kernel), am_in_NightHelpModel, am_t 1739 (by decide +kernel) (by decide +kernel), am_v 79 (by decide +kernel) (by decide +kernel), ⟨by decide, by decide, by decide +kernel⟩, by decide⟩
theorem am_Md_worth_w : am_cv am_Md_worth 1 := ⟨am_t 1799 (by decide +kernel) (by decide +kernel), am_in_NightHelpModel, am_t 1798 (by decide +kernel) (by decide +kernel), am_v 90 (by decide +kernel) (by decide +kernel), ⟨by decide, by decide, by decide +kernel⟩, by decide⟩
theorem am_Md_hide_w : am_cv am_Md_hide 1 := ⟨am_t 1795 (by decide +kernel) (by decide +kernel), am_in_NightHelpModel, am_t 1794 (by decide +kernel) (by decide +kernel), am_v 89 (by decide +kernel) (by decide +kernel), ⟨by decide, by decide, by decide +kernel⟩, by decide⟩
theorem am_Md_pains_w : am_cv am_Md_pains 2 := ⟨am_t 1732 (by decide +kernel) (by decide +kernel), am_in_NightHelpModel, am_t 1731 (by decide +kernel) (by decide +kernel), am_v 78 (by decide +kernel) (by decide +kernel), ⟨by decide, by decide, by decide +kernel⟩, by decide⟩
theorem am_Md_friendship_w : am_cv am_Md_friendship 2 := ⟨am_t 1748 (by decide +kernel) (by decide +kernel), am_in_NightHelpModel, am_t 1747 (by decide +kernel) (by decide +kernel), am_v 80 (by decide +kernel) (by decide +kernel), ⟨by decide, by decide, by decide +kernel⟩, by decide⟩
theorem am_Md_sees_w : am_cv am_Md_sees 2 := ⟨am_t 1752 (by decide +kernel) (by decide +kernel), am_in_NightHelpModel, am_t 1751 (by decide +kernel) (by decide +kernel), am_v 81 (by decide +kernel) (by decide +kernel), ⟨by decide, by decide, by decide +kernel⟩, by decide⟩
theorem am_Md_needy_w : am_cv am_Md_needy 1 := ⟨am_t 1849 (by decide +kernel) (by decide +kernel), am_in_NightHelpModel, am_t 1848 (by decide +kernel) (by decide +kernel), am_v 96 (by decide +kernel) (by decide +kernel), ⟨by decide, by decide, by decide +kernel⟩, by decide⟩
theorem am_Md_needed_w : am_cv am_Md_needed 1 := ⟨am_t 1853 (by decide +kernel) (by decide +kernel), am_in_NightHelpModel, am_t 1852 (by decide +kernel) (by decide +kernel), am_v 97 (by decide +kernel) (by decide +kernel), ⟨by decide, by decide, by decide +kernel⟩, by decide⟩
theorem am_Md_findRead_w : am_cv am_Md_findRead 0 := ⟨am_t 1658 (by decide +kernel) (by decide +kernel), am_in_NightHelpModel, am_t 1657 (by decide +kernel) (by decide +kernel), am_v 64 (by decide +kernel) (by decide +kernel), ⟨by decide, by decide, by decide +kernel⟩, by decide⟩
theorem am_Md_readNew_w : am_cv am_Md_readNew 1 := ⟨am_t 1650 (by decide +kernel) (by decide +kernel), am_in_NightHelpModel, am_t 1649 (by decide +kernel) (by decide +kernel), am_v 62 (by decide +kernel) (by decide +kernel), ⟨by decide, by decide, by decide +kernel⟩, by decide⟩
theorem am_Md_readHelp_w : am_cv am_Md_readHelp 0 := ⟨am_t 1646 (by decide +kernel) (by decide +kernel), am_in_NightHelpModel, am_t 1645 (by decide +kernel) (by decide +kernel), am_v 61 (by decide +kernel) (by decide +kernel), ⟨by decide, by decide, by decide +kernel⟩, by decide⟩
theorem am_Md_readHelpTold_w : am_cv am_Md_readHelpTold 0 := ⟨am_t 1673 (by decide +kernel) (by decide +kernel), am_in_NightHelpModel, am_t 1672 (by decide +kernel) (by decide +kernel), am_v 67 (by decide +kernel) (by decide +kernel), ⟨by decide, by decide, by decide +kernel⟩, by decide⟩
theorem am_Md_readPerson_w : am_cv am_Md_readPerson 0 := ⟨am_t 1669 (by decide +kernel) (by decide +kernel), am_in_NightHelpModel, am_t 1668 (by decide +kernel) (by decide +kernel), am_v 66 (by decide +kernel) (by decide +kernel), ⟨by decide, by decide, by decide +kernel⟩, by decide⟩
theorem am_Md_readTie_w : am_cv am_Md_readTie 1 := ⟨am_t 1680 (by decide +kernel) (by decide +kernel), am_in_NightHelpModel, am_t 1679 (by decide +kernel) (by decide +kernel), am_v 68 (by decide +kernel) (by decide +kernel), ⟨by decide, by decide, by decide +kernel⟩, by decide⟩
theorem am_Md_readOnce_w : am_cv am_Md_readOnce 1 := ⟨am_t 1684 (by decide +kernel) (by decide +kernel), am_in_NightHelpModel, am_t 1683 (by decide +kernel) (by decide +kernel), am_v 69 (by decide +kernel) (by decide +kernel), ⟨by decide, by decide, by decide +kernel⟩, by decide⟩
theorem am_Md_readLine_w : am_cv am_Md_readLine 0 := ⟨am_t 1625 (by decide +kernel) (by decide +kernel), am_in_NightHelpModel, am_t 1624 (by decide +kernel) (by decide +kernel), am_v 58 (by decide +kernel) (by decide +kernel), ⟨by decide, by decide, by decide +kernel⟩, by decide⟩
theorem am_Md_village_w : am_cv am_Md_village 0 := ⟨am_t 1593 (by decide +kernel) (by decide +kernel), am_in_NightHelpModel, am_t 1591 (by decide +kernel) (by decide +kernel), am_t 1592 (by decide +kernel) (by decide +kernel), ⟨by decide, by decide, by decide +kernel⟩, by decide⟩
theorem am_Md_fault_w : am_cv am_Md_fault 0 := ⟨am_t 1696 (by decide +kernel) (by decide +kernel), am_in_NightHelpModel, am_t 1694 (by decide +kernel) (by decide +kernel), am_t 1695 (by decide +kernel) (by decide +kernel), ⟨by decide, by decide, by decide +kernel⟩, by decide⟩
theorem am_Md_help_w : am_cv am_Md_help 2 := ⟨am_t 1700 (by decide +kernel) (by decide +kernel), am_in_NightHelpModel, am_t 1698 (by decide +kernel) (by decide +kernel), am_t 1699 (by decide +kernel) (by decide +kernel), ⟨by decide, by decide, by decide +kernel⟩, by decide⟩
theorem am_Md_cans_w : am_cv am_Md_cans 1 := ⟨am_t 1728 (by decide +kernel) (by decide +kernel), am_in_NightHelpModel, am_t 1727 (by decide +kernel) (by decide +kernel), am_v 77 (by decide +kernel) (by decide +kernel), ⟨by decide, by decide, by decide +kernel⟩, by decide⟩
theorem am_Md_person_w : am_cv am_Md_person 2 := ⟨am_t 1716 (by decide +kernel) (by decide +kernel), am_in_NightHelpModel, am_t 1714 (by decide +kernel) (by decide +kernel), am_t 1715 (by decide +kernel) (by decide +kernel), ⟨by decide, by decide, by decide +kernel⟩, by decide⟩
theorem am_Md_need_w : am_cv am_Md_need 2 := ⟨am_t 1736 (by decide +kernel) (by decide +kernel), am_in_NightHelpModel, am_t 1734 (by decide +kernel) (by decide +kernel), am_t 1735 (by decide +kernel) (by decide +kernel), ⟨by decide, by decide, by decide +kernel⟩, by decide⟩
theorem am_Md_tie_w : am_cv am_Md_tie 3 := ⟨am_t 1744 (by decide +kernel) (by decide +kernel), am_in_NightHelpModel, am_t 1742 (by decide +kernel) (by decide +kernel), am_t 1743 (by decide +kernel) (by decide +kernel), ⟨by decide, by decide, by decide +kernel⟩, by decide⟩
theorem am_Md_named_w : am_cv am_Md_named 2 := ⟨am_t 1764 (by decide +kernel) (by decide +kernel), am_in_NightHelpModel, am_t 1763 (by decide +kernel) (by decide +kernel), am_v 83 (by decide +kernel) (by decide +kernel), ⟨by decide, by decide, by decide +kernel⟩, by decide⟩
theorem am_Md_readNamed_w : am_cv am_Md_readNamed 3 := ⟨am_t 1768 (by decide +kernel) (by decide +kernel), am_in_NightHelpModel, am_t 1767 (by decide +kernel) (by decide +kernel), am_v 84 (by decide +kernel) (by decide +kernel), ⟨by decide, by decide, by decide +kernel⟩, by decide⟩
theorem am_Md_readBookLine_w : am_cv am_Md_readBookLine 1 := ⟨am_t 1760 (by decide +kernel) (by decide +kernel), am_in_NightHelpModel, am_t 1759 (by decide +kernel) (by decide +kernel), am_v 82 (by decide +kernel) (by decide +kernel), ⟨by decide, by decide, by decide +kernel⟩, by decide⟩
theorem am_Md_book_w : am_cv am_Md_book 0 := ⟨am_t 1756 (by decide +kernel) (by decide +kernel), am_in_NightHelpModel, am_t 1754 (by decide +kernel) (by decide +kernel), am_t 1755 (by decide +kernel) (by decide +kernel), ⟨by decide, by decide, by decide +kernel⟩, by decide⟩
theorem am_Md_bond_w : am_cs_ am_Md_bond 3 := ⟨am_t 1787 (by decide +kernel) (by decide +kernel), am_in_NightHelpModel, am_t 1786 (by decide +kernel) (by decide +kernel), ⟨by decide, by decide, by decide +kernel⟩, by decide⟩
theorem am_Md_endYear_w : am_cv am_Md_endYear 0 := ⟨am_t 1784 (by decide +kernel) (by decide +kernel), am_in_NightHelpModel, am_t 1783 (by decide +kernel) (by decide +kernel), am_v 87 (by decide +kernel) (by decide +kernel), ⟨by decide, by decide, by decide +kernel⟩, by decide⟩
theorem am_Md_bondsOf_w : am_cv am_Md_bondsOf 2 := ⟨am_t 1803 (by decide +kernel) (by decide +kernel), am_in_NightHelpModel, am_t 1802 (by decide +kernel) (by decide +kernel), am_v 91 (by decide +kernel) (by decide +kernel), ⟨by decide, by decide, by decide +kernel⟩, by decide⟩
theorem am_Md_doLine_w : am_cv am_Md_doLine 4 := ⟨am_t 1791 (by decide +kernel) (by decide +kernel), am_in_NightHelpModel, am_t 1790 (by decide +kernel) (by decide +kernel), am_v 88 (by decide +kernel) (by decide +kernel), ⟨by decide, by decide, by decide +kernel⟩, by decide⟩
theorem am_Md_clearBonds_w : am_cv am_Md_clearBonds 0 := ⟨am_t 1780 (by decide +kernel) (by decide +kernel), am_in_NightHelpModel, am_t 1779 (by decide +kernel) (by decide +kernel), am_v 86 (by decide +kernel) (by decide +kernel), ⟨by decide, by decide, by decide +kernel⟩, by decide⟩
theorem am_Md_doBook_w : am_cv am_Md_doBook 0 := ⟨am_t 1776 (by decide +kernel) (by decide +kernel), am_in_NightHelpModel, am_t 1775 (by decide +kernel) (by decide +kernel), am_v 85 (by decide +kernel) (by decide +kernel), ⟨by decide, by decide, by decide +kernel⟩, by decide⟩
theorem am_Md_wrong_w : am_cv am_Md_wrong 1 := ⟨am_t 1772 (by decide +kernel) (by decide +kernel), am_in_NightHelpModel, am_t 1770 (by decide +kernel) (by decide +kernel), am_t 1771 (by decide +kernel) (by decide +kernel), ⟨by decide, by decide, by decide +kernel⟩, by decide⟩
theorem am_Md_judge_w : am_cv am_Md_judge 1 := ⟨am_t 1807 (by decide +kernel) (by decide +kernel), am_in_NightHelpModel, am_t 1805 (by decide +kernel) (by decide +kernel), am_t 1806 (by decide +kernel) (by decide +kernel), ⟨by decide, by decide, by decide +kernel⟩, by decide⟩
theorem am_Md_felt_w : am_cv am_Md_felt 1 := ⟨am_t 1819 (by decide +kernel) (by decide +kernel), am_in_NightHelpModel, am_t 1818 (by decide +kernel) (by decide +kernel), am_v 93 (by decide +kernel) (by decide +kernel), ⟨by decide, by decide, by decide +kernel⟩, by decide⟩
theorem am_Md_cameOf_w : am_cv am_Md_cameOf 2 := ⟨am_t 1815 (by decide +kernel) (by decide +kernel), am_in_NightHelpModel, am_t 1814 (by decide +kernel) (by decide +kernel), am_v 92 (by decide +kernel) (by decide +kernel), ⟨by decide, by decide, by decide +kernel⟩, by decide⟩
theorem am_Md_came_w : am_cv am_Md_came 2 := ⟨am_t 1811 (by decide +kernel) (by decide +kernel), am_in_NightHelpModel, am_t 1809 (by decide +kernel) (by decide +kernel), am_t 1810 (by decide +kernel) (by decide +kernel), ⟨by decide, by decide, by decide +kernel⟩, by decide⟩
theorem am_Md_bound_w : am_cv am_Md_bound 3 := ⟨am_t 1823 (by decide +kernel) (by decide +kernel), am_in_NightHelpModel, am_t 1821 (by decide +kernel) (by decide +kernel), am_t 1822 (by decide +kernel) (by decide +kernel), ⟨by decide, by decide, by decide +kernel⟩, by decide⟩
theorem am_Md_foundOf_w : am_cv am_Md_foundOf 1 := ⟨am_t 1831 (by decide +kernel) (by decide +kernel), am_in_NightHelpModel, am_t 1830 (by decide +kernel) (by decide +kernel), am_v 94 (by decide +kernel) (by decide +kernel), ⟨by decide, by decide, by decide +kernel⟩, by decide⟩
theorem am_Md_found_w : am_cv am_Md_found 1 := ⟨am_t 1827 (by decide +kernel) (by decide +kernel), am_in_NightHelpModel, am_t 1825 (by decide +kernel) (by decide +kernel), am_t 1826 (by decide +kernel) (by decide +kernel), ⟨by decide, by decide, by decide +kernel⟩, by decide⟩
theorem am_Md_pair_w : am_cv am_Md_pair 2 := ⟨am_t 1836 (by decide +kernel) (by decide +kernel), am_in_NightHelpModel, am_t 1834 (by decide +kernel) (by decide +kernel), am_t 1835 (by decide +kernel) (by decide +kernel), ⟨by decide, by decide, by decide +kernel⟩, by decide⟩
theorem am_Md_layValues_w : am_cv am_Md_layValues 4 := ⟨am_t 1857 (by decide +kernel) (by decide +kernel), am_in_NightHelpModel, am_t 1856 (by decide +kernel) (by decide +kernel), am_v 98 (by decide +kernel) (by decide +kernel), ⟨by decide, by decide, by decide +kernel⟩, by decide⟩
theorem am_Md_isAsked_w : am_cv am_Md_isAsked 4 := ⟨am_t 1845 (by decide +kernel) (by decide +kernel), am_in_NightHelpModel, am_t 1844 (by decide +kernel) (by decide +kernel), am_v 95 (by decide +kernel) (by decide +kernel), ⟨by decide, by decide, by decide +kernel⟩, by decide⟩
theorem am_Md_best_w : am_cv am_Md_best 5 := ⟨am_t 1841 (by decide +kernel) (by decide +kernel), am_in_NightHelpModel, am_t 1839 (by decide +kernel) (by decide +kernel), am_t 1840 (by decide +kernel) (by decide +kernel), ⟨by decide, by decide, by decide +kernel⟩, by decide⟩
theorem am_Md_does_w : am_cv am_Md_does 5 := ⟨am_t 1863 (by decide +kernel) (by decide +kernel), am_in_NightHelpModel, am_t 1861 (by decide +kernel) (by decide +kernel), am_t 1862 (by decide +kernel) (by decide +kernel), ⟨by decide, by decide, by decide +kernel⟩, by decide⟩
theorem am_Md_freely_w : am_cv am_Md_freely 4 := ⟨am_t 1871 (by decide +kernel) (by decide +kernel), am_in_NightHelpModel, am_t 1870 (by decide +kernel) (by decide +kernel), am_v 99 (by decide +kernel) (by decide +kernel), ⟨by decide, by decide, by decide +kernel⟩, by decide⟩
theorem am_Md_willing_w : am_cv am_Md_willing 3 := ⟨am_t 1867 (by decide +kernel) (by decide +kernel), am_in_NightHelpModel, am_t 1865 (by decide +kernel) (by decide +kernel), am_t 1866 (by decide +kernel) (by decide +kernel), ⟨by decide, by decide, by decide +kernel⟩, by decide⟩
theorem am_Md_ways_w : am_cv am_Md_ways 3 := ⟨am_t 1875 (by decide +kernel) (by decide +kernel), am_in_NightHelpModel, am_t 1873 (by decide +kernel) (by decide +kernel), am_t 1874 (by decide +kernel) (by decide +kernel), ⟨by decide, by decide, by decide +kernel⟩, by decide⟩
theorem am_Md_draw_w : am_cv am_Md_draw 1 := ⟨am_t 1899 (by decide +kernel) (by decide +kernel), am_in_NightHelpModel, am_t 1898 (by decide +kernel) (by decide +kernel), am_v 104 (by decide +kernel) (by decide +kernel), ⟨by decide, by decide, by decide +kernel⟩, by decide⟩
theorem am_Md_isSeen_w : am_cv am_Md_isSeen 1 := ⟨am_t 1895 (by decide +kernel) (by decide +kernel), am_in_NightHelpModel, am_t 1894 (by decide +kernel) (by decide +kernel), am_v 103 (by decide +kernel) (by decide +kernel), ⟨by decide, by decide, by decide +kernel⟩, by decide⟩
theorem am_Md_canHelp_w : am_cv am_Md_canHelp 2 := ⟨am_t 1891 (by decide +kernel) (by decide +kernel), am_in_NightHelpModel, am_t 1890 (by decide +kernel) (by decide +kernel), am_v 102 (by decide +kernel) (by decide +kernel), ⟨by decide, by decide, by decide +kernel⟩, by decide⟩
theorem am_Md_offers_w : am_cv am_Md_offers 2 := ⟨am_t 1887 (by decide +kernel) (by decide +kernel), am_in_NightHelpModel, am_t 1886 (by decide +kernel) (by decide +kernel), am_v 101 (by decide +kernel) (by decide +kernel), ⟨by decide, by decide, by decide +kernel⟩, by decide⟩
theorem am_Md_thanks_w : am_cv am_Md_thanks 3 := ⟨am_t 1904 (by decide +kernel) (by decide +kernel), am_in_NightHelpModel, am_t 1903 (by decide +kernel) (by decide +kernel), am_v 105 (by decide +kernel) (by decide +kernel), ⟨by decide, by decide, by decide +kernel⟩, by decide⟩
theorem am_Md_meet_w : am_cv am_Md_meet 3 := ⟨am_t 1883 (by decide +kernel) (by decide +kernel), am_in_NightHelpModel, am_t 1882 (by decide +kernel) (by decide +kernel), am_v 100 (by decide +kernel) (by decide +kernel), ⟨by decide, by decide, by decide +kernel⟩, by decide⟩
theorem am_Md_run_w : am_cv am_Md_run 2 := ⟨am_t 1879 (by decide +kernel) (by decide +kernel), am_in_NightHelpModel, am_t 1877 (by decide +kernel) (by decide +kernel), am_t 1878 (by decide +kernel) (by decide +kernel), ⟨by decide, by decide, by decide +kernel⟩, by decide⟩
theorem am_Md_runBy_w : am_cv am_Md_runBy 1 := ⟨am_t 1908 (by decide +kernel) (by decide +kernel), am_in_NightHelpModel, am_t 1906 (by decide +kernel) (by decide +kernel), am_t 1907 (by decide +kernel) (by decide +kernel), ⟨by decide, by decide, by decide +kernel⟩, by decide⟩
theorem am_Md_runOf_w : am_cv am_Md_runOf 1 := ⟨am_t 1912 (by decide +kernel) (by decide +kernel), am_in_NightHelpModel, am_t 1910 (by decide +kernel) (by decide +kernel), am_t 1911 (by decide +kernel) (by decide +kernel), ⟨by decide, by decide, by decide +kernel⟩, by decide⟩
theorem am_Md_gets_w : am_cv am_Md_gets 1 := ⟨am_t 1924 (by decide +kernel) (by decide +kernel), am_in_NightHelpModel, am_t 1923 (by decide +kernel) (by decide +kernel), am_v 107 (by decide +kernel) (by decide +kernel), ⟨by decide, by decide, by decide +kernel⟩, by decide⟩
theorem am_Md_matched_w : am_cv am_Md_matched 0 := ⟨am_t 1920 (by decide +kernel) (by decide +kernel), am_in_NightHelpModel, am_t 1919 (by decide +kernel) (by decide +kernel), am_v 106 (by decide +kernel) (by decide +kernel), ⟨by decide, by decide, by decide +kernel⟩, by decide⟩
theorem am_Md_left_w : am_cv am_Md_left 1 := ⟨am_t 1916 (by decide +kernel) (by decide +kernel), am_in_NightHelpModel, am_t 1914 (by decide +kernel) (by decide +kernel), am_t 1915 (by decide +kernel) (by decide +kernel), ⟨by decide, by decide, by decide +kernel⟩, by decide⟩
theorem am_Md_leftBy_w : am_cv am_Md_leftBy 1 := ⟨am_t 1928 (by decide +kernel) (by decide +kernel), am_in_NightHelpModel, am_t 1926 (by decide +kernel) (by decide +kernel), am_t 1927 (by decide +kernel) (by decide +kernel), ⟨by decide, by decide, by decide +kernel⟩, by decide⟩
theorem am_Md_think_w : am_cv am_Md_think 4 := ⟨am_t 1932 (by decide +kernel) (by decide +kernel), am_in_NightHelpModel, am_t 1930 (by decide +kernel) (by decide +kernel), am_t 1931 (by decide +kernel) (by decide +kernel), ⟨by decide, by decide, by decide +kernel⟩, by decide⟩
theorem am_Md_thinkOf_w : am_cv am_Md_thinkOf 2 := ⟨am_t 1936 (by decide +kernel) (by decide +kernel), am_in_NightHelpModel, am_t 1934 (by decide +kernel) (by decide +kernel), am_t 1935 (by decide +kernel) (by decide +kernel), ⟨by decide, by decide, by decide +kernel⟩, by decide⟩
theorem am_Md_lays_w : am_cv am_Md_lays 4 := ⟨am_t 1964 (by decide +kernel) (by decide +kernel), am_in_NightHelpModel, am_t 1963 (by decide +kernel) (by decide +kernel), am_v 113 (by decide +kernel) (by decide +kernel), ⟨by decide, by decide, by decide +kernel⟩, by decide⟩
theorem am_Md_readOr_w : am_cv am_Md_readOr 0 := ⟨am_t 1944 (by decide +kernel) (by decide +kernel), am_in_NightHelpModel, am_t 1943 (by decide +kernel) (by decide +kernel), am_v 108 (by decide +kernel) (by decide +kernel), ⟨by decide, by decide, by decide +kernel⟩, by decide⟩
theorem am_Md_readAnd_w : am_cv am_Md_readAnd 0 := ⟨am_t 1948 (by decide +kernel) (by decide +kernel), am_in_NightHelpModel, am_t 1947 (by decide +kernel) (by decide +kernel), am_v 109 (by decide +kernel) (by decide +kernel), ⟨by decide, by decide, by decide +kernel⟩, by decide⟩
theorem am_Md_readOne_w : am_cv am_Md_readOne 0 := ⟨am_t 1952 (by decide +kernel) (by decide +kernel), am_in_NightHelpModel, am_t 1951 (by decide +kernel) (by decide +kernel), am_v 110 (by decide +kernel) (by decide +kernel), ⟨by decide, by decide, by decide +kernel⟩, by decide⟩
theorem am_Md_readNot_w : am_cv am_Md_readNot 0 := ⟨am_t 1960 (by decide +kernel) (by decide +kernel), am_in_NightHelpModel, am_t 1959 (by decide +kernel) (by decide +kernel), am_v 112 (by decide +kernel) (by decide +kernel), ⟨by decide, by decide, by decide +kernel⟩, by decide⟩
theorem am_Md_readBracket_w : am_cv am_Md_readBracket 0 := ⟨am_t 1956 (by decide +kernel) (by decide +kernel), am_in_NightHelpModel, am_t 1955 (by decide +kernel) (by decide +kernel), am_v 111 (by decide +kernel) (by decide +kernel), ⟨by decide, by decide, by decide +kernel⟩, by decide⟩
theorem am_Md_readCompare_w : am_cv am_Md_readCompare 1 := ⟨am_t 1968 (by decide +kernel) (by decide +kernel), am_in_NightHelpModel, am_t 1967 (by decide +kernel) (by decide +kernel), am_v 114 (by decide +kernel) (by decide +kernel), ⟨by decide, by decide, by decide +kernel⟩, by decide⟩
theorem am_Md_sentence_w : am_cv am_Md_sentence 0 := ⟨am_t 1940 (by decide +kernel) (by decide +kernel), am_in_NightHelpModel, am_t 1938 (by decide +kernel) (by decide +kernel), am_t 1939 (by decide +kernel) (by decide +kernel), ⟨by decide, by decide, by decide +kernel⟩, by decide⟩
theorem am_Md_isSo_w : am_cv am_Md_isSo 2 := ⟨am_t 1976 (by decide +kernel) (by decide +kernel), am_in_NightHelpModel, am_t 1975 (by decide +kernel) (by decide +kernel), am_v 115 (by decide +kernel) (by decide +kernel), ⟨by decide, by decide, by decide +kernel⟩, by decide⟩
theorem am_Md_said_w : am_cv am_Md_said 0 := ⟨am_t 1972 (by decide +kernel) (by decide +kernel), am_in_NightHelpModel, am_t 1970 (by decide +kernel) (by decide +kernel), am_t 1971 (by decide +kernel) (by decide +kernel), ⟨by decide, by decide, by decide +kernel⟩, by decide⟩
theorem am_Md_image_w : am_cv am_Md_image 1 := ⟨am_t 1980 (by decide +kernel) (by decide +kernel), am_in_NightHelpModel, am_t 1978 (by decide +kernel) (by decide +kernel), am_t 1979 (by decide +kernel) (by decide +kernel), ⟨by decide, by decide, by decide +kernel⟩, by decide⟩
theorem am_Md_restore_w : am_cv am_Md_restore 1 := ⟨am_t 1984 (by decide +kernel) (by decide +kernel), am_in_NightHelpModel, am_t 1982 (by decide +kernel) (by decide +kernel), am_t 1983 (by decide +kernel) (by decide +kernel), ⟨by decide, by decide, by decide +kernel⟩, by decide⟩
theorem am_Md_count_w : am_cv am_Md_count 1 := ⟨am_t 1988 (by decide +kernel) (by decide +kernel), am_in_NightHelpModel, am_t 1986 (by decide +kernel) (by decide +kernel), am_t 1987 (by decide +kernel) (by decide +kernel), ⟨by decide, by decide, by decide +kernel⟩, by decide⟩
theorem am_Ar_fillJ_w : am_cs_ am_Ar_fillJ 2 := ⟨am_t 1057 (by decide +kernel) (by decide +kernel), am_in_java_util_Arrays, am_t 1056 (by decide +kernel) (by decide +kernel), ⟨by decide, by decide, by decide +kernel⟩, by decide⟩
theorem am_Ar_fillI_w : am_cs_ am_Ar_fillI 2 := ⟨am_t 51 (by decide +kernel) (by decide +kernel), am_in_java_util_Arrays, am_t 50 (by decide +kernel) (by decide +kernel), ⟨by decide, by decide, by decide +kernel⟩, by decide⟩
theorem am_mx_s : Cond.static Lib.Math.max.name ∈ am_ws := am_t 614 (by decide +kernel) (by decide +kernel)
theorem am_mx_c : Cond.code Lib.Math.max.name Lib.Math.max.code 2 (some .int) ∈ am_ws := am_t 615 (by decide +kernel) (by decide +kernel)
theorem am_mn_s : Cond.static Lib.Math.min.name ∈ am_ws := am_t 611 (by decide +kernel) (by decide +kernel)
theorem am_mn_c : Cond.code Lib.Math.min.name Lib.Math.min.code 2 (some .int) ∈ am_ws := am_t 612 (by decide +kernel) (by decide +kernel)
theorem am_mxl_s : Cond.static Lib.MathLoose.max_long.x ∈ am_ws := am_t 1086 (by decide +kernel) (by decide +kernel)
theorem am_mxl_c : Cond.code Lib.MathLoose.max_long.x Lib.MathLoose.max_long.code 4 (some .long) ∈ am_ws := am_t 1087 (by decide +kernel) (by decide +kernel)
theorem am_ac_s : Cond.static arraycopyName ∈ am_ws := am_t 797 (by decide +kernel) (by decide +kernel)
theorem am_ac_n : Cond.native arraycopyName ∈ am_ws := am_t 798 (by decide +kernel) (by decide +kernel)

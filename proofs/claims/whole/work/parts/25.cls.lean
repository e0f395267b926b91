theorem am_y0_0 : am_gw (Cond.laysFinal "PatternTrees" "PatternTrees" "form" "LPatternTrees$Form;") := am_g2 115 rfl rfl
theorem am_y0_1 : am_gw (Cond.laysFinal "PatternTrees" "PatternTrees" "values" "LPatternTrees$Terms;") := am_g2 117 rfl rfl
theorem am_y0_2 : am_gw (Cond.laysFinal "PatternTrees" "PatternTrees" "trial" "LPatternTrees$Trial;") := am_g2 119 rfl rfl
theorem am_y0_3 : am_gw (Cond.laysFinal "PatternTrees" "PatternTrees" "search" "LPatternTrees$Search;") := am_g2 121 rfl rfl
theorem am_y0_4 : am_gw (Cond.lays "PatternTrees" "PatternTrees" "rules" "LPatternTrees$Rules;") := am_g2 123 rfl rfl
theorem am_y0_5 : am_gw (Cond.lays "PatternTrees" "PatternTrees" "spare" "LPatternTrees$Rules;") := am_g2 125 rfl rfl
theorem am_y0_6 : am_gw (Cond.lays "PatternTrees" "PatternTrees" "hasSet" "Z") := am_g2 127 rfl rfl
theorem am_y0_7 : am_gw (Cond.lays "PatternTrees" "PatternTrees" "fault" "I") := am_g2 129 rfl rfl
set_option maxRecDepth 20000 in
theorem am_kw0 : ∀ k, k < 8 → am_gw (u_lay "PatternTrees" am_T0 k) := fun k hk => match k, hk with
  | 0, _ => am_y0_0
  | 1, _ => am_y0_1
  | 2, _ => am_y0_2
  | 3, _ => am_y0_3
  | 4, _ => am_y0_4
  | 5, _ => am_y0_5
  | 6, _ => am_y0_6
  | 7, _ => am_y0_7
  | k + 8, hk => absurd hk (by omega)
set_option maxRecDepth 20000 in
theorem am_kr0 : ∀ k, k < 8 → am_rcT (match am_fty 0 k with | 0 => 1 | 1 => 4 | t => t) (some (am_ft 0 k)) ∧ am_fty 0 k ≤ 3 := fun k hk => match k, hk with
  | 0, _ => ⟨⟨_, rfl, Or.inl ⟨_, rfl⟩⟩, by decide⟩
  | 1, _ => ⟨⟨_, rfl, Or.inl ⟨_, rfl⟩⟩, by decide⟩
  | 2, _ => ⟨⟨_, rfl, Or.inl ⟨_, rfl⟩⟩, by decide⟩
  | 3, _ => ⟨⟨_, rfl, Or.inl ⟨_, rfl⟩⟩, by decide⟩
  | 4, _ => ⟨⟨_, rfl, Or.inl ⟨_, rfl⟩⟩, by decide⟩
  | 5, _ => ⟨⟨_, rfl, Or.inl ⟨_, rfl⟩⟩, by decide⟩
  | 6, _ => ⟨rfl, by decide⟩
  | 7, _ => ⟨rfl, by decide⟩
  | k + 8, hk => absurd hk (by omega)
theorem am_kp0 : ∀ k, k < 8 → parseFieldDescriptor (am_T0 k).2.2.1 = some (am_ft 0 k) := by decide +kernel
theorem am_kd0 : ∀ a, a < 8 → ∀ b, b < 8 → a ≠ b → (am_T0 a).2.1 ≠ (am_T0 b).2.1 := by decide +kernel
theorem am_kc0 : am_okK 0 ("PatternTrees", am_T0, 8) := ⟨fun w hw => by
    obtain ⟨k, hk, rfl⟩ := List.mem_map.mp hw
    exact am_kw0 k (List.mem_range.mp hk), am_kp0, am_kd0, am_kr0⟩
theorem am_y1_0 : am_gw (Cond.laysFinal "PatternTreesModel" "PatternTreesModel" "tape" "[B") := am_g4 227 rfl rfl
theorem am_y1_1 : am_gw (Cond.lays "PatternTreesModel" "PatternTreesModel" "size" "I") := am_g4 229 rfl rfl
theorem am_y1_2 : am_gw (Cond.lays "PatternTreesModel" "PatternTreesModel" "place" "I") := am_g4 231 rfl rfl
theorem am_y1_3 : am_gw (Cond.lays "PatternTreesModel" "PatternTreesModel" "tokens" "I") := am_g4 233 rfl rfl
theorem am_y1_4 : am_gw (Cond.laysFinal "PatternTreesModel" "PatternTreesModel" "sorts" "[I") := am_g4 235 rfl rfl
theorem am_y1_5 : am_gw (Cond.laysFinal "PatternTreesModel" "PatternTreesModel" "places" "[I") := am_g4 237 rfl rfl
theorem am_y1_6 : am_gw (Cond.laysFinal "PatternTreesModel" "PatternTreesModel" "whats" "[J") := am_g4 239 rfl rfl
theorem am_y1_7 : am_gw (Cond.lays "PatternTreesModel" "PatternTreesModel" "at" "I") := am_g5 1 rfl rfl
theorem am_y1_8 : am_gw (Cond.lays "PatternTreesModel" "PatternTreesModel" "bad" "Z") := am_g5 3 rfl rfl
theorem am_y1_9 : am_gw (Cond.lays "PatternTreesModel" "PatternTreesModel" "badPlace" "I") := am_g5 5 rfl rfl
theorem am_y1_10 : am_gw (Cond.lays "PatternTreesModel" "PatternTreesModel" "formPats" "I") := am_g5 7 rfl rfl
theorem am_y1_11 : am_gw (Cond.lays "PatternTreesModel" "PatternTreesModel" "rowStart" "I") := am_g5 9 rfl rfl
theorem am_y1_12 : am_gw (Cond.laysFinal "PatternTreesModel" "PatternTreesModel" "open" "[I") := am_g5 11 rfl rfl
theorem am_y1_13 : am_gw (Cond.lays "PatternTreesModel" "PatternTreesModel" "opened" "I") := am_g5 13 rfl rfl
theorem am_y1_14 : am_gw (Cond.lays "PatternTreesModel" "PatternTreesModel" "set" "I") := am_g5 15 rfl rfl
theorem am_y1_15 : am_gw (Cond.laysFinal "PatternTreesModel" "PatternTreesModel" "typeKinds" "[I") := am_g5 17 rfl rfl
theorem am_y1_16 : am_gw (Cond.laysFinal "PatternTreesModel" "PatternTreesModel" "typeCounts" "[I") := am_g5 19 rfl rfl
theorem am_y1_17 : am_gw (Cond.laysFinal "PatternTreesModel" "PatternTreesModel" "conCounts" "[I") := am_g5 21 rfl rfl
theorem am_y1_18 : am_gw (Cond.laysFinal "PatternTreesModel" "PatternTreesModel" "conNames" "[J") := am_g5 23 rfl rfl
theorem am_y1_19 : am_gw (Cond.laysFinal "PatternTreesModel" "PatternTreesModel" "conTypes" "[I") := am_g5 25 rfl rfl
theorem am_y1_20 : am_gw (Cond.laysFinal "PatternTreesModel" "PatternTreesModel" "conWide" "[I") := am_g5 27 rfl rfl
theorem am_y1_21 : am_gw (Cond.laysFinal "PatternTreesModel" "PatternTreesModel" "conArgs" "[I") := am_g5 29 rfl rfl
theorem am_y1_22 : am_gw (Cond.laysFinal "PatternTreesModel" "PatternTreesModel" "columnCounts" "[I") := am_g5 31 rfl rfl
theorem am_y1_23 : am_gw (Cond.laysFinal "PatternTreesModel" "PatternTreesModel" "columns" "[I") := am_g5 33 rfl rfl
theorem am_y1_24 : am_gw (Cond.laysFinal "PatternTreesModel" "PatternTreesModel" "rowCounts" "[I") := am_g5 35 rfl rfl
theorem am_y1_25 : am_gw (Cond.laysFinal "PatternTreesModel" "PatternTreesModel" "patCounts" "[I") := am_g5 37 rfl rfl
theorem am_y1_26 : am_gw (Cond.laysFinal "PatternTreesModel" "PatternTreesModel" "guarded" "[Z") := am_g5 39 rfl rfl
theorem am_y1_27 : am_gw (Cond.laysFinal "PatternTreesModel" "PatternTreesModel" "actCounts" "[I") := am_g5 41 rfl rfl
theorem am_y1_28 : am_gw (Cond.laysFinal "PatternTreesModel" "PatternTreesModel" "actPlaces" "[I") := am_g5 43 rfl rfl
theorem am_y1_29 : am_gw (Cond.laysFinal "PatternTreesModel" "PatternTreesModel" "actWhats" "[I") := am_g5 45 rfl rfl
theorem am_y1_30 : am_gw (Cond.laysFinal "PatternTreesModel" "PatternTreesModel" "frameCons" "[I") := am_g5 47 rfl rfl
theorem am_y1_31 : am_gw (Cond.laysFinal "PatternTreesModel" "PatternTreesModel" "frameCounts" "[I") := am_g5 49 rfl rfl
theorem am_y1_32 : am_gw (Cond.laysFinal "PatternTreesModel" "PatternTreesModel" "framePlaces" "[I") := am_g5 51 rfl rfl
theorem am_y1_33 : am_gw (Cond.lays "PatternTreesModel" "PatternTreesModel" "frames" "I") := am_g5 53 rfl rfl
theorem am_y1_34 : am_gw (Cond.lays "PatternTreesModel" "PatternTreesModel" "wantedType" "I") := am_g5 55 rfl rfl
theorem am_y1_35 : am_gw (Cond.lays "PatternTreesModel" "PatternTreesModel" "wantedPlace" "I") := am_g5 57 rfl rfl
theorem am_y1_36 : am_gw (Cond.lays "PatternTreesModel" "PatternTreesModel" "lazy" "Z") := am_g5 59 rfl rfl
theorem am_y1_37 : am_gw (Cond.lays "PatternTreesModel" "PatternTreesModel" "lazyFrames" "I") := am_g5 61 rfl rfl
theorem am_y1_38 : am_gw (Cond.laysFinal "PatternTreesModel" "PatternTreesModel" "values" "[I") := am_g5 63 rfl rfl
theorem am_y1_39 : am_gw (Cond.laysFinal "PatternTreesModel" "PatternTreesModel" "wasLooked" "[Z") := am_g5 65 rfl rfl
theorem am_y1_40 : am_gw (Cond.lays "PatternTreesModel" "PatternTreesModel" "lookCount" "I") := am_g5 67 rfl rfl
theorem am_y1_41 : am_gw (Cond.laysFinal "PatternTreesModel" "PatternTreesModel" "looks" "[I") := am_g5 69 rfl rfl
theorem am_y1_42 : am_gw (Cond.laysFinal "PatternTreesModel" "PatternTreesModel" "known" "[I") := am_g5 71 rfl rfl
theorem am_y1_43 : am_gw (Cond.lays "PatternTreesModel" "PatternTreesModel" "found" "Z") := am_g5 73 rfl rfl
theorem am_y1_44 : am_gw (Cond.laysFinal "PatternTreesModel" "PatternTreesModel" "nevers" "[I") := am_g5 75 rfl rfl
theorem am_y1_45 : am_gw (Cond.laysFinal "PatternTreesModel" "PatternTreesModel" "asked" "[I") := am_g5 77 rfl rfl
theorem am_y1_46 : am_gw (Cond.laysFinal "PatternTreesModel" "PatternTreesModel" "askedWhats" "[I") := am_g5 79 rfl rfl
theorem am_y1_47 : am_gw (Cond.lays "PatternTreesModel" "PatternTreesModel" "askedCount" "I") := am_g5 81 rfl rfl
theorem am_y1_48 : am_gw (Cond.laysFinal "PatternTreesModel" "PatternTreesModel" "givens" "[I") := am_g5 83 rfl rfl
theorem am_y1_49 : am_gw (Cond.lays "PatternTreesModel" "PatternTreesModel" "givenCount" "I") := am_g5 85 rfl rfl
theorem am_y1_50 : am_gw (Cond.lays "PatternTreesModel" "PatternTreesModel" "ahead" "I") := am_g5 87 rfl rfl
theorem am_y1_51 : am_gw (Cond.laysFinal "PatternTreesModel" "PatternTreesModel" "askedNumbers" "[Z") := am_g5 89 rfl rfl
theorem am_y1_52 : am_gw (Cond.laysFinal "PatternTreesModel" "PatternTreesModel" "askedOther" "[Z") := am_g5 91 rfl rfl
theorem am_y1_53 : am_gw (Cond.laysFinal "PatternTreesModel" "PatternTreesModel" "example" "[B") := am_g5 93 rfl rfl
theorem am_y1_54 : am_gw (Cond.lays "PatternTreesModel" "PatternTreesModel" "exampleSize" "I") := am_g5 95 rfl rfl
theorem am_y1_55 : am_gw (Cond.laysFinal "PatternTreesModel" "PatternTreesModel" "todo" "[I") := am_g5 97 rfl rfl
theorem am_y1_56 : am_gw (Cond.laysFinal "PatternTreesModel" "PatternTreesModel" "todoTypes" "[I") := am_g5 99 rfl rfl
theorem am_y1_57 : am_gw (Cond.lays "PatternTreesModel" "PatternTreesModel" "todoCount" "I") := am_g5 101 rfl rfl
set_option maxRecDepth 20000 in
theorem am_kw1 : ∀ k, k < 58 → am_gw (u_lay "PatternTreesModel" am_T1 k) := fun k hk => match k, hk with
  | 0, _ => am_y1_0
  | 1, _ => am_y1_1
  | 2, _ => am_y1_2
  | 3, _ => am_y1_3
  | 4, _ => am_y1_4
  | 5, _ => am_y1_5
  | 6, _ => am_y1_6
  | 7, _ => am_y1_7
  | 8, _ => am_y1_8
  | 9, _ => am_y1_9
  | 10, _ => am_y1_10
  | 11, _ => am_y1_11
  | 12, _ => am_y1_12
  | 13, _ => am_y1_13
  | 14, _ => am_y1_14
  | 15, _ => am_y1_15
  | 16, _ => am_y1_16
  | 17, _ => am_y1_17
  | 18, _ => am_y1_18
  | 19, _ => am_y1_19
  | 20, _ => am_y1_20
  | 21, _ => am_y1_21
  | 22, _ => am_y1_22
  | 23, _ => am_y1_23
  | 24, _ => am_y1_24
  | 25, _ => am_y1_25
  | 26, _ => am_y1_26
  | 27, _ => am_y1_27
  | 28, _ => am_y1_28
  | 29, _ => am_y1_29
  | 30, _ => am_y1_30
  | 31, _ => am_y1_31
  | 32, _ => am_y1_32
  | 33, _ => am_y1_33
  | 34, _ => am_y1_34
  | 35, _ => am_y1_35
  | 36, _ => am_y1_36
  | 37, _ => am_y1_37
  | 38, _ => am_y1_38
  | 39, _ => am_y1_39
  | 40, _ => am_y1_40
  | 41, _ => am_y1_41
  | 42, _ => am_y1_42
  | 43, _ => am_y1_43
  | 44, _ => am_y1_44
  | 45, _ => am_y1_45
  | 46, _ => am_y1_46
  | 47, _ => am_y1_47
  | 48, _ => am_y1_48
  | 49, _ => am_y1_49
  | 50, _ => am_y1_50
  | 51, _ => am_y1_51
  | 52, _ => am_y1_52
  | 53, _ => am_y1_53
  | 54, _ => am_y1_54
  | 55, _ => am_y1_55
  | 56, _ => am_y1_56
  | 57, _ => am_y1_57
  | k + 58, hk => absurd hk (by omega)
set_option maxRecDepth 20000 in
theorem am_kr1 : ∀ k, k < 58 → am_rcT (match am_fty 1 k with | 0 => 1 | 1 => 4 | t => t) (some (am_ft 1 k)) ∧ am_fty 1 k ≤ 3 := fun k hk => match k, hk with
  | 0, _ => ⟨⟨_, rfl, Or.inr ⟨_, rfl⟩⟩, by decide⟩
  | 1, _ => ⟨rfl, by decide⟩
  | 2, _ => ⟨rfl, by decide⟩
  | 3, _ => ⟨rfl, by decide⟩
  | 4, _ => ⟨⟨_, rfl, Or.inr ⟨_, rfl⟩⟩, by decide⟩
  | 5, _ => ⟨⟨_, rfl, Or.inr ⟨_, rfl⟩⟩, by decide⟩
  | 6, _ => ⟨⟨_, rfl, Or.inr ⟨_, rfl⟩⟩, by decide⟩
  | 7, _ => ⟨rfl, by decide⟩
  | 8, _ => ⟨rfl, by decide⟩
  | 9, _ => ⟨rfl, by decide⟩
  | 10, _ => ⟨rfl, by decide⟩
  | 11, _ => ⟨rfl, by decide⟩
  | 12, _ => ⟨⟨_, rfl, Or.inr ⟨_, rfl⟩⟩, by decide⟩
  | 13, _ => ⟨rfl, by decide⟩
  | 14, _ => ⟨rfl, by decide⟩
  | 15, _ => ⟨⟨_, rfl, Or.inr ⟨_, rfl⟩⟩, by decide⟩
  | 16, _ => ⟨⟨_, rfl, Or.inr ⟨_, rfl⟩⟩, by decide⟩
  | 17, _ => ⟨⟨_, rfl, Or.inr ⟨_, rfl⟩⟩, by decide⟩
  | 18, _ => ⟨⟨_, rfl, Or.inr ⟨_, rfl⟩⟩, by decide⟩
  | 19, _ => ⟨⟨_, rfl, Or.inr ⟨_, rfl⟩⟩, by decide⟩
  | 20, _ => ⟨⟨_, rfl, Or.inr ⟨_, rfl⟩⟩, by decide⟩
  | 21, _ => ⟨⟨_, rfl, Or.inr ⟨_, rfl⟩⟩, by decide⟩
  | 22, _ => ⟨⟨_, rfl, Or.inr ⟨_, rfl⟩⟩, by decide⟩
  | 23, _ => ⟨⟨_, rfl, Or.inr ⟨_, rfl⟩⟩, by decide⟩
  | 24, _ => ⟨⟨_, rfl, Or.inr ⟨_, rfl⟩⟩, by decide⟩
  | 25, _ => ⟨⟨_, rfl, Or.inr ⟨_, rfl⟩⟩, by decide⟩
  | 26, _ => ⟨⟨_, rfl, Or.inr ⟨_, rfl⟩⟩, by decide⟩
  | 27, _ => ⟨⟨_, rfl, Or.inr ⟨_, rfl⟩⟩, by decide⟩
  | 28, _ => ⟨⟨_, rfl, Or.inr ⟨_, rfl⟩⟩, by decide⟩
  | 29, _ => ⟨⟨_, rfl, Or.inr ⟨_, rfl⟩⟩, by decide⟩
  | 30, _ => ⟨⟨_, rfl, Or.inr ⟨_, rfl⟩⟩, by decide⟩
  | 31, _ => ⟨⟨_, rfl, Or.inr ⟨_, rfl⟩⟩, by decide⟩
  | 32, _ => ⟨⟨_, rfl, Or.inr ⟨_, rfl⟩⟩, by decide⟩
  | 33, _ => ⟨rfl, by decide⟩
  | 34, _ => ⟨rfl, by decide⟩
  | 35, _ => ⟨rfl, by decide⟩
  | 36, _ => ⟨rfl, by decide⟩
  | 37, _ => ⟨rfl, by decide⟩
  | 38, _ => ⟨⟨_, rfl, Or.inr ⟨_, rfl⟩⟩, by decide⟩
  | 39, _ => ⟨⟨_, rfl, Or.inr ⟨_, rfl⟩⟩, by decide⟩
  | 40, _ => ⟨rfl, by decide⟩
  | 41, _ => ⟨⟨_, rfl, Or.inr ⟨_, rfl⟩⟩, by decide⟩
  | 42, _ => ⟨⟨_, rfl, Or.inr ⟨_, rfl⟩⟩, by decide⟩
  | 43, _ => ⟨rfl, by decide⟩
  | 44, _ => ⟨⟨_, rfl, Or.inr ⟨_, rfl⟩⟩, by decide⟩
  | 45, _ => ⟨⟨_, rfl, Or.inr ⟨_, rfl⟩⟩, by decide⟩
  | 46, _ => ⟨⟨_, rfl, Or.inr ⟨_, rfl⟩⟩, by decide⟩
  | 47, _ => ⟨rfl, by decide⟩
  | 48, _ => ⟨⟨_, rfl, Or.inr ⟨_, rfl⟩⟩, by decide⟩
  | 49, _ => ⟨rfl, by decide⟩
  | 50, _ => ⟨rfl, by decide⟩
  | 51, _ => ⟨⟨_, rfl, Or.inr ⟨_, rfl⟩⟩, by decide⟩
  | 52, _ => ⟨⟨_, rfl, Or.inr ⟨_, rfl⟩⟩, by decide⟩
  | 53, _ => ⟨⟨_, rfl, Or.inr ⟨_, rfl⟩⟩, by decide⟩
  | 54, _ => ⟨rfl, by decide⟩
  | 55, _ => ⟨⟨_, rfl, Or.inr ⟨_, rfl⟩⟩, by decide⟩
  | 56, _ => ⟨⟨_, rfl, Or.inr ⟨_, rfl⟩⟩, by decide⟩
  | 57, _ => ⟨rfl, by decide⟩
  | k + 58, hk => absurd hk (by omega)
theorem am_kp1 : ∀ k, k < 58 → parseFieldDescriptor (am_T1 k).2.2.1 = some (am_ft 1 k) := by decide +kernel
theorem am_kd1 : ∀ a, a < 58 → ∀ b, b < 58 → a ≠ b → (am_T1 a).2.1 ≠ (am_T1 b).2.1 := by decide +kernel
theorem am_kc1 : am_okK 1 ("PatternTreesModel", am_T1, 58) := ⟨fun w hw => by
    obtain ⟨k, hk, rfl⟩ := List.mem_map.mp hw
    exact am_kw1 k (List.mem_range.mp hk), am_kp1, am_kd1, am_kr1⟩
theorem am_y2_0 : am_gw (Cond.lays "PatternTrees$Asks" "PatternTrees$Asks" "spots" "I") := am_g1 194 rfl rfl
theorem am_y2_1 : am_gw (Cond.lays "PatternTrees$Asks" "PatternTrees$Asks" "count" "I") := am_g1 196 rfl rfl
theorem am_y2_2 : am_gw (Cond.laysFinal "PatternTrees$Asks" "PatternTrees$Asks" "spotPlace" "[I") := am_g1 198 rfl rfl
theorem am_y2_3 : am_gw (Cond.laysFinal "PatternTrees$Asks" "PatternTrees$Asks" "spot" "[I") := am_g1 200 rfl rfl
theorem am_y2_4 : am_gw (Cond.laysFinal "PatternTrees$Asks" "PatternTrees$Asks" "answer" "[I") := am_g1 202 rfl rfl
theorem am_y2_5 : am_gw (Cond.laysFinal "PatternTrees$Asks" "PatternTrees$Asks" "begin" "[I") := am_g1 204 rfl rfl
theorem am_y2_6 : am_gw (Cond.laysFinal "PatternTrees$Asks" "PatternTrees$Asks" "wanted" "[I") := am_g1 206 rfl rfl
set_option maxRecDepth 20000 in
theorem am_kw2 : ∀ k, k < 7 → am_gw (u_lay "PatternTrees$Asks" am_T2 k) := fun k hk => match k, hk with
  | 0, _ => am_y2_0
  | 1, _ => am_y2_1
  | 2, _ => am_y2_2
  | 3, _ => am_y2_3
  | 4, _ => am_y2_4
  | 5, _ => am_y2_5
  | 6, _ => am_y2_6
  | k + 7, hk => absurd hk (by omega)
set_option maxRecDepth 20000 in
theorem am_kr2 : ∀ k, k < 7 → am_rcT (match am_fty 2 k with | 0 => 1 | 1 => 4 | t => t) (some (am_ft 2 k)) ∧ am_fty 2 k ≤ 3 := fun k hk => match k, hk with
  | 0, _ => ⟨rfl, by decide⟩
  | 1, _ => ⟨rfl, by decide⟩
  | 2, _ => ⟨⟨_, rfl, Or.inr ⟨_, rfl⟩⟩, by decide⟩
  | 3, _ => ⟨⟨_, rfl, Or.inr ⟨_, rfl⟩⟩, by decide⟩
  | 4, _ => ⟨⟨_, rfl, Or.inr ⟨_, rfl⟩⟩, by decide⟩
  | 5, _ => ⟨⟨_, rfl, Or.inr ⟨_, rfl⟩⟩, by decide⟩
  | 6, _ => ⟨⟨_, rfl, Or.inr ⟨_, rfl⟩⟩, by decide⟩
  | k + 7, hk => absurd hk (by omega)
theorem am_kp2 : ∀ k, k < 7 → parseFieldDescriptor (am_T2 k).2.2.1 = some (am_ft 2 k) := by decide +kernel
theorem am_kd2 : ∀ a, a < 7 → ∀ b, b < 7 → a ≠ b → (am_T2 a).2.1 ≠ (am_T2 b).2.1 := by decide +kernel
theorem am_kc2 : am_okK 2 ("PatternTrees$Asks", am_T2, 7) := ⟨fun w hw => by
    obtain ⟨k, hk, rfl⟩ := List.mem_map.mp hw
    exact am_kw2 k (List.mem_range.mp hk), am_kp2, am_kd2, am_kr2⟩
theorem am_y3_0 : am_gw (Cond.laysFinal "PatternTrees$Form" "PatternTrees$Form" "tokens" "LPatternTrees$Tokens;") := am_g1 69 rfl rfl
set_option maxRecDepth 20000 in
theorem am_kw3 : ∀ k, k < 1 → am_gw (u_lay "PatternTrees$Form" am_T3 k) := fun k hk => match k, hk with
  | 0, _ => am_y3_0
  | k + 1, hk => absurd hk (by omega)
set_option maxRecDepth 20000 in
theorem am_kr3 : ∀ k, k < 1 → am_rcT (match am_fty 3 k with | 0 => 1 | 1 => 4 | t => t) (some (am_ft 3 k)) ∧ am_fty 3 k ≤ 3 := fun k hk => match k, hk with
  | 0, _ => ⟨⟨_, rfl, Or.inl ⟨_, rfl⟩⟩, by decide⟩
  | k + 1, hk => absurd hk (by omega)
theorem am_kp3 : ∀ k, k < 1 → parseFieldDescriptor (am_T3 k).2.2.1 = some (am_ft 3 k) := by decide +kernel
theorem am_kd3 : ∀ a, a < 1 → ∀ b, b < 1 → a ≠ b → (am_T3 a).2.1 ≠ (am_T3 b).2.1 := by decide +kernel
theorem am_kc3 : am_okK 3 ("PatternTrees$Form", am_T3, 1) := ⟨fun w hw => by
    obtain ⟨k, hk, rfl⟩ := List.mem_map.mp hw
    exact am_kw3 k (List.mem_range.mp hk), am_kp3, am_kd3, am_kr3⟩
theorem am_y4_0 : am_gw (Cond.lays "PatternTrees$Line" "PatternTrees$Line" "length" "I") := am_g1 173 rfl rfl
theorem am_y4_1 : am_gw (Cond.laysFinal "PatternTrees$Line" "PatternTrees$Line" "bytes" "[I") := am_g1 175 rfl rfl
set_option maxRecDepth 20000 in
theorem am_kw4 : ∀ k, k < 2 → am_gw (u_lay "PatternTrees$Line" am_T4 k) := fun k hk => match k, hk with
  | 0, _ => am_y4_0
  | 1, _ => am_y4_1
  | k + 2, hk => absurd hk (by omega)
set_option maxRecDepth 20000 in
theorem am_kr4 : ∀ k, k < 2 → am_rcT (match am_fty 4 k with | 0 => 1 | 1 => 4 | t => t) (some (am_ft 4 k)) ∧ am_fty 4 k ≤ 3 := fun k hk => match k, hk with
  | 0, _ => ⟨rfl, by decide⟩
  | 1, _ => ⟨⟨_, rfl, Or.inr ⟨_, rfl⟩⟩, by decide⟩
  | k + 2, hk => absurd hk (by omega)
theorem am_kp4 : ∀ k, k < 2 → parseFieldDescriptor (am_T4 k).2.2.1 = some (am_ft 4 k) := by decide +kernel
theorem am_kd4 : ∀ a, a < 2 → ∀ b, b < 2 → a ≠ b → (am_T4 a).2.1 ≠ (am_T4 b).2.1 := by decide +kernel
theorem am_kc4 : am_okK 4 ("PatternTrees$Line", am_T4, 2) := ⟨fun w hw => by
    obtain ⟨k, hk, rfl⟩ := List.mem_map.mp hw
    exact am_kw4 k (List.mem_range.mp hk), am_kp4, am_kd4, am_kr4⟩
theorem am_y5_0 : am_gw (Cond.laysFinal "PatternTrees$Rules" "PatternTrees$Rules" "types" "LPatternTrees$Types;") := am_g2 86 rfl rfl
theorem am_y5_1 : am_gw (Cond.laysFinal "PatternTrees$Rules" "PatternTrees$Rules" "pats" "LPatternTrees$Terms;") := am_g2 88 rfl rfl
theorem am_y5_2 : am_gw (Cond.lays "PatternTrees$Rules" "PatternTrees$Rules" "columns" "I") := am_g2 90 rfl rfl
theorem am_y5_3 : am_gw (Cond.lays "PatternTrees$Rules" "PatternTrees$Rules" "rows" "I") := am_g2 92 rfl rfl
theorem am_y5_4 : am_gw (Cond.lays "PatternTrees$Rules" "PatternTrees$Rules" "plainRows" "I") := am_g2 94 rfl rfl
theorem am_y5_5 : am_gw (Cond.laysFinal "PatternTrees$Rules" "PatternTrees$Rules" "head" "[I") := am_g2 96 rfl rfl
theorem am_y5_6 : am_gw (Cond.laysFinal "PatternTrees$Rules" "PatternTrees$Rules" "columnType" "[I") := am_g2 98 rfl rfl
theorem am_y5_7 : am_gw (Cond.laysFinal "PatternTrees$Rules" "PatternTrees$Rules" "columnLetter" "[I") := am_g2 100 rfl rfl
theorem am_y5_8 : am_gw (Cond.laysFinal "PatternTrees$Rules" "PatternTrees$Rules" "columnAt" "[I") := am_g2 102 rfl rfl
theorem am_y5_9 : am_gw (Cond.laysFinal "PatternTrees$Rules" "PatternTrees$Rules" "endAt" "[I") := am_g2 104 rfl rfl
set_option maxRecDepth 20000 in
theorem am_kw5 : ∀ k, k < 10 → am_gw (u_lay "PatternTrees$Rules" am_T5 k) := fun k hk => match k, hk with
  | 0, _ => am_y5_0
  | 1, _ => am_y5_1
  | 2, _ => am_y5_2
  | 3, _ => am_y5_3
  | 4, _ => am_y5_4
  | 5, _ => am_y5_5
  | 6, _ => am_y5_6
  | 7, _ => am_y5_7
  | 8, _ => am_y5_8
  | 9, _ => am_y5_9
  | k + 10, hk => absurd hk (by omega)
set_option maxRecDepth 20000 in
theorem am_kr5 : ∀ k, k < 10 → am_rcT (match am_fty 5 k with | 0 => 1 | 1 => 4 | t => t) (some (am_ft 5 k)) ∧ am_fty 5 k ≤ 3 := fun k hk => match k, hk with
  | 0, _ => ⟨⟨_, rfl, Or.inl ⟨_, rfl⟩⟩, by decide⟩
  | 1, _ => ⟨⟨_, rfl, Or.inl ⟨_, rfl⟩⟩, by decide⟩
  | 2, _ => ⟨rfl, by decide⟩
  | 3, _ => ⟨rfl, by decide⟩
  | 4, _ => ⟨rfl, by decide⟩
  | 5, _ => ⟨⟨_, rfl, Or.inr ⟨_, rfl⟩⟩, by decide⟩
  | 6, _ => ⟨⟨_, rfl, Or.inr ⟨_, rfl⟩⟩, by decide⟩
  | 7, _ => ⟨⟨_, rfl, Or.inr ⟨_, rfl⟩⟩, by decide⟩
  | 8, _ => ⟨⟨_, rfl, Or.inr ⟨_, rfl⟩⟩, by decide⟩
  | 9, _ => ⟨⟨_, rfl, Or.inr ⟨_, rfl⟩⟩, by decide⟩
  | k + 10, hk => absurd hk (by omega)
theorem am_kp5 : ∀ k, k < 10 → parseFieldDescriptor (am_T5 k).2.2.1 = some (am_ft 5 k) := by decide +kernel
theorem am_kd5 : ∀ a, a < 10 → ∀ b, b < 10 → a ≠ b → (am_T5 a).2.1 ≠ (am_T5 b).2.1 := by decide +kernel
theorem am_kc5 : am_okK 5 ("PatternTrees$Rules", am_T5, 10) := ⟨fun w hw => by
    obtain ⟨k, hk, rfl⟩ := List.mem_map.mp hw
    exact am_kw5 k (List.mem_range.mp hk), am_kp5, am_kd5, am_kr5⟩
theorem am_y6_0 : am_gw (Cond.laysFinal "PatternTrees$Search" "PatternTrees$Search" "line" "LPatternTrees$Line;") := am_g1 214 rfl rfl
theorem am_y6_1 : am_gw (Cond.laysFinal "PatternTrees$Search" "PatternTrees$Search" "asks" "LPatternTrees$Asks;") := am_g1 216 rfl rfl
theorem am_y6_2 : am_gw (Cond.laysFinal "PatternTrees$Search" "PatternTrees$Search" "settled" "[I") := am_g1 218 rfl rfl
theorem am_y6_3 : am_gw (Cond.lays "PatternTrees$Search" "PatternTrees$Search" "exampleSought" "Z") := am_g1 220 rfl rfl
set_option maxRecDepth 20000 in
theorem am_kw6 : ∀ k, k < 4 → am_gw (u_lay "PatternTrees$Search" am_T6 k) := fun k hk => match k, hk with
  | 0, _ => am_y6_0
  | 1, _ => am_y6_1
  | 2, _ => am_y6_2
  | 3, _ => am_y6_3
  | k + 4, hk => absurd hk (by omega)
set_option maxRecDepth 20000 in
theorem am_kr6 : ∀ k, k < 4 → am_rcT (match am_fty 6 k with | 0 => 1 | 1 => 4 | t => t) (some (am_ft 6 k)) ∧ am_fty 6 k ≤ 3 := fun k hk => match k, hk with
  | 0, _ => ⟨⟨_, rfl, Or.inl ⟨_, rfl⟩⟩, by decide⟩
  | 1, _ => ⟨⟨_, rfl, Or.inl ⟨_, rfl⟩⟩, by decide⟩
  | 2, _ => ⟨⟨_, rfl, Or.inr ⟨_, rfl⟩⟩, by decide⟩
  | 3, _ => ⟨rfl, by decide⟩
  | k + 4, hk => absurd hk (by omega)
theorem am_kp6 : ∀ k, k < 4 → parseFieldDescriptor (am_T6 k).2.2.1 = some (am_ft 6 k) := by decide +kernel
theorem am_kd6 : ∀ a, a < 4 → ∀ b, b < 4 → a ≠ b → (am_T6 a).2.1 ≠ (am_T6 b).2.1 := by decide +kernel
theorem am_kc6 : am_okK 6 ("PatternTrees$Search", am_T6, 4) := ⟨fun w hw => by
    obtain ⟨k, hk, rfl⟩ := List.mem_map.mp hw
    exact am_kw6 k (List.mem_range.mp hk), am_kp6, am_kd6, am_kr6⟩
theorem am_y7_0 : am_gw (Cond.lays "PatternTrees$Terms" "PatternTrees$Terms" "count" "I") := am_g1 119 rfl rfl
theorem am_y7_1 : am_gw (Cond.lays "PatternTrees$Terms" "PatternTrees$Terms" "head" "I") := am_g1 121 rfl rfl
theorem am_y7_2 : am_gw (Cond.laysFinal "PatternTrees$Terms" "PatternTrees$Terms" "kind" "[I") := am_g1 123 rfl rfl
theorem am_y7_3 : am_gw (Cond.laysFinal "PatternTrees$Terms" "PatternTrees$Terms" "at" "[I") := am_g1 125 rfl rfl
theorem am_y7_4 : am_gw (Cond.laysFinal "PatternTrees$Terms" "PatternTrees$Terms" "nameAt" "[I") := am_g1 127 rfl rfl
theorem am_y7_5 : am_gw (Cond.laysFinal "PatternTrees$Terms" "PatternTrees$Terms" "closeAt" "[I") := am_g1 129 rfl rfl
theorem am_y7_6 : am_gw (Cond.laysFinal "PatternTrees$Terms" "PatternTrees$Terms" "name" "[J") := am_g1 131 rfl rfl
theorem am_y7_7 : am_gw (Cond.laysFinal "PatternTrees$Terms" "PatternTrees$Terms" "number" "[I") := am_g1 133 rfl rfl
theorem am_y7_8 : am_gw (Cond.laysFinal "PatternTrees$Terms" "PatternTrees$Terms" "con" "[I") := am_g1 135 rfl rfl
theorem am_y7_9 : am_gw (Cond.laysFinal "PatternTrees$Terms" "PatternTrees$Terms" "first" "[I") := am_g1 137 rfl rfl
theorem am_y7_10 : am_gw (Cond.laysFinal "PatternTrees$Terms" "PatternTrees$Terms" "next" "[I") := am_g1 139 rfl rfl
set_option maxRecDepth 20000 in
theorem am_kw7 : ∀ k, k < 11 → am_gw (u_lay "PatternTrees$Terms" am_T7 k) := fun k hk => match k, hk with
  | 0, _ => am_y7_0
  | 1, _ => am_y7_1
  | 2, _ => am_y7_2
  | 3, _ => am_y7_3
  | 4, _ => am_y7_4
  | 5, _ => am_y7_5
  | 6, _ => am_y7_6
  | 7, _ => am_y7_7
  | 8, _ => am_y7_8
  | 9, _ => am_y7_9
  | 10, _ => am_y7_10
  | k + 11, hk => absurd hk (by omega)
set_option maxRecDepth 20000 in
theorem am_kr7 : ∀ k, k < 11 → am_rcT (match am_fty 7 k with | 0 => 1 | 1 => 4 | t => t) (some (am_ft 7 k)) ∧ am_fty 7 k ≤ 3 := fun k hk => match k, hk with
  | 0, _ => ⟨rfl, by decide⟩
  | 1, _ => ⟨rfl, by decide⟩
  | 2, _ => ⟨⟨_, rfl, Or.inr ⟨_, rfl⟩⟩, by decide⟩
  | 3, _ => ⟨⟨_, rfl, Or.inr ⟨_, rfl⟩⟩, by decide⟩
  | 4, _ => ⟨⟨_, rfl, Or.inr ⟨_, rfl⟩⟩, by decide⟩
  | 5, _ => ⟨⟨_, rfl, Or.inr ⟨_, rfl⟩⟩, by decide⟩
  | 6, _ => ⟨⟨_, rfl, Or.inr ⟨_, rfl⟩⟩, by decide⟩
  | 7, _ => ⟨⟨_, rfl, Or.inr ⟨_, rfl⟩⟩, by decide⟩
  | 8, _ => ⟨⟨_, rfl, Or.inr ⟨_, rfl⟩⟩, by decide⟩
  | 9, _ => ⟨⟨_, rfl, Or.inr ⟨_, rfl⟩⟩, by decide⟩
  | 10, _ => ⟨⟨_, rfl, Or.inr ⟨_, rfl⟩⟩, by decide⟩
  | k + 11, hk => absurd hk (by omega)
theorem am_kp7 : ∀ k, k < 11 → parseFieldDescriptor (am_T7 k).2.2.1 = some (am_ft 7 k) := by decide +kernel
theorem am_kd7 : ∀ a, a < 11 → ∀ b, b < 11 → a ≠ b → (am_T7 a).2.1 ≠ (am_T7 b).2.1 := by decide +kernel
theorem am_kc7 : am_okK 7 ("PatternTrees$Terms", am_T7, 11) := ⟨fun w hw => by
    obtain ⟨k, hk, rfl⟩ := List.mem_map.mp hw
    exact am_kw7 k (List.mem_range.mp hk), am_kp7, am_kd7, am_kr7⟩
theorem am_y8_0 : am_gw (Cond.laysFinal "PatternTrees$Tokens" "PatternTrees$Tokens" "bytes" "[I") := am_g1 48 rfl rfl
theorem am_y8_1 : am_gw (Cond.lays "PatternTrees$Tokens" "PatternTrees$Tokens" "length" "I") := am_g1 50 rfl rfl
theorem am_y8_2 : am_gw (Cond.laysFinal "PatternTrees$Tokens" "PatternTrees$Tokens" "kinds" "[I") := am_g1 52 rfl rfl
theorem am_y8_3 : am_gw (Cond.laysFinal "PatternTrees$Tokens" "PatternTrees$Tokens" "places" "[I") := am_g1 54 rfl rfl
theorem am_y8_4 : am_gw (Cond.laysFinal "PatternTrees$Tokens" "PatternTrees$Tokens" "numbers" "[I") := am_g1 56 rfl rfl
theorem am_y8_5 : am_gw (Cond.laysFinal "PatternTrees$Tokens" "PatternTrees$Tokens" "names" "[J") := am_g1 58 rfl rfl
theorem am_y8_6 : am_gw (Cond.lays "PatternTrees$Tokens" "PatternTrees$Tokens" "count" "I") := am_g1 60 rfl rfl
theorem am_y8_7 : am_gw (Cond.lays "PatternTrees$Tokens" "PatternTrees$Tokens" "current" "I") := am_g1 62 rfl rfl
set_option maxRecDepth 20000 in
theorem am_kw8 : ∀ k, k < 8 → am_gw (u_lay "PatternTrees$Tokens" am_T8 k) := fun k hk => match k, hk with
  | 0, _ => am_y8_0
  | 1, _ => am_y8_1
  | 2, _ => am_y8_2
  | 3, _ => am_y8_3
  | 4, _ => am_y8_4
  | 5, _ => am_y8_5
  | 6, _ => am_y8_6
  | 7, _ => am_y8_7
  | k + 8, hk => absurd hk (by omega)
set_option maxRecDepth 20000 in
theorem am_kr8 : ∀ k, k < 8 → am_rcT (match am_fty 8 k with | 0 => 1 | 1 => 4 | t => t) (some (am_ft 8 k)) ∧ am_fty 8 k ≤ 3 := fun k hk => match k, hk with
  | 0, _ => ⟨⟨_, rfl, Or.inr ⟨_, rfl⟩⟩, by decide⟩
  | 1, _ => ⟨rfl, by decide⟩
  | 2, _ => ⟨⟨_, rfl, Or.inr ⟨_, rfl⟩⟩, by decide⟩
  | 3, _ => ⟨⟨_, rfl, Or.inr ⟨_, rfl⟩⟩, by decide⟩
  | 4, _ => ⟨⟨_, rfl, Or.inr ⟨_, rfl⟩⟩, by decide⟩
  | 5, _ => ⟨⟨_, rfl, Or.inr ⟨_, rfl⟩⟩, by decide⟩
  | 6, _ => ⟨rfl, by decide⟩
  | 7, _ => ⟨rfl, by decide⟩
  | k + 8, hk => absurd hk (by omega)
theorem am_kp8 : ∀ k, k < 8 → parseFieldDescriptor (am_T8 k).2.2.1 = some (am_ft 8 k) := by decide +kernel
theorem am_kd8 : ∀ a, a < 8 → ∀ b, b < 8 → a ≠ b → (am_T8 a).2.1 ≠ (am_T8 b).2.1 := by decide +kernel
theorem am_kc8 : am_okK 8 ("PatternTrees$Tokens", am_T8, 8) := ⟨fun w hw => by
    obtain ⟨k, hk, rfl⟩ := List.mem_map.mp hw
    exact am_kw8 k (List.mem_range.mp hk), am_kp8, am_kd8, am_kr8⟩
theorem am_y9_0 : am_gw (Cond.lays "PatternTrees$Trial" "PatternTrees$Trial" "count" "I") := am_g1 152 rfl rfl
theorem am_y9_1 : am_gw (Cond.laysFinal "PatternTrees$Trial" "PatternTrees$Trial" "places" "[I") := am_g1 154 rfl rfl
set_option maxRecDepth 20000 in
theorem am_kw9 : ∀ k, k < 2 → am_gw (u_lay "PatternTrees$Trial" am_T9 k) := fun k hk => match k, hk with
  | 0, _ => am_y9_0
  | 1, _ => am_y9_1
  | k + 2, hk => absurd hk (by omega)
set_option maxRecDepth 20000 in
theorem am_kr9 : ∀ k, k < 2 → am_rcT (match am_fty 9 k with | 0 => 1 | 1 => 4 | t => t) (some (am_ft 9 k)) ∧ am_fty 9 k ≤ 3 := fun k hk => match k, hk with
  | 0, _ => ⟨rfl, by decide⟩
  | 1, _ => ⟨⟨_, rfl, Or.inr ⟨_, rfl⟩⟩, by decide⟩
  | k + 2, hk => absurd hk (by omega)
theorem am_kp9 : ∀ k, k < 2 → parseFieldDescriptor (am_T9 k).2.2.1 = some (am_ft 9 k) := by decide +kernel
theorem am_kd9 : ∀ a, a < 2 → ∀ b, b < 2 → a ≠ b → (am_T9 a).2.1 ≠ (am_T9 b).2.1 := by decide +kernel
theorem am_kc9 : am_okK 9 ("PatternTrees$Trial", am_T9, 2) := ⟨fun w hw => by
    obtain ⟨k, hk, rfl⟩ := List.mem_map.mp hw
    exact am_kw9 k (List.mem_range.mp hk), am_kp9, am_kd9, am_kr9⟩
theorem am_y10_0 : am_gw (Cond.lays "PatternTrees$Types" "PatternTrees$Types" "count" "I") := am_g2 24 rfl rfl
theorem am_y10_1 : am_gw (Cond.lays "PatternTrees$Types" "PatternTrees$Types" "conCount" "I") := am_g2 26 rfl rfl
theorem am_y10_2 : am_gw (Cond.laysFinal "PatternTrees$Types" "PatternTrees$Types" "isNew" "[Z") := am_g2 28 rfl rfl
theorem am_y10_3 : am_gw (Cond.laysFinal "PatternTrees$Types" "PatternTrees$Types" "firstCon" "[I") := am_g2 30 rfl rfl
theorem am_y10_4 : am_gw (Cond.laysFinal "PatternTrees$Types" "PatternTrees$Types" "consOf" "[I") := am_g2 32 rfl rfl
theorem am_y10_5 : am_gw (Cond.laysFinal "PatternTrees$Types" "PatternTrees$Types" "conType" "[I") := am_g2 34 rfl rfl
theorem am_y10_6 : am_gw (Cond.laysFinal "PatternTrees$Types" "PatternTrees$Types" "arity" "[I") := am_g2 36 rfl rfl
theorem am_y10_7 : am_gw (Cond.laysFinal "PatternTrees$Types" "PatternTrees$Types" "conName" "[J") := am_g2 38 rfl rfl
theorem am_y10_8 : am_gw (Cond.laysFinal "PatternTrees$Types" "PatternTrees$Types" "argType" "[I") := am_g2 40 rfl rfl
theorem am_y10_9 : am_gw (Cond.laysFinal "PatternTrees$Types" "PatternTrees$Types" "letter" "[I") := am_g2 42 rfl rfl
theorem am_y10_10 : am_gw (Cond.laysFinal "PatternTrees$Types" "PatternTrees$Types" "letterAt" "[I") := am_g2 44 rfl rfl
theorem am_y10_11 : am_gw (Cond.laysFinal "PatternTrees$Types" "PatternTrees$Types" "conAt" "[I") := am_g2 46 rfl rfl
theorem am_y10_12 : am_gw (Cond.laysFinal "PatternTrees$Types" "PatternTrees$Types" "argLetter" "[I") := am_g2 48 rfl rfl
theorem am_y10_13 : am_gw (Cond.laysFinal "PatternTrees$Types" "PatternTrees$Types" "argAt" "[I") := am_g2 50 rfl rfl
theorem am_y10_14 : am_gw (Cond.laysFinal "PatternTrees$Types" "PatternTrees$Types" "typeOfLetter" "[I") := am_g2 52 rfl rfl
set_option maxRecDepth 20000 in
theorem am_kw10 : ∀ k, k < 15 → am_gw (u_lay "PatternTrees$Types" am_T10 k) := fun k hk => match k, hk with
  | 0, _ => am_y10_0
  | 1, _ => am_y10_1
  | 2, _ => am_y10_2
  | 3, _ => am_y10_3
  | 4, _ => am_y10_4
  | 5, _ => am_y10_5
  | 6, _ => am_y10_6
  | 7, _ => am_y10_7
  | 8, _ => am_y10_8
  | 9, _ => am_y10_9
  | 10, _ => am_y10_10
  | 11, _ => am_y10_11
  | 12, _ => am_y10_12
  | 13, _ => am_y10_13
  | 14, _ => am_y10_14
  | k + 15, hk => absurd hk (by omega)
set_option maxRecDepth 20000 in
theorem am_kr10 : ∀ k, k < 15 → am_rcT (match am_fty 10 k with | 0 => 1 | 1 => 4 | t => t) (some (am_ft 10 k)) ∧ am_fty 10 k ≤ 3 := fun k hk => match k, hk with
  | 0, _ => ⟨rfl, by decide⟩
  | 1, _ => ⟨rfl, by decide⟩
  | 2, _ => ⟨⟨_, rfl, Or.inr ⟨_, rfl⟩⟩, by decide⟩
  | 3, _ => ⟨⟨_, rfl, Or.inr ⟨_, rfl⟩⟩, by decide⟩
  | 4, _ => ⟨⟨_, rfl, Or.inr ⟨_, rfl⟩⟩, by decide⟩
  | 5, _ => ⟨⟨_, rfl, Or.inr ⟨_, rfl⟩⟩, by decide⟩
  | 6, _ => ⟨⟨_, rfl, Or.inr ⟨_, rfl⟩⟩, by decide⟩
  | 7, _ => ⟨⟨_, rfl, Or.inr ⟨_, rfl⟩⟩, by decide⟩
  | 8, _ => ⟨⟨_, rfl, Or.inr ⟨_, rfl⟩⟩, by decide⟩
  | 9, _ => ⟨⟨_, rfl, Or.inr ⟨_, rfl⟩⟩, by decide⟩
  | 10, _ => ⟨⟨_, rfl, Or.inr ⟨_, rfl⟩⟩, by decide⟩
  | 11, _ => ⟨⟨_, rfl, Or.inr ⟨_, rfl⟩⟩, by decide⟩
  | 12, _ => ⟨⟨_, rfl, Or.inr ⟨_, rfl⟩⟩, by decide⟩
  | 13, _ => ⟨⟨_, rfl, Or.inr ⟨_, rfl⟩⟩, by decide⟩
  | 14, _ => ⟨⟨_, rfl, Or.inr ⟨_, rfl⟩⟩, by decide⟩
  | k + 15, hk => absurd hk (by omega)
theorem am_kp10 : ∀ k, k < 15 → parseFieldDescriptor (am_T10 k).2.2.1 = some (am_ft 10 k) := by decide +kernel
theorem am_kd10 : ∀ a, a < 15 → ∀ b, b < 15 → a ≠ b → (am_T10 a).2.1 ≠ (am_T10 b).2.1 := by decide +kernel
theorem am_kc10 : am_okK 10 ("PatternTrees$Types", am_T10, 15) := ⟨fun w hw => by
    obtain ⟨k, hk, rfl⟩ := List.mem_map.mp hw
    exact am_kw10 k (List.mem_range.mp hk), am_kp10, am_kd10, am_kr10⟩
theorem am_hOK : ∀ (ci : Nat) (q : vw_C), am_cls[ci]? = some q → am_okK ci q := by
  intro ci q h
  have hlt : ci < 11 := (List.getElem?_eq_some_iff.mp h).1
  match ci, hlt, h with
  | 0, _, h => cases h; exact am_kc0
  | 1, _, h => cases h; exact am_kc1
  | 2, _, h => cases h; exact am_kc2
  | 3, _, h => cases h; exact am_kc3
  | 4, _, h => cases h; exact am_kc4
  | 5, _, h => cases h; exact am_kc5
  | 6, _, h => cases h; exact am_kc6
  | 7, _, h => cases h; exact am_kc7
  | 8, _, h => cases h; exact am_kc8
  | 9, _, h => cases h; exact am_kc9
  | 10, _, h => cases h; exact am_kc10
  | ci + 11, hlt, _ => omega
theorem am_snd {G : am_G} {Zc : am_Z} {l : Launch} : am_pre (am_Sem G Zc l) := am_sound am_chk am_hok am_hOK

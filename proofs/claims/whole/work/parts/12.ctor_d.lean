theorem wd_aI : Cond.arrayClass .int ∈ lgG := (mG 113 (by decide +kernel) rfl)
theorem wd_aZ : Cond.arrayClass .boolean ∈ lgG := (mG 386 (by decide +kernel) rfl)
theorem fp_SeamCell_10 : FPT R_SeamCell 10 9 0 true (.object "SeamCell$Cell") := ⟨(R_SeamCell, T_SeamCell, 7), ty_SeamCell, rfl, in_SeamCell, by decide, (mG 387 (by decide +kernel) rfl), tyk_SeamCell, nm_SeamCell, rfl, fun _ => rfl, by decide +kernel⟩
theorem fp_SeamCell_21 : FPT R_SeamCell 21 9 1 true (.object "SeamCell$Part") := ⟨(R_SeamCell, T_SeamCell, 7), ty_SeamCell, rfl, in_SeamCell, by decide, (mG 388 (by decide +kernel) rfl), tyk_SeamCell, nm_SeamCell, rfl, fun _ => rfl, by decide +kernel⟩
theorem fp_SeamCell_28 : FPT R_SeamCell 28 9 2 true (.object "SeamCell$Pace") := ⟨(R_SeamCell, T_SeamCell, 7), ty_SeamCell, rfl, in_SeamCell, by decide, (mG 389 (by decide +kernel) rfl), tyk_SeamCell, nm_SeamCell, rfl, fun _ => rfl, by decide +kernel⟩
theorem fp_SeamCell_37 : FPT R_SeamCell 37 9 3 true (.object "SeamCell$Plan") := ⟨(R_SeamCell, T_SeamCell, 7), ty_SeamCell, rfl, in_SeamCell, by decide, (mG 390 (by decide +kernel) rfl), tyk_SeamCell, nm_SeamCell, rfl, fun _ => rfl, by decide +kernel⟩
theorem fp_SeamCell_44 : FPT R_SeamCell 44 9 4 true (.object "SeamCell$Search") := ⟨(R_SeamCell, T_SeamCell, 7), ty_SeamCell, rfl, in_SeamCell, by decide, (mG 391 (by decide +kernel) rfl), tyk_SeamCell, nm_SeamCell, rfl, fun _ => rfl, by decide +kernel⟩
theorem fp_SeamCell_51 : FPT R_SeamCell 51 9 5 true (.object "SeamCell$Touches") := ⟨(R_SeamCell, T_SeamCell, 7), ty_SeamCell, rfl, in_SeamCell, by decide, (mG 392 (by decide +kernel) rfl), tyk_SeamCell, nm_SeamCell, rfl, fun _ => rfl, by decide +kernel⟩
theorem fp_SeamCell_58 : FPT R_SeamCell 58 9 6 true (.object "SeamCell$Crew") := ⟨(R_SeamCell, T_SeamCell, 7), ty_SeamCell, rfl, in_SeamCell, by decide, (mG 393 (by decide +kernel) rfl), tyk_SeamCell, nm_SeamCell, rfl, fun _ => rfl, by decide +kernel⟩
theorem fp_Acts_9 : FPT R_Acts 9 0 0 true (.array .int) := ⟨(R_Acts, T_Acts, 7), ty_Acts, rfl, in_Acts, by decide, (mG 339 (by decide +kernel) rfl), tyk_Acts, nm_Acts, rfl, fun _ => rfl, by decide +kernel⟩
theorem fp_Acts_15 : FPT R_Acts 15 0 1 true (.array .int) := ⟨(R_Acts, T_Acts, 7), ty_Acts, rfl, in_Acts, by decide, (mG 340 (by decide +kernel) rfl), tyk_Acts, nm_Acts, rfl, fun _ => rfl, by decide +kernel⟩
theorem fp_Acts_18 : FPT R_Acts 18 0 2 true (.array .int) := ⟨(R_Acts, T_Acts, 7), ty_Acts, rfl, in_Acts, by decide, (mG 341 (by decide +kernel) rfl), tyk_Acts, nm_Acts, rfl, fun _ => rfl, by decide +kernel⟩
theorem fp_Cell_9 : FPT R_Cell 9 1 4 false .int := ⟨(R_Cell, T_Cell, 12), ty_Cell, rfl, in_Cell, by decide, (mG 76 (by decide +kernel) rfl), tyk_Cell, nm_Cell, rfl, fun h9 => (by cases h9), by decide +kernel⟩
theorem fp_Cell_15 : FPT R_Cell 15 1 5 false .int := ⟨(R_Cell, T_Cell, 12), ty_Cell, rfl, in_Cell, by decide, (mG 78 (by decide +kernel) rfl), tyk_Cell, nm_Cell, rfl, fun h9 => (by cases h9), by decide +kernel⟩
theorem fp_Cell_18 : FPT R_Cell 18 1 6 false .int := ⟨(R_Cell, T_Cell, 12), ty_Cell, rfl, in_Cell, by decide, (mG 80 (by decide +kernel) rfl), tyk_Cell, nm_Cell, rfl, fun h9 => (by cases h9), by decide +kernel⟩
theorem fp_Cell_21 : FPT R_Cell 21 1 8 true (.array .int) := ⟨(R_Cell, T_Cell, 12), ty_Cell, rfl, in_Cell, by decide, (mG 84 (by decide +kernel) rfl), tyk_Cell, nm_Cell, rfl, fun _ => rfl, by decide +kernel⟩
theorem fp_Cell_25 : FPT R_Cell 25 1 9 true (.array .int) := ⟨(R_Cell, T_Cell, 12), ty_Cell, rfl, in_Cell, by decide, (mG 85 (by decide +kernel) rfl), tyk_Cell, nm_Cell, rfl, fun _ => rfl, by decide +kernel⟩
theorem fp_Cell_28 : FPT R_Cell 28 1 10 true (.array .int) := ⟨(R_Cell, T_Cell, 12), ty_Cell, rfl, in_Cell, by decide, (mG 86 (by decide +kernel) rfl), tyk_Cell, nm_Cell, rfl, fun _ => rfl, by decide +kernel⟩
theorem fp_Cell_31 : FPT R_Cell 31 1 11 true (.array .int) := ⟨(R_Cell, T_Cell, 12), ty_Cell, rfl, in_Cell, by decide, (mG 87 (by decide +kernel) rfl), tyk_Cell, nm_Cell, rfl, fun _ => rfl, by decide +kernel⟩
theorem fp_Crew_12 : FPT R_Crew 12 2 0 true (.object "SeamCell$Acts") := ⟨(R_Crew, T_Crew, 5), ty_Crew, rfl, in_Crew, by decide, (mG 366 (by decide +kernel) rfl), tyk_Crew, nm_Crew, rfl, fun _ => rfl, by decide +kernel⟩
theorem fp_Crew_18 : FPT R_Crew 18 2 1 true (.object "SeamCell$Acts") := ⟨(R_Crew, T_Crew, 5), ty_Crew, rfl, in_Crew, by decide, (mG 368 (by decide +kernel) rfl), tyk_Crew, nm_Crew, rfl, fun _ => rfl, by decide +kernel⟩
theorem fp_Crew_21 : FPT R_Crew 21 2 2 true (.array .boolean) := ⟨(R_Crew, T_Crew, 5), ty_Crew, rfl, in_Crew, by decide, (mG 370 (by decide +kernel) rfl), tyk_Crew, nm_Crew, rfl, fun _ => rfl, by decide +kernel⟩
theorem fp_Crew_25 : FPT R_Crew 25 2 3 true (.array .int) := ⟨(R_Crew, T_Crew, 5), ty_Crew, rfl, in_Crew, by decide, (mG 371 (by decide +kernel) rfl), tyk_Crew, nm_Crew, rfl, fun _ => rfl, by decide +kernel⟩
theorem fp_Pace_9 : FPT R_Pace 9 3 1 false .int := ⟨(R_Pace, T_Pace, 7), ty_Pace, rfl, in_Pace, by decide, (mG 186 (by decide +kernel) rfl), tyk_Pace, nm_Pace, rfl, fun h9 => (by cases h9), by decide +kernel⟩
theorem fp_Pace_15 : FPT R_Pace 15 3 2 false .int := ⟨(R_Pace, T_Pace, 7), ty_Pace, rfl, in_Pace, by decide, (mG 188 (by decide +kernel) rfl), tyk_Pace, nm_Pace, rfl, fun h9 => (by cases h9), by decide +kernel⟩
theorem fp_Pace_18 : FPT R_Pace 18 3 3 false .int := ⟨(R_Pace, T_Pace, 7), ty_Pace, rfl, in_Pace, by decide, (mG 190 (by decide +kernel) rfl), tyk_Pace, nm_Pace, rfl, fun h9 => (by cases h9), by decide +kernel⟩
theorem fp_Pace_21 : FPT R_Pace 21 3 4 false .int := ⟨(R_Pace, T_Pace, 7), ty_Pace, rfl, in_Pace, by decide, (mG 192 (by decide +kernel) rfl), tyk_Pace, nm_Pace, rfl, fun h9 => (by cases h9), by decide +kernel⟩
theorem fp_Pace_24 : FPT R_Pace 24 3 5 false .int := ⟨(R_Pace, T_Pace, 7), ty_Pace, rfl, in_Pace, by decide, (mG 194 (by decide +kernel) rfl), tyk_Pace, nm_Pace, rfl, fun h9 => (by cases h9), by decide +kernel⟩
theorem fp_Pace_27 : FPT R_Pace 27 3 6 false .int := ⟨(R_Pace, T_Pace, 7), ty_Pace, rfl, in_Pace, by decide, (mG 198 (by decide +kernel) rfl), tyk_Pace, nm_Pace, rfl, fun h9 => (by cases h9), by decide +kernel⟩
theorem fp_Pace_30 : FPT R_Pace 30 3 0 true (.object "SeamCell$Cell") := ⟨(R_Pace, T_Pace, 7), ty_Pace, rfl, in_Pace, by decide, (mG 185 (by decide +kernel) rfl), tyk_Pace, nm_Pace, rfl, fun _ => rfl, by decide +kernel⟩
theorem fp_Part_11 : FPT R_Part 11 4 1 true (.array (.object "SeamCell$Seam")) := ⟨(R_Part, T_Part, 4), ty_Part, rfl, in_Part, by decide, (mG 161 (by decide +kernel) rfl), tyk_Part, nm_Part, rfl, fun _ => rfl, by decide +kernel⟩
theorem fp_Part_17 : FPT R_Part 17 4 3 false .int := ⟨(R_Part, T_Part, 4), ty_Part, rfl, in_Part, by decide, (mG 168 (by decide +kernel) rfl), tyk_Part, nm_Part, rfl, fun h9 => (by cases h9), by decide +kernel⟩
theorem fp_Part_21 : FPT R_Part 21 4 0 true (.object "SeamCell$Cell") := ⟨(R_Part, T_Part, 4), ty_Part, rfl, in_Part, by decide, (mG 160 (by decide +kernel) rfl), tyk_Part, nm_Part, rfl, fun _ => rfl, by decide +kernel⟩
theorem fp_Plan_9 : FPT R_Plan 9 5 2 true (.array .int) := ⟨(R_Plan, T_Plan, 8), ty_Plan, rfl, in_Plan, by decide, (mG 225 (by decide +kernel) rfl), tyk_Plan, nm_Plan, rfl, fun _ => rfl, by decide +kernel⟩
theorem fp_Plan_15 : FPT R_Plan 15 5 3 true (.array .int) := ⟨(R_Plan, T_Plan, 8), ty_Plan, rfl, in_Plan, by decide, (mG 227 (by decide +kernel) rfl), tyk_Plan, nm_Plan, rfl, fun _ => rfl, by decide +kernel⟩
theorem fp_Plan_18 : FPT R_Plan 18 5 4 true (.array .int) := ⟨(R_Plan, T_Plan, 8), ty_Plan, rfl, in_Plan, by decide, (mG 229 (by decide +kernel) rfl), tyk_Plan, nm_Plan, rfl, fun _ => rfl, by decide +kernel⟩
theorem fp_Plan_21 : FPT R_Plan 21 5 5 true (.array .int) := ⟨(R_Plan, T_Plan, 8), ty_Plan, rfl, in_Plan, by decide, (mG 231 (by decide +kernel) rfl), tyk_Plan, nm_Plan, rfl, fun _ => rfl, by decide +kernel⟩
theorem fp_Plan_24 : FPT R_Plan 24 5 6 true (.array .int) := ⟨(R_Plan, T_Plan, 8), ty_Plan, rfl, in_Plan, by decide, (mG 233 (by decide +kernel) rfl), tyk_Plan, nm_Plan, rfl, fun _ => rfl, by decide +kernel⟩
theorem fp_Plan_27 : FPT R_Plan 27 5 0 true (.object "SeamCell$Part") := ⟨(R_Plan, T_Plan, 8), ty_Plan, rfl, in_Plan, by decide, (mG 223 (by decide +kernel) rfl), tyk_Plan, nm_Plan, rfl, fun _ => rfl, by decide +kernel⟩
theorem fp_Plan_31 : FPT R_Plan 31 5 1 true (.object "SeamCell$Pace") := ⟨(R_Plan, T_Plan, 8), ty_Plan, rfl, in_Plan, by decide, (mG 224 (by decide +kernel) rfl), tyk_Plan, nm_Plan, rfl, fun _ => rfl, by decide +kernel⟩
theorem fp_Search_11 : FPT R_Search 11 7 2 true (.array .int) := ⟨(R_Search, T_Search, 14), ty_Search, rfl, in_Search, by decide, (mG 264 (by decide +kernel) rfl), tyk_Search, nm_Search, rfl, fun _ => rfl, by decide +kernel⟩
theorem fp_Search_15 : FPT R_Search 15 7 3 true (.array .int) := ⟨(R_Search, T_Search, 14), ty_Search, rfl, in_Search, by decide, (mG 265 (by decide +kernel) rfl), tyk_Search, nm_Search, rfl, fun _ => rfl, by decide +kernel⟩
theorem fp_Search_18 : FPT R_Search 18 7 4 true (.array .int) := ⟨(R_Search, T_Search, 14), ty_Search, rfl, in_Search, by decide, (mG 266 (by decide +kernel) rfl), tyk_Search, nm_Search, rfl, fun _ => rfl, by decide +kernel⟩
theorem fp_Search_21 : FPT R_Search 21 7 5 true (.array .int) := ⟨(R_Search, T_Search, 14), ty_Search, rfl, in_Search, by decide, (mG 267 (by decide +kernel) rfl), tyk_Search, nm_Search, rfl, fun _ => rfl, by decide +kernel⟩
theorem fp_Search_24 : FPT R_Search 24 7 6 true (.array .int) := ⟨(R_Search, T_Search, 14), ty_Search, rfl, in_Search, by decide, (mG 268 (by decide +kernel) rfl), tyk_Search, nm_Search, rfl, fun _ => rfl, by decide +kernel⟩
theorem fp_Search_27 : FPT R_Search 27 7 7 true (.array .int) := ⟨(R_Search, T_Search, 14), ty_Search, rfl, in_Search, by decide, (mG 269 (by decide +kernel) rfl), tyk_Search, nm_Search, rfl, fun _ => rfl, by decide +kernel⟩
theorem fp_Search_30 : FPT R_Search 30 7 8 true (.array .int) := ⟨(R_Search, T_Search, 14), ty_Search, rfl, in_Search, by decide, (mG 270 (by decide +kernel) rfl), tyk_Search, nm_Search, rfl, fun _ => rfl, by decide +kernel⟩
theorem fp_Search_35 : FPT R_Search 35 7 9 true (.array (.array .int)) := ⟨(R_Search, T_Search, 14), ty_Search, rfl, in_Search, by decide, (mG 271 (by decide +kernel) rfl), tyk_Search, nm_Search, rfl, fun _ => rfl, by decide +kernel⟩
theorem fp_Search_38 : FPT R_Search 38 7 10 true (.array .int) := ⟨(R_Search, T_Search, 14), ty_Search, rfl, in_Search, by decide, (mG 272 (by decide +kernel) rfl), tyk_Search, nm_Search, rfl, fun _ => rfl, by decide +kernel⟩
theorem fp_Search_41 : FPT R_Search 41 7 11 true (.array .int) := ⟨(R_Search, T_Search, 14), ty_Search, rfl, in_Search, by decide, (mG 273 (by decide +kernel) rfl), tyk_Search, nm_Search, rfl, fun _ => rfl, by decide +kernel⟩
theorem fp_Search_44 : FPT R_Search 44 7 0 true (.object "SeamCell$Part") := ⟨(R_Search, T_Search, 14), ty_Search, rfl, in_Search, by decide, (mG 262 (by decide +kernel) rfl), tyk_Search, nm_Search, rfl, fun _ => rfl, by decide +kernel⟩
theorem fp_Search_48 : FPT R_Search 48 7 1 true (.object "SeamCell$Pace") := ⟨(R_Search, T_Search, 14), ty_Search, rfl, in_Search, by decide, (mG 263 (by decide +kernel) rfl), tyk_Search, nm_Search, rfl, fun _ => rfl, by decide +kernel⟩
theorem fp_Touches_9 : FPT R_Touches 9 8 0 true (.array .int) := ⟨(R_Touches, T_Touches, 3), ty_Touches, rfl, in_Touches, by decide, (mG 314 (by decide +kernel) rfl), tyk_Touches, nm_Touches, rfl, fun _ => rfl, by decide +kernel⟩
theorem fp_Touches_13 : FPT R_Touches 13 8 1 true (.array .int) := ⟨(R_Touches, T_Touches, 3), ty_Touches, rfl, in_Touches, by decide, (mG 316 (by decide +kernel) rfl), tyk_Touches, nm_Touches, rfl, fun _ => rfl, by decide +kernel⟩
theorem fp_Model_37 : FPT R_Model 37 10 12 true (.array .int) := ⟨(R_Model, T_Model, 41), ty_Model, rfl, in_Model, by decide, (mG 807 (by decide +kernel) rfl), tyk_Model, nm_Model, rfl, fun _ => rfl, by decide +kernel⟩
theorem fp_Model_41 : FPT R_Model 41 10 14 true (.array .int) := ⟨(R_Model, T_Model, 41), ty_Model, rfl, in_Model, by decide, (mG 809 (by decide +kernel) rfl), tyk_Model, nm_Model, rfl, fun _ => rfl, by decide +kernel⟩
theorem fp_Model_44 : FPT R_Model 44 10 16 true (.array .int) := ⟨(R_Model, T_Model, 41), ty_Model, rfl, in_Model, by decide, (mG 811 (by decide +kernel) rfl), tyk_Model, nm_Model, rfl, fun _ => rfl, by decide +kernel⟩
theorem fp_Model_47 : FPT R_Model 47 10 17 true (.array .int) := ⟨(R_Model, T_Model, 41), ty_Model, rfl, in_Model, by decide, (mG 812 (by decide +kernel) rfl), tyk_Model, nm_Model, rfl, fun _ => rfl, by decide +kernel⟩
theorem fp_Model_50 : FPT R_Model 50 10 23 true (.array .int) := ⟨(R_Model, T_Model, 41), ty_Model, rfl, in_Model, by decide, (mG 818 (by decide +kernel) rfl), tyk_Model, nm_Model, rfl, fun _ => rfl, by decide +kernel⟩
theorem fp_Model_53 : FPT R_Model 53 10 24 true (.array .int) := ⟨(R_Model, T_Model, 41), ty_Model, rfl, in_Model, by decide, (mG 819 (by decide +kernel) rfl), tyk_Model, nm_Model, rfl, fun _ => rfl, by decide +kernel⟩
theorem fp_Model_56 : FPT R_Model 56 10 25 true (.array .int) := ⟨(R_Model, T_Model, 41), ty_Model, rfl, in_Model, by decide, (mG 820 (by decide +kernel) rfl), tyk_Model, nm_Model, rfl, fun _ => rfl, by decide +kernel⟩
theorem fp_Model_59 : FPT R_Model 59 10 26 true (.array .int) := ⟨(R_Model, T_Model, 41), ty_Model, rfl, in_Model, by decide, (mG 821 (by decide +kernel) rfl), tyk_Model, nm_Model, rfl, fun _ => rfl, by decide +kernel⟩
theorem fp_Model_62 : FPT R_Model 62 10 27 true (.array .int) := ⟨(R_Model, T_Model, 41), ty_Model, rfl, in_Model, by decide, (mG 822 (by decide +kernel) rfl), tyk_Model, nm_Model, rfl, fun _ => rfl, by decide +kernel⟩
theorem fp_Model_65 : FPT R_Model 65 10 28 true (.array .int) := ⟨(R_Model, T_Model, 41), ty_Model, rfl, in_Model, by decide, (mG 823 (by decide +kernel) rfl), tyk_Model, nm_Model, rfl, fun _ => rfl, by decide +kernel⟩
theorem fp_Model_68 : FPT R_Model 68 10 29 true (.array .int) := ⟨(R_Model, T_Model, 41), ty_Model, rfl, in_Model, by decide, (mG 824 (by decide +kernel) rfl), tyk_Model, nm_Model, rfl, fun _ => rfl, by decide +kernel⟩
theorem fp_Model_71 : FPT R_Model 71 10 33 true (.array .int) := ⟨(R_Model, T_Model, 41), ty_Model, rfl, in_Model, by decide, (mG 828 (by decide +kernel) rfl), tyk_Model, nm_Model, rfl, fun _ => rfl, by decide +kernel⟩
theorem fp_Model_74 : FPT R_Model 74 10 34 true (.array .int) := ⟨(R_Model, T_Model, 41), ty_Model, rfl, in_Model, by decide, (mG 829 (by decide +kernel) rfl), tyk_Model, nm_Model, rfl, fun _ => rfl, by decide +kernel⟩
theorem fp_Model_77 : FPT R_Model 77 10 35 true (.array .int) := ⟨(R_Model, T_Model, 41), ty_Model, rfl, in_Model, by decide, (mG 830 (by decide +kernel) rfl), tyk_Model, nm_Model, rfl, fun _ => rfl, by decide +kernel⟩
theorem fp_Model_80 : FPT R_Model 80 10 36 true (.array .int) := ⟨(R_Model, T_Model, 41), ty_Model, rfl, in_Model, by decide, (mG 831 (by decide +kernel) rfl), tyk_Model, nm_Model, rfl, fun _ => rfl, by decide +kernel⟩
theorem fp_Model_83 : FPT R_Model 83 10 37 true (.array .int) := ⟨(R_Model, T_Model, 41), ty_Model, rfl, in_Model, by decide, (mG 832 (by decide +kernel) rfl), tyk_Model, nm_Model, rfl, fun _ => rfl, by decide +kernel⟩
theorem fp_Model_86 : FPT R_Model 86 10 38 true (.array .int) := ⟨(R_Model, T_Model, 41), ty_Model, rfl, in_Model, by decide, (mG 833 (by decide +kernel) rfl), tyk_Model, nm_Model, rfl, fun _ => rfl, by decide +kernel⟩
theorem fp_Model_89 : FPT R_Model 89 10 40 true (.array .boolean) := ⟨(R_Model, T_Model, 41), ty_Model, rfl, in_Model, by decide, (mG 835 (by decide +kernel) rfl), tyk_Model, nm_Model, rfl, fun _ => rfl, by decide +kernel⟩
theorem cl_Part_9 : Cond.classLink R_Part 9 "SeamCell$Seam" ∈ lgG := (mG 120 (by decide +kernel) rfl)
theorem cl_Search_33 : Cond.classLink R_Search 33 "[[I" ∈ lgG := (mG 260 (by decide +kernel) rfl)
theorem in_SeamCell_9 : CNI R_SeamCell 9 "SeamCell" y_Cell_init b_Cell_init 1 0 := ⟨⟨by decide +kernel, (mG 65 (by decide +kernel) rfl), (mG 42 (by decide +kernel) rfl), (mG 66 (by decide +kernel) rfl)⟩, rfl, ⟨by decide, by decide, by decide +kernel⟩⟩
theorem in_SeamCell_50 : CNI R_SeamCell 50 "SeamCell" y_Touches_init b_Touches_init 1 0 := ⟨⟨by decide +kernel, (mG 311 (by decide +kernel) rfl), (mG 48 (by decide +kernel) rfl), (mG 312 (by decide +kernel) rfl)⟩, rfl, ⟨by decide, by decide, by decide +kernel⟩⟩
theorem in_SeamCell_57 : CNI R_SeamCell 57 "SeamCell" y_Crew_init b_Crew_init 1 0 := ⟨⟨by decide +kernel, (mG 330 (by decide +kernel) rfl), (mG 49 (by decide +kernel) rfl), (mG 331 (by decide +kernel) rfl)⟩, rfl, ⟨by decide, by decide, by decide +kernel⟩⟩
theorem in_Crew_11 : CNI R_Crew 11 "SeamCell" y_Acts_init b_Acts_init 1 0 := ⟨⟨by decide +kernel, (mG 336 (by decide +kernel) rfl), (mG 50 (by decide +kernel) rfl), (mG 337 (by decide +kernel) rfl)⟩, rfl, ⟨by decide, by decide, by decide +kernel⟩⟩
theorem in_Part_25 : CNI R_Part 25 "SeamCell" y_Seam_init b_Seam_init 1 0 := ⟨⟨by decide +kernel, (mG 124 (by decide +kernel) rfl), (mG 44 (by decide +kernel) rfl), (mG 125 (by decide +kernel) rfl)⟩, rfl, ⟨by decide, by decide, by decide +kernel⟩⟩
theorem iw_SeamCell_18 : CWI R_SeamCell 18 y_Part_init b_Part_init 3 1 := ⟨⟨(mG 116 (by decide +kernel) rfl), (mG 117 (by decide +kernel) rfl), (mG 43 (by decide +kernel) rfl), (mG 118 (by decide +kernel) rfl)⟩, rfl, ⟨by decide, by decide, by decide +kernel⟩⟩
theorem iw_SeamCell_27 : CWI R_SeamCell 27 y_Pace_init b_Pace_init 2 1 := ⟨⟨(mG 181 (by decide +kernel) rfl), (mG 182 (by decide +kernel) rfl), (mG 45 (by decide +kernel) rfl), (mG 183 (by decide +kernel) rfl)⟩, rfl, ⟨by decide, by decide, by decide +kernel⟩⟩
theorem iw_SeamCell_34 : CWI R_SeamCell 34 y_Plan_init b_Plan_init 3 2 := ⟨⟨(mG 219 (by decide +kernel) rfl), (mG 220 (by decide +kernel) rfl), (mG 46 (by decide +kernel) rfl), (mG 221 (by decide +kernel) rfl)⟩, rfl, ⟨by decide, by decide, by decide +kernel⟩⟩
theorem iw_SeamCell_43 : CWI R_SeamCell 43 y_Search_init b_Search_init 3 2 := ⟨⟨(mG 256 (by decide +kernel) rfl), (mG 257 (by decide +kernel) rfl), (mG 47 (by decide +kernel) rfl), (mG 258 (by decide +kernel) rfl)⟩, rfl, ⟨by decide, by decide, by decide +kernel⟩⟩
theorem nw_SeamCell_7 : NEWC R_SeamCell 7 1 12 [.int 0, .int 0, .int 0, .int 0, .int 0, .int 0, .int 0, .int 0, .null, .null, .null, .null] := ⟨(R_Cell, T_Cell, 12), ty_Cell, rfl, rfl, in_Cell, ⟨(mG 62 (by decide +kernel) rfl), (mG 63 (by decide +kernel) rfl), (mG 42 (by decide +kernel) rfl)⟩, tyk_Cell, fun j hj => by have hj : j < 12 := hj; rcases (show j = 0 ∨ j = 1 ∨ j = 2 ∨ j = 3 ∨ j = 4 ∨ j = 5 ∨ j = 6 ∨ j = 7 ∨ j = 8 ∨ j = 9 ∨ j = 10 ∨ j = 11 by omega) with rfl | rfl | rfl | rfl | rfl | rfl | rfl | rfl | rfl | rfl | rfl | rfl <;> rfl⟩
theorem nw_SeamCell_16 : NEWC R_SeamCell 16 4 4 [.null, .null, .int 0, .int 0] := ⟨(R_Part, T_Part, 4), ty_Part, rfl, rfl, in_Part, ⟨(mG 114 (by decide +kernel) rfl), (mG 115 (by decide +kernel) rfl), (mG 43 (by decide +kernel) rfl)⟩, tyk_Part, fun j hj => by have hj : j < 4 := hj; rcases (show j = 0 ∨ j = 1 ∨ j = 2 ∨ j = 3 by omega) with rfl | rfl | rfl | rfl <;> rfl⟩
theorem nw_SeamCell_25 : NEWC R_SeamCell 25 3 7 [.null, .int 0, .int 0, .int 0, .int 0, .int 0, .int 0] := ⟨(R_Pace, T_Pace, 7), ty_Pace, rfl, rfl, in_Pace, ⟨(mG 179 (by decide +kernel) rfl), (mG 180 (by decide +kernel) rfl), (mG 45 (by decide +kernel) rfl)⟩, tyk_Pace, fun j hj => by have hj : j < 7 := hj; rcases (show j = 0 ∨ j = 1 ∨ j = 2 ∨ j = 3 ∨ j = 4 ∨ j = 5 ∨ j = 6 by omega) with rfl | rfl | rfl | rfl | rfl | rfl | rfl <;> rfl⟩
theorem nw_SeamCell_32 : NEWC R_SeamCell 32 5 8 [.null, .null, .null, .null, .null, .null, .null, .int 0] := ⟨(R_Plan, T_Plan, 8), ty_Plan, rfl, rfl, in_Plan, ⟨(mG 217 (by decide +kernel) rfl), (mG 218 (by decide +kernel) rfl), (mG 46 (by decide +kernel) rfl)⟩, tyk_Plan, fun j hj => by have hj : j < 8 := hj; rcases (show j = 0 ∨ j = 1 ∨ j = 2 ∨ j = 3 ∨ j = 4 ∨ j = 5 ∨ j = 6 ∨ j = 7 by omega) with rfl | rfl | rfl | rfl | rfl | rfl | rfl | rfl <;> rfl⟩
theorem nw_SeamCell_41 : NEWC R_SeamCell 41 7 14 [.null, .null, .null, .null, .null, .null, .null, .null, .null, .null, .null, .null, .int 0, .int 0] := ⟨(R_Search, T_Search, 14), ty_Search, rfl, rfl, in_Search, ⟨(mG 254 (by decide +kernel) rfl), (mG 255 (by decide +kernel) rfl), (mG 47 (by decide +kernel) rfl)⟩, tyk_Search, fun j hj => by have hj : j < 14 := hj; rcases (show j = 0 ∨ j = 1 ∨ j = 2 ∨ j = 3 ∨ j = 4 ∨ j = 5 ∨ j = 6 ∨ j = 7 ∨ j = 8 ∨ j = 9 ∨ j = 10 ∨ j = 11 ∨ j = 12 ∨ j = 13 by omega) with rfl | rfl | rfl | rfl | rfl | rfl | rfl | rfl | rfl | rfl | rfl | rfl | rfl | rfl <;> rfl⟩
theorem nw_SeamCell_48 : NEWC R_SeamCell 48 8 3 [.null, .null, .int 0] := ⟨(R_Touches, T_Touches, 3), ty_Touches, rfl, rfl, in_Touches, ⟨(mG 308 (by decide +kernel) rfl), (mG 309 (by decide +kernel) rfl), (mG 48 (by decide +kernel) rfl)⟩, tyk_Touches, fun j hj => by have hj : j < 3 := hj; rcases (show j = 0 ∨ j = 1 ∨ j = 2 by omega) with rfl | rfl | rfl <;> rfl⟩
theorem nw_SeamCell_55 : NEWC R_SeamCell 55 2 5 [.null, .null, .null, .null, .int 0] := ⟨(R_Crew, T_Crew, 5), ty_Crew, rfl, rfl, in_Crew, ⟨(mG 327 (by decide +kernel) rfl), (mG 328 (by decide +kernel) rfl), (mG 49 (by decide +kernel) rfl)⟩, tyk_Crew, fun j hj => by have hj : j < 5 := hj; rcases (show j = 0 ∨ j = 1 ∨ j = 2 ∨ j = 3 ∨ j = 4 by omega) with rfl | rfl | rfl | rfl | rfl <;> rfl⟩
theorem nw_Crew_9 : NEWC R_Crew 9 0 7 [.null, .null, .null, .int 0, .int 0, .int 0, .int 0] := ⟨(R_Acts, T_Acts, 7), ty_Acts, rfl, rfl, in_Acts, ⟨(mG 333 (by decide +kernel) rfl), (mG 334 (by decide +kernel) rfl), (mG 50 (by decide +kernel) rfl)⟩, tyk_Acts, fun j hj => by have hj : j < 7 := hj; rcases (show j = 0 ∨ j = 1 ∨ j = 2 ∨ j = 3 ∨ j = 4 ∨ j = 5 ∨ j = 6 by omega) with rfl | rfl | rfl | rfl | rfl | rfl | rfl <;> rfl⟩
theorem nw_Part_9 : NEWC R_Part 9 6 7 [.int 0, .int 0, .int 0, .int 0, .int 0, .int 0, .int 0] := ⟨(R_Seam, T_Seam, 7), ty_Seam, rfl, rfl, in_Seam, ⟨(mG 120 (by decide +kernel) rfl), (mG 122 (by decide +kernel) rfl), (mG 44 (by decide +kernel) rfl)⟩, tyk_Seam, fun j hj => by have hj : j < 7 := hj; rcases (show j = 0 ∨ j = 1 ∨ j = 2 ∨ j = 3 ∨ j = 4 ∨ j = 5 ∨ j = 6 by omega) with rfl | rfl | rfl | rfl | rfl | rfl | rfl <;> rfl⟩
theorem oi_SeamCell_1 : OIN R_SeamCell 1 := ⟨(mG 59 (by decide +kernel) rfl), (mG 60 (by decide +kernel) rfl), (mG 61 (by decide +kernel) rfl)⟩
theorem oi_Acts_3 : OIN R_Acts 3 := ⟨(mG 338 (by decide +kernel) rfl), (mG 60 (by decide +kernel) rfl), (mG 61 (by decide +kernel) rfl)⟩
theorem oi_Cell_3 : OIN R_Cell 3 := ⟨(mG 67 (by decide +kernel) rfl), (mG 60 (by decide +kernel) rfl), (mG 61 (by decide +kernel) rfl)⟩
theorem oi_Crew_3 : OIN R_Crew 3 := ⟨(mG 332 (by decide +kernel) rfl), (mG 60 (by decide +kernel) rfl), (mG 61 (by decide +kernel) rfl)⟩
theorem oi_Pace_3 : OIN R_Pace 3 := ⟨(mG 184 (by decide +kernel) rfl), (mG 60 (by decide +kernel) rfl), (mG 61 (by decide +kernel) rfl)⟩
theorem oi_Part_3 : OIN R_Part 3 := ⟨(mG 119 (by decide +kernel) rfl), (mG 60 (by decide +kernel) rfl), (mG 61 (by decide +kernel) rfl)⟩
theorem oi_Plan_3 : OIN R_Plan 3 := ⟨(mG 222 (by decide +kernel) rfl), (mG 60 (by decide +kernel) rfl), (mG 61 (by decide +kernel) rfl)⟩
theorem oi_Seam_1 : OIN R_Seam 1 := ⟨(mG 126 (by decide +kernel) rfl), (mG 60 (by decide +kernel) rfl), (mG 61 (by decide +kernel) rfl)⟩
theorem oi_Search_5 : OIN R_Search 5 := ⟨(mG 259 (by decide +kernel) rfl), (mG 60 (by decide +kernel) rfl), (mG 61 (by decide +kernel) rfl)⟩
theorem oi_Touches_1 : OIN R_Touches 1 := ⟨(mG 313 (by decide +kernel) rfl), (mG 60 (by decide +kernel) rfl), (mG 61 (by decide +kernel) rfl)⟩
theorem oi_Model_1 : OIN R_Model 1 := ⟨(mG 790 (by decide +kernel) rfl), (mG 60 (by decide +kernel) rfl), (mG 61 (by decide +kernel) rfl)⟩
theorem d_Seam_init_0 : dAL b_Seam_init 0 0 1 := Or.inl ⟨0, by decide +kernel, rfl, rfl⟩
theorem d_Seam_init_1 : dN b_Seam_init 1 (.invokespecial 1) 3 4 := ⟨by decide +kernel, rfl⟩
theorem d_Seam_init_4 : dN b_Seam_init 4 (.return_) 1 5 := ⟨by decide +kernel, rfl⟩
theorem d_Acts_init_0 : dAL b_Acts_init 0 0 1 := Or.inl ⟨0, by decide +kernel, rfl, rfl⟩
theorem d_Acts_init_1 : dN b_Acts_init 1 (.invokespecial 3) 3 4 := ⟨by decide +kernel, rfl⟩
theorem d_Acts_init_4 : dAL b_Acts_init 4 0 5 := Or.inl ⟨0, by decide +kernel, rfl, rfl⟩
theorem d_Acts_init_5 : dK b_Acts_init 5 (16) 7 := Or.inr (Or.inl ⟨16, by decide +kernel, by decide, rfl⟩)
theorem d_Acts_init_7 : dN b_Acts_init 7 (.newarray .int) 2 9 := ⟨by decide +kernel, rfl⟩
theorem d_Acts_init_9 : dN b_Acts_init 9 (.putfield 9) 3 12 := ⟨by decide +kernel, rfl⟩
theorem d_Acts_init_12 : dAL b_Acts_init 12 0 13 := Or.inl ⟨0, by decide +kernel, rfl, rfl⟩
theorem d_Acts_init_13 : dK b_Acts_init 13 (16) 15 := Or.inr (Or.inl ⟨16, by decide +kernel, by decide, rfl⟩)
theorem d_Acts_init_15 : dN b_Acts_init 15 (.newarray .int) 2 17 := ⟨by decide +kernel, rfl⟩
theorem d_Acts_init_17 : dN b_Acts_init 17 (.putfield 15) 3 20 := ⟨by decide +kernel, rfl⟩
theorem d_Acts_init_20 : dAL b_Acts_init 20 0 21 := Or.inl ⟨0, by decide +kernel, rfl, rfl⟩
theorem d_Acts_init_21 : dK b_Acts_init 21 (17) 23 := Or.inr (Or.inl ⟨17, by decide +kernel, by decide, rfl⟩)
theorem d_Acts_init_23 : dN b_Acts_init 23 (.newarray .int) 2 25 := ⟨by decide +kernel, rfl⟩
theorem d_Acts_init_25 : dN b_Acts_init 25 (.putfield 18) 3 28 := ⟨by decide +kernel, rfl⟩
theorem d_Acts_init_28 : dN b_Acts_init 28 (.return_) 1 29 := ⟨by decide +kernel, rfl⟩
theorem d_Touches_init_0 : dAL b_Touches_init 0 0 1 := Or.inl ⟨0, by decide +kernel, rfl, rfl⟩
theorem d_Touches_init_1 : dN b_Touches_init 1 (.invokespecial 1) 3 4 := ⟨by decide +kernel, rfl⟩
theorem d_Touches_init_4 : dAL b_Touches_init 4 0 5 := Or.inl ⟨0, by decide +kernel, rfl, rfl⟩
theorem d_Touches_init_5 : dK b_Touches_init 5 (2) 6 := Or.inl ⟨2, by decide +kernel, by decide, rfl⟩
theorem d_Touches_init_6 : dN b_Touches_init 6 (.newarray .int) 2 8 := ⟨by decide +kernel, rfl⟩
theorem d_Touches_init_8 : dN b_Touches_init 8 (.dup) 1 9 := ⟨by decide +kernel, rfl⟩
theorem d_Touches_init_9 : dK b_Touches_init 9 (0) 10 := Or.inl ⟨0, by decide +kernel, by decide, rfl⟩
theorem d_Touches_init_10 : dK b_Touches_init 10 (-20) 12 := Or.inr (Or.inl ⟨-20, by decide +kernel, by decide, rfl⟩)
theorem d_Touches_init_12 : dN b_Touches_init 12 (.iastore) 1 13 := ⟨by decide +kernel, rfl⟩
theorem d_Touches_init_13 : dN b_Touches_init 13 (.dup) 1 14 := ⟨by decide +kernel, rfl⟩
theorem d_Touches_init_14 : dK b_Touches_init 14 (1) 15 := Or.inl ⟨1, by decide +kernel, by decide, rfl⟩
theorem d_Touches_init_15 : dK b_Touches_init 15 (-20) 17 := Or.inr (Or.inl ⟨-20, by decide +kernel, by decide, rfl⟩)
theorem d_Touches_init_17 : dN b_Touches_init 17 (.iastore) 1 18 := ⟨by decide +kernel, rfl⟩
theorem d_Touches_init_18 : dN b_Touches_init 18 (.putfield 9) 3 21 := ⟨by decide +kernel, rfl⟩
theorem d_Touches_init_21 : dAL b_Touches_init 21 0 22 := Or.inl ⟨0, by decide +kernel, rfl, rfl⟩
theorem d_Touches_init_22 : dK b_Touches_init 22 (2) 23 := Or.inl ⟨2, by decide +kernel, by decide, rfl⟩
theorem d_Touches_init_23 : dN b_Touches_init 23 (.newarray .int) 2 25 := ⟨by decide +kernel, rfl⟩
theorem d_Touches_init_25 : dN b_Touches_init 25 (.dup) 1 26 := ⟨by decide +kernel, rfl⟩
theorem d_Touches_init_26 : dK b_Touches_init 26 (0) 27 := Or.inl ⟨0, by decide +kernel, by decide, rfl⟩
theorem d_Touches_init_27 : dK b_Touches_init 27 (20) 29 := Or.inr (Or.inl ⟨20, by decide +kernel, by decide, rfl⟩)
theorem d_Touches_init_29 : dN b_Touches_init 29 (.iastore) 1 30 := ⟨by decide +kernel, rfl⟩
theorem d_Touches_init_30 : dN b_Touches_init 30 (.dup) 1 31 := ⟨by decide +kernel, rfl⟩
theorem d_Touches_init_31 : dK b_Touches_init 31 (1) 32 := Or.inl ⟨1, by decide +kernel, by decide, rfl⟩
theorem d_Touches_init_32 : dK b_Touches_init 32 (20) 34 := Or.inr (Or.inl ⟨20, by decide +kernel, by decide, rfl⟩)
theorem d_Touches_init_34 : dN b_Touches_init 34 (.iastore) 1 35 := ⟨by decide +kernel, rfl⟩
theorem d_Touches_init_35 : dN b_Touches_init 35 (.putfield 13) 3 38 := ⟨by decide +kernel, rfl⟩
theorem d_Touches_init_38 : dN b_Touches_init 38 (.return_) 1 39 := ⟨by decide +kernel, rfl⟩
theorem d_Cell_init_0 : dAL b_Cell_init 0 0 1 := Or.inl ⟨0, by decide +kernel, rfl, rfl⟩
theorem d_Cell_init_1 : dN b_Cell_init 1 (.invokespecial 3) 3 4 := ⟨by decide +kernel, rfl⟩
theorem d_Cell_init_4 : dAL b_Cell_init 4 0 5 := Or.inl ⟨0, by decide +kernel, rfl, rfl⟩
theorem d_Cell_init_5 : dK b_Cell_init 5 (200) 8 := Or.inr (Or.inr ⟨200, by decide +kernel, by decide, rfl⟩)
theorem d_Cell_init_8 : dN b_Cell_init 8 (.putfield 9) 3 11 := ⟨by decide +kernel, rfl⟩
theorem d_Cell_init_11 : dAL b_Cell_init 11 0 12 := Or.inl ⟨0, by decide +kernel, rfl, rfl⟩
theorem d_Cell_init_12 : dK b_Cell_init 12 (150) 15 := Or.inr (Or.inr ⟨150, by decide +kernel, by decide, rfl⟩)
theorem d_Cell_init_15 : dN b_Cell_init 15 (.putfield 15) 3 18 := ⟨by decide +kernel, rfl⟩
theorem d_Cell_init_18 : dAL b_Cell_init 18 0 19 := Or.inl ⟨0, by decide +kernel, rfl, rfl⟩
theorem d_Cell_init_19 : dK b_Cell_init 19 (100) 21 := Or.inr (Or.inl ⟨100, by decide +kernel, by decide, rfl⟩)
theorem d_Cell_init_21 : dN b_Cell_init 21 (.putfield 18) 3 24 := ⟨by decide +kernel, rfl⟩
theorem d_Cell_init_24 : dAL b_Cell_init 24 0 25 := Or.inl ⟨0, by decide +kernel, rfl, rfl⟩
theorem d_Cell_init_25 : dK b_Cell_init 25 (4) 26 := Or.inl ⟨4, by decide +kernel, by decide, rfl⟩
theorem d_Cell_init_26 : dN b_Cell_init 26 (.newarray .int) 2 28 := ⟨by decide +kernel, rfl⟩
theorem d_Cell_init_28 : dN b_Cell_init 28 (.putfield 21) 3 31 := ⟨by decide +kernel, rfl⟩
theorem d_Cell_init_31 : dAL b_Cell_init 31 0 32 := Or.inl ⟨0, by decide +kernel, rfl, rfl⟩
theorem d_Cell_init_32 : dK b_Cell_init 32 (4) 33 := Or.inl ⟨4, by decide +kernel, by decide, rfl⟩
theorem d_Cell_init_33 : dN b_Cell_init 33 (.newarray .int) 2 35 := ⟨by decide +kernel, rfl⟩
theorem d_Cell_init_35 : dN b_Cell_init 35 (.putfield 25) 3 38 := ⟨by decide +kernel, rfl⟩
theorem d_Cell_init_38 : dAL b_Cell_init 38 0 39 := Or.inl ⟨0, by decide +kernel, rfl, rfl⟩
theorem d_Cell_init_39 : dK b_Cell_init 39 (4) 40 := Or.inl ⟨4, by decide +kernel, by decide, rfl⟩
theorem d_Cell_init_40 : dN b_Cell_init 40 (.newarray .int) 2 42 := ⟨by decide +kernel, rfl⟩
theorem d_Cell_init_42 : dN b_Cell_init 42 (.putfield 28) 3 45 := ⟨by decide +kernel, rfl⟩
theorem d_Cell_init_45 : dAL b_Cell_init 45 0 46 := Or.inl ⟨0, by decide +kernel, rfl, rfl⟩
theorem d_Cell_init_46 : dK b_Cell_init 46 (4) 47 := Or.inl ⟨4, by decide +kernel, by decide, rfl⟩
theorem d_Cell_init_47 : dN b_Cell_init 47 (.newarray .int) 2 49 := ⟨by decide +kernel, rfl⟩
theorem d_Cell_init_49 : dN b_Cell_init 49 (.putfield 31) 3 52 := ⟨by decide +kernel, rfl⟩
theorem d_Cell_init_52 : dN b_Cell_init 52 (.return_) 1 53 := ⟨by decide +kernel, rfl⟩
theorem d_Pace_init_0 : dAL b_Pace_init 0 0 1 := Or.inl ⟨0, by decide +kernel, rfl, rfl⟩
theorem d_Pace_init_1 : dN b_Pace_init 1 (.invokespecial 3) 3 4 := ⟨by decide +kernel, rfl⟩
theorem d_Pace_init_4 : dAL b_Pace_init 4 0 5 := Or.inl ⟨0, by decide +kernel, rfl, rfl⟩
theorem d_Pace_init_5 : dK b_Pace_init 5 (10) 7 := Or.inr (Or.inl ⟨10, by decide +kernel, by decide, rfl⟩)
theorem d_Pace_init_7 : dN b_Pace_init 7 (.putfield 9) 3 10 := ⟨by decide +kernel, rfl⟩
theorem d_Pace_init_10 : dAL b_Pace_init 10 0 11 := Or.inl ⟨0, by decide +kernel, rfl, rfl⟩
theorem d_Pace_init_11 : dK b_Pace_init 11 (20) 13 := Or.inr (Or.inl ⟨20, by decide +kernel, by decide, rfl⟩)
theorem d_Pace_init_13 : dN b_Pace_init 13 (.putfield 15) 3 16 := ⟨by decide +kernel, rfl⟩
theorem d_Pace_init_16 : dAL b_Pace_init 16 0 17 := Or.inl ⟨0, by decide +kernel, rfl, rfl⟩
theorem d_Pace_init_17 : dK b_Pace_init 17 (5) 18 := Or.inl ⟨5, by decide +kernel, by decide, rfl⟩
theorem d_Pace_init_18 : dN b_Pace_init 18 (.putfield 18) 3 21 := ⟨by decide +kernel, rfl⟩
theorem d_Pace_init_21 : dAL b_Pace_init 21 0 22 := Or.inl ⟨0, by decide +kernel, rfl, rfl⟩
theorem d_Pace_init_22 : dK b_Pace_init 22 (10) 24 := Or.inr (Or.inl ⟨10, by decide +kernel, by decide, rfl⟩)
theorem d_Pace_init_24 : dN b_Pace_init 24 (.putfield 21) 3 27 := ⟨by decide +kernel, rfl⟩
theorem d_Pace_init_27 : dAL b_Pace_init 27 0 28 := Or.inl ⟨0, by decide +kernel, rfl, rfl⟩
theorem d_Pace_init_28 : dK b_Pace_init 28 (0) 29 := Or.inl ⟨0, by decide +kernel, by decide, rfl⟩
theorem d_Pace_init_29 : dN b_Pace_init 29 (.putfield 24) 3 32 := ⟨by decide +kernel, rfl⟩
theorem d_Pace_init_32 : dAL b_Pace_init 32 0 33 := Or.inl ⟨0, by decide +kernel, rfl, rfl⟩
theorem d_Pace_init_33 : dK b_Pace_init 33 (300) 36 := Or.inr (Or.inr ⟨300, by decide +kernel, by decide, rfl⟩)
theorem d_Pace_init_36 : dN b_Pace_init 36 (.putfield 27) 3 39 := ⟨by decide +kernel, rfl⟩
theorem d_Pace_init_39 : dAL b_Pace_init 39 0 40 := Or.inl ⟨0, by decide +kernel, rfl, rfl⟩
theorem d_Pace_init_40 : dAL b_Pace_init 40 1 41 := Or.inl ⟨1, by decide +kernel, rfl, rfl⟩
theorem d_Pace_init_41 : dN b_Pace_init 41 (.putfield 30) 3 44 := ⟨by decide +kernel, rfl⟩
theorem d_Pace_init_44 : dN b_Pace_init 44 (.return_) 1 45 := ⟨by decide +kernel, rfl⟩
theorem d_Part_init_0 : dAL b_Part_init 0 0 1 := Or.inl ⟨0, by decide +kernel, rfl, rfl⟩
theorem d_Part_init_1 : dN b_Part_init 1 (.invokespecial 3) 3 4 := ⟨by decide +kernel, rfl⟩
theorem d_Part_init_4 : dAL b_Part_init 4 0 5 := Or.inl ⟨0, by decide +kernel, rfl, rfl⟩
theorem d_Part_init_5 : dK b_Part_init 5 (8) 7 := Or.inr (Or.inl ⟨8, by decide +kernel, by decide, rfl⟩)
theorem d_Part_init_7 : dN b_Part_init 7 (.anewarray 9) 3 10 := ⟨by decide +kernel, rfl⟩
theorem d_Part_init_10 : dN b_Part_init 10 (.putfield 11) 3 13 := ⟨by decide +kernel, rfl⟩
theorem d_Part_init_13 : dAL b_Part_init 13 0 14 := Or.inl ⟨0, by decide +kernel, rfl, rfl⟩
theorem d_Part_init_14 : dK b_Part_init 14 (20) 16 := Or.inr (Or.inl ⟨20, by decide +kernel, by decide, rfl⟩)
theorem d_Part_init_16 : dN b_Part_init 16 (.putfield 17) 3 19 := ⟨by decide +kernel, rfl⟩
theorem d_Part_init_19 : dAL b_Part_init 19 0 20 := Or.inl ⟨0, by decide +kernel, rfl, rfl⟩
theorem d_Part_init_20 : dAL b_Part_init 20 1 21 := Or.inl ⟨1, by decide +kernel, rfl, rfl⟩
theorem d_Part_init_21 : dN b_Part_init 21 (.putfield 21) 3 24 := ⟨by decide +kernel, rfl⟩
theorem d_Part_init_24 : dK b_Part_init 24 (0) 25 := Or.inl ⟨0, by decide +kernel, by decide, rfl⟩
theorem d_Part_init_25 : dIS b_Part_init 25 2 26 := Or.inl ⟨2, by decide +kernel, rfl, rfl⟩
theorem d_Part_init_26 : dIL b_Part_init 26 2 27 := Or.inl ⟨2, by decide +kernel, rfl, rfl⟩
theorem d_Part_init_27 : dK b_Part_init 27 (8) 29 := Or.inr (Or.inl ⟨8, by decide +kernel, by decide, rfl⟩)
theorem d_Part_init_29 : dB b_Part_init 29 (.if_icmp .ge) 51 32 := ⟨22, by decide +kernel, by decide, rfl⟩
theorem d_Part_init_32 : dAL b_Part_init 32 0 33 := Or.inl ⟨0, by decide +kernel, rfl, rfl⟩
theorem d_Part_init_33 : dN b_Part_init 33 (.getfield 11) 3 36 := ⟨by decide +kernel, rfl⟩
theorem d_Part_init_36 : dIL b_Part_init 36 2 37 := Or.inl ⟨2, by decide +kernel, rfl, rfl⟩
theorem d_Part_init_37 : dN b_Part_init 37 (.new 9) 3 40 := ⟨by decide +kernel, rfl⟩
theorem d_Part_init_40 : dN b_Part_init 40 (.dup) 1 41 := ⟨by decide +kernel, rfl⟩
theorem d_Part_init_41 : dN b_Part_init 41 (.invokespecial 25) 3 44 := ⟨by decide +kernel, rfl⟩
theorem d_Part_init_44 : dN b_Part_init 44 (.aastore) 1 45 := ⟨by decide +kernel, rfl⟩
theorem d_Part_init_45 : dN b_Part_init 45 (.iinc 2 1) 3 48 := ⟨by decide +kernel, rfl⟩
theorem d_Part_init_48 : dB b_Part_init 48 .goto 26 51 := ⟨-22, by decide +kernel, by decide, rfl⟩
theorem d_Part_init_51 : dN b_Part_init 51 (.return_) 1 52 := ⟨by decide +kernel, rfl⟩
theorem d_Plan_init_0 : dAL b_Plan_init 0 0 1 := Or.inl ⟨0, by decide +kernel, rfl, rfl⟩
theorem d_Plan_init_1 : dN b_Plan_init 1 (.invokespecial 3) 3 4 := ⟨by decide +kernel, rfl⟩
theorem d_Plan_init_4 : dAL b_Plan_init 4 0 5 := Or.inl ⟨0, by decide +kernel, rfl, rfl⟩
theorem d_Plan_init_5 : dK b_Plan_init 5 (8) 7 := Or.inr (Or.inl ⟨8, by decide +kernel, by decide, rfl⟩)
theorem d_Plan_init_7 : dN b_Plan_init 7 (.newarray .int) 2 9 := ⟨by decide +kernel, rfl⟩
theorem d_Plan_init_9 : dN b_Plan_init 9 (.putfield 9) 3 12 := ⟨by decide +kernel, rfl⟩
theorem d_Plan_init_12 : dAL b_Plan_init 12 0 13 := Or.inl ⟨0, by decide +kernel, rfl, rfl⟩
theorem d_Plan_init_13 : dK b_Plan_init 13 (8) 15 := Or.inr (Or.inl ⟨8, by decide +kernel, by decide, rfl⟩)
theorem d_Plan_init_15 : dN b_Plan_init 15 (.newarray .int) 2 17 := ⟨by decide +kernel, rfl⟩
theorem d_Plan_init_17 : dN b_Plan_init 17 (.putfield 15) 3 20 := ⟨by decide +kernel, rfl⟩
theorem d_Plan_init_20 : dAL b_Plan_init 20 0 21 := Or.inl ⟨0, by decide +kernel, rfl, rfl⟩
theorem d_Plan_init_21 : dK b_Plan_init 21 (8) 23 := Or.inr (Or.inl ⟨8, by decide +kernel, by decide, rfl⟩)
theorem d_Plan_init_23 : dN b_Plan_init 23 (.newarray .int) 2 25 := ⟨by decide +kernel, rfl⟩
theorem d_Plan_init_25 : dN b_Plan_init 25 (.putfield 18) 3 28 := ⟨by decide +kernel, rfl⟩
theorem d_Plan_init_28 : dAL b_Plan_init 28 0 29 := Or.inl ⟨0, by decide +kernel, rfl, rfl⟩
theorem d_Plan_init_29 : dK b_Plan_init 29 (8) 31 := Or.inr (Or.inl ⟨8, by decide +kernel, by decide, rfl⟩)
theorem d_Plan_init_31 : dN b_Plan_init 31 (.newarray .int) 2 33 := ⟨by decide +kernel, rfl⟩
theorem d_Plan_init_33 : dN b_Plan_init 33 (.putfield 21) 3 36 := ⟨by decide +kernel, rfl⟩
theorem d_Plan_init_36 : dAL b_Plan_init 36 0 37 := Or.inl ⟨0, by decide +kernel, rfl, rfl⟩
theorem d_Plan_init_37 : dK b_Plan_init 37 (8) 39 := Or.inr (Or.inl ⟨8, by decide +kernel, by decide, rfl⟩)
theorem d_Plan_init_39 : dN b_Plan_init 39 (.newarray .int) 2 41 := ⟨by decide +kernel, rfl⟩
theorem d_Plan_init_41 : dN b_Plan_init 41 (.putfield 24) 3 44 := ⟨by decide +kernel, rfl⟩
theorem d_Plan_init_44 : dAL b_Plan_init 44 0 45 := Or.inl ⟨0, by decide +kernel, rfl, rfl⟩
theorem d_Plan_init_45 : dAL b_Plan_init 45 1 46 := Or.inl ⟨1, by decide +kernel, rfl, rfl⟩
theorem d_Plan_init_46 : dN b_Plan_init 46 (.putfield 27) 3 49 := ⟨by decide +kernel, rfl⟩
theorem d_Plan_init_49 : dAL b_Plan_init 49 0 50 := Or.inl ⟨0, by decide +kernel, rfl, rfl⟩
theorem d_Plan_init_50 : dAL b_Plan_init 50 2 51 := Or.inl ⟨2, by decide +kernel, rfl, rfl⟩
theorem d_Plan_init_51 : dN b_Plan_init 51 (.putfield 31) 3 54 := ⟨by decide +kernel, rfl⟩
theorem d_Plan_init_54 : dN b_Plan_init 54 (.return_) 1 55 := ⟨by decide +kernel, rfl⟩
theorem d_Search_init_0 : dAL b_Search_init 0 0 1 := Or.inl ⟨0, by decide +kernel, rfl, rfl⟩
theorem d_Search_init_1 : dN b_Search_init 1 (.invokespecial 5) 3 4 := ⟨by decide +kernel, rfl⟩
theorem d_Search_init_4 : dAL b_Search_init 4 0 5 := Or.inl ⟨0, by decide +kernel, rfl, rfl⟩
theorem d_Search_init_5 : dK b_Search_init 5 (6) 7 := Or.inr (Or.inl ⟨6, by decide +kernel, by decide, rfl⟩)
theorem d_Search_init_7 : dN b_Search_init 7 (.newarray .int) 2 9 := ⟨by decide +kernel, rfl⟩
theorem d_Search_init_9 : dN b_Search_init 9 (.putfield 11) 3 12 := ⟨by decide +kernel, rfl⟩
theorem d_Search_init_12 : dAL b_Search_init 12 0 13 := Or.inl ⟨0, by decide +kernel, rfl, rfl⟩
theorem d_Search_init_13 : dK b_Search_init 13 (6) 15 := Or.inr (Or.inl ⟨6, by decide +kernel, by decide, rfl⟩)
theorem d_Search_init_15 : dN b_Search_init 15 (.newarray .int) 2 17 := ⟨by decide +kernel, rfl⟩
theorem d_Search_init_17 : dN b_Search_init 17 (.putfield 15) 3 20 := ⟨by decide +kernel, rfl⟩
theorem d_Search_init_20 : dAL b_Search_init 20 0 21 := Or.inl ⟨0, by decide +kernel, rfl, rfl⟩
theorem d_Search_init_21 : dK b_Search_init 21 (6) 23 := Or.inr (Or.inl ⟨6, by decide +kernel, by decide, rfl⟩)
theorem d_Search_init_23 : dN b_Search_init 23 (.newarray .int) 2 25 := ⟨by decide +kernel, rfl⟩
theorem d_Search_init_25 : dN b_Search_init 25 (.putfield 18) 3 28 := ⟨by decide +kernel, rfl⟩
theorem d_Search_init_28 : dAL b_Search_init 28 0 29 := Or.inl ⟨0, by decide +kernel, rfl, rfl⟩
theorem d_Search_init_29 : dK b_Search_init 29 (6) 31 := Or.inr (Or.inl ⟨6, by decide +kernel, by decide, rfl⟩)
theorem d_Search_init_31 : dN b_Search_init 31 (.newarray .int) 2 33 := ⟨by decide +kernel, rfl⟩
theorem d_Search_init_33 : dN b_Search_init 33 (.putfield 21) 3 36 := ⟨by decide +kernel, rfl⟩
theorem d_Search_init_36 : dAL b_Search_init 36 0 37 := Or.inl ⟨0, by decide +kernel, rfl, rfl⟩
theorem d_Search_init_37 : dK b_Search_init 37 (6) 39 := Or.inr (Or.inl ⟨6, by decide +kernel, by decide, rfl⟩)
theorem d_Search_init_39 : dN b_Search_init 39 (.newarray .int) 2 41 := ⟨by decide +kernel, rfl⟩
theorem d_Search_init_41 : dN b_Search_init 41 (.putfield 24) 3 44 := ⟨by decide +kernel, rfl⟩
theorem d_Search_init_44 : dAL b_Search_init 44 0 45 := Or.inl ⟨0, by decide +kernel, rfl, rfl⟩
theorem d_Search_init_45 : dK b_Search_init 45 (6) 47 := Or.inr (Or.inl ⟨6, by decide +kernel, by decide, rfl⟩)
theorem d_Search_init_47 : dN b_Search_init 47 (.newarray .int) 2 49 := ⟨by decide +kernel, rfl⟩
theorem d_Search_init_49 : dN b_Search_init 49 (.putfield 27) 3 52 := ⟨by decide +kernel, rfl⟩
theorem d_Search_init_52 : dAL b_Search_init 52 0 53 := Or.inl ⟨0, by decide +kernel, rfl, rfl⟩
theorem d_Search_init_53 : dK b_Search_init 53 (6) 55 := Or.inr (Or.inl ⟨6, by decide +kernel, by decide, rfl⟩)
theorem d_Search_init_55 : dN b_Search_init 55 (.newarray .int) 2 57 := ⟨by decide +kernel, rfl⟩
theorem d_Search_init_57 : dN b_Search_init 57 (.putfield 30) 3 60 := ⟨by decide +kernel, rfl⟩
theorem d_Search_init_60 : dAL b_Search_init 60 0 61 := Or.inl ⟨0, by decide +kernel, rfl, rfl⟩
theorem d_Search_init_61 : dK b_Search_init 61 (13) 63 := Or.inr (Or.inl ⟨13, by decide +kernel, by decide, rfl⟩)
theorem d_Search_init_63 : dK b_Search_init 63 (12) 65 := Or.inr (Or.inl ⟨12, by decide +kernel, by decide, rfl⟩)
theorem d_Search_init_65 : dN b_Search_init 65 (.multianewarray 33 2) 4 69 := ⟨by decide +kernel, rfl⟩
theorem d_Search_init_69 : dN b_Search_init 69 (.putfield 35) 3 72 := ⟨by decide +kernel, rfl⟩
theorem d_Search_init_72 : dAL b_Search_init 72 0 73 := Or.inl ⟨0, by decide +kernel, rfl, rfl⟩
theorem d_Search_init_73 : dK b_Search_init 73 (6) 75 := Or.inr (Or.inl ⟨6, by decide +kernel, by decide, rfl⟩)
theorem d_Search_init_75 : dN b_Search_init 75 (.newarray .int) 2 77 := ⟨by decide +kernel, rfl⟩
theorem d_Search_init_77 : dN b_Search_init 77 (.putfield 38) 3 80 := ⟨by decide +kernel, rfl⟩
theorem d_Search_init_80 : dAL b_Search_init 80 0 81 := Or.inl ⟨0, by decide +kernel, rfl, rfl⟩
theorem d_Search_init_81 : dK b_Search_init 81 (6) 83 := Or.inr (Or.inl ⟨6, by decide +kernel, by decide, rfl⟩)
theorem d_Search_init_83 : dN b_Search_init 83 (.newarray .int) 2 85 := ⟨by decide +kernel, rfl⟩
theorem d_Search_init_85 : dN b_Search_init 85 (.putfield 41) 3 88 := ⟨by decide +kernel, rfl⟩
theorem d_Search_init_88 : dAL b_Search_init 88 0 89 := Or.inl ⟨0, by decide +kernel, rfl, rfl⟩
theorem d_Search_init_89 : dAL b_Search_init 89 1 90 := Or.inl ⟨1, by decide +kernel, rfl, rfl⟩
theorem d_Search_init_90 : dN b_Search_init 90 (.putfield 44) 3 93 := ⟨by decide +kernel, rfl⟩
theorem d_Search_init_93 : dAL b_Search_init 93 0 94 := Or.inl ⟨0, by decide +kernel, rfl, rfl⟩
theorem d_Search_init_94 : dAL b_Search_init 94 2 95 := Or.inl ⟨2, by decide +kernel, rfl, rfl⟩
theorem d_Search_init_95 : dN b_Search_init 95 (.putfield 48) 3 98 := ⟨by decide +kernel, rfl⟩
theorem d_Search_init_98 : dN b_Search_init 98 (.return_) 1 99 := ⟨by decide +kernel, rfl⟩
theorem d_Crew_init_0 : dAL b_Crew_init 0 0 1 := Or.inl ⟨0, by decide +kernel, rfl, rfl⟩
theorem d_Crew_init_1 : dN b_Crew_init 1 (.invokespecial 3) 3 4 := ⟨by decide +kernel, rfl⟩
theorem d_Crew_init_4 : dAL b_Crew_init 4 0 5 := Or.inl ⟨0, by decide +kernel, rfl, rfl⟩
theorem d_Crew_init_5 : dN b_Crew_init 5 (.new 9) 3 8 := ⟨by decide +kernel, rfl⟩
theorem d_Crew_init_8 : dN b_Crew_init 8 (.dup) 1 9 := ⟨by decide +kernel, rfl⟩
theorem d_Crew_init_9 : dN b_Crew_init 9 (.invokespecial 11) 3 12 := ⟨by decide +kernel, rfl⟩
theorem d_Crew_init_12 : dN b_Crew_init 12 (.putfield 12) 3 15 := ⟨by decide +kernel, rfl⟩
theorem d_Crew_init_15 : dAL b_Crew_init 15 0 16 := Or.inl ⟨0, by decide +kernel, rfl, rfl⟩
theorem d_Crew_init_16 : dN b_Crew_init 16 (.new 9) 3 19 := ⟨by decide +kernel, rfl⟩
theorem d_Crew_init_19 : dN b_Crew_init 19 (.dup) 1 20 := ⟨by decide +kernel, rfl⟩
theorem d_Crew_init_20 : dN b_Crew_init 20 (.invokespecial 11) 3 23 := ⟨by decide +kernel, rfl⟩
theorem d_Crew_init_23 : dN b_Crew_init 23 (.putfield 18) 3 26 := ⟨by decide +kernel, rfl⟩
theorem d_Crew_init_26 : dAL b_Crew_init 26 0 27 := Or.inl ⟨0, by decide +kernel, rfl, rfl⟩
theorem d_Crew_init_27 : dK b_Crew_init 27 (289) 30 := Or.inr (Or.inr ⟨289, by decide +kernel, by decide, rfl⟩)
theorem d_Crew_init_30 : dN b_Crew_init 30 (.newarray .boolean) 2 32 := ⟨by decide +kernel, rfl⟩
theorem d_Crew_init_32 : dN b_Crew_init 32 (.putfield 21) 3 35 := ⟨by decide +kernel, rfl⟩
theorem d_Crew_init_35 : dAL b_Crew_init 35 0 36 := Or.inl ⟨0, by decide +kernel, rfl, rfl⟩
theorem d_Crew_init_36 : dK b_Crew_init 36 (5) 37 := Or.inl ⟨5, by decide +kernel, by decide, rfl⟩
theorem d_Crew_init_37 : dN b_Crew_init 37 (.newarray .int) 2 39 := ⟨by decide +kernel, rfl⟩
theorem d_Crew_init_39 : dN b_Crew_init 39 (.putfield 25) 3 42 := ⟨by decide +kernel, rfl⟩
theorem d_Crew_init_42 : dN b_Crew_init 42 (.return_) 1 43 := ⟨by decide +kernel, rfl⟩
theorem d_SeamCell_init_0 : dAL b_SeamCell_init 0 0 1 := Or.inl ⟨0, by decide +kernel, rfl, rfl⟩
theorem d_SeamCell_init_1 : dN b_SeamCell_init 1 (.invokespecial 1) 3 4 := ⟨by decide +kernel, rfl⟩
theorem d_SeamCell_init_4 : dAL b_SeamCell_init 4 0 5 := Or.inl ⟨0, by decide +kernel, rfl, rfl⟩
theorem d_SeamCell_init_5 : dN b_SeamCell_init 5 (.new 7) 3 8 := ⟨by decide +kernel, rfl⟩
theorem d_SeamCell_init_8 : dN b_SeamCell_init 8 (.dup) 1 9 := ⟨by decide +kernel, rfl⟩
theorem d_SeamCell_init_9 : dN b_SeamCell_init 9 (.invokespecial 9) 3 12 := ⟨by decide +kernel, rfl⟩
theorem d_SeamCell_init_12 : dN b_SeamCell_init 12 (.putfield 10) 3 15 := ⟨by decide +kernel, rfl⟩
theorem d_SeamCell_init_15 : dAL b_SeamCell_init 15 0 16 := Or.inl ⟨0, by decide +kernel, rfl, rfl⟩
theorem d_SeamCell_init_16 : dN b_SeamCell_init 16 (.new 16) 3 19 := ⟨by decide +kernel, rfl⟩
theorem d_SeamCell_init_19 : dN b_SeamCell_init 19 (.dup) 1 20 := ⟨by decide +kernel, rfl⟩
theorem d_SeamCell_init_20 : dAL b_SeamCell_init 20 0 21 := Or.inl ⟨0, by decide +kernel, rfl, rfl⟩
theorem d_SeamCell_init_21 : dN b_SeamCell_init 21 (.getfield 10) 3 24 := ⟨by decide +kernel, rfl⟩
theorem d_SeamCell_init_24 : dN b_SeamCell_init 24 (.invokespecial 18) 3 27 := ⟨by decide +kernel, rfl⟩
theorem d_SeamCell_init_27 : dN b_SeamCell_init 27 (.putfield 21) 3 30 := ⟨by decide +kernel, rfl⟩
theorem d_SeamCell_init_30 : dAL b_SeamCell_init 30 0 31 := Or.inl ⟨0, by decide +kernel, rfl, rfl⟩
theorem d_SeamCell_init_31 : dN b_SeamCell_init 31 (.new 25) 3 34 := ⟨by decide +kernel, rfl⟩
theorem d_SeamCell_init_34 : dN b_SeamCell_init 34 (.dup) 1 35 := ⟨by decide +kernel, rfl⟩
theorem d_SeamCell_init_35 : dAL b_SeamCell_init 35 0 36 := Or.inl ⟨0, by decide +kernel, rfl, rfl⟩
theorem d_SeamCell_init_36 : dN b_SeamCell_init 36 (.getfield 10) 3 39 := ⟨by decide +kernel, rfl⟩
theorem d_SeamCell_init_39 : dN b_SeamCell_init 39 (.invokespecial 27) 3 42 := ⟨by decide +kernel, rfl⟩
theorem d_SeamCell_init_42 : dN b_SeamCell_init 42 (.putfield 28) 3 45 := ⟨by decide +kernel, rfl⟩
theorem d_SeamCell_init_45 : dAL b_SeamCell_init 45 0 46 := Or.inl ⟨0, by decide +kernel, rfl, rfl⟩
theorem d_SeamCell_init_46 : dN b_SeamCell_init 46 (.new 32) 3 49 := ⟨by decide +kernel, rfl⟩
theorem d_SeamCell_init_49 : dN b_SeamCell_init 49 (.dup) 1 50 := ⟨by decide +kernel, rfl⟩
theorem d_SeamCell_init_50 : dAL b_SeamCell_init 50 0 51 := Or.inl ⟨0, by decide +kernel, rfl, rfl⟩
theorem d_SeamCell_init_51 : dN b_SeamCell_init 51 (.getfield 21) 3 54 := ⟨by decide +kernel, rfl⟩
theorem d_SeamCell_init_54 : dAL b_SeamCell_init 54 0 55 := Or.inl ⟨0, by decide +kernel, rfl, rfl⟩
theorem d_SeamCell_init_55 : dN b_SeamCell_init 55 (.getfield 28) 3 58 := ⟨by decide +kernel, rfl⟩
theorem d_SeamCell_init_58 : dN b_SeamCell_init 58 (.invokespecial 34) 3 61 := ⟨by decide +kernel, rfl⟩
theorem d_SeamCell_init_61 : dN b_SeamCell_init 61 (.putfield 37) 3 64 := ⟨by decide +kernel, rfl⟩
theorem d_SeamCell_init_64 : dAL b_SeamCell_init 64 0 65 := Or.inl ⟨0, by decide +kernel, rfl, rfl⟩
theorem d_SeamCell_init_65 : dN b_SeamCell_init 65 (.new 41) 3 68 := ⟨by decide +kernel, rfl⟩
theorem d_SeamCell_init_68 : dN b_SeamCell_init 68 (.dup) 1 69 := ⟨by decide +kernel, rfl⟩
theorem d_SeamCell_init_69 : dAL b_SeamCell_init 69 0 70 := Or.inl ⟨0, by decide +kernel, rfl, rfl⟩
theorem d_SeamCell_init_70 : dN b_SeamCell_init 70 (.getfield 21) 3 73 := ⟨by decide +kernel, rfl⟩
theorem d_SeamCell_init_73 : dAL b_SeamCell_init 73 0 74 := Or.inl ⟨0, by decide +kernel, rfl, rfl⟩
theorem d_SeamCell_init_74 : dN b_SeamCell_init 74 (.getfield 28) 3 77 := ⟨by decide +kernel, rfl⟩
theorem d_SeamCell_init_77 : dN b_SeamCell_init 77 (.invokespecial 43) 3 80 := ⟨by decide +kernel, rfl⟩
theorem d_SeamCell_init_80 : dN b_SeamCell_init 80 (.putfield 44) 3 83 := ⟨by decide +kernel, rfl⟩
theorem d_SeamCell_init_83 : dAL b_SeamCell_init 83 0 84 := Or.inl ⟨0, by decide +kernel, rfl, rfl⟩
theorem d_SeamCell_init_84 : dN b_SeamCell_init 84 (.new 48) 3 87 := ⟨by decide +kernel, rfl⟩
theorem d_SeamCell_init_87 : dN b_SeamCell_init 87 (.dup) 1 88 := ⟨by decide +kernel, rfl⟩
theorem d_SeamCell_init_88 : dN b_SeamCell_init 88 (.invokespecial 50) 3 91 := ⟨by decide +kernel, rfl⟩
theorem d_SeamCell_init_91 : dN b_SeamCell_init 91 (.putfield 51) 3 94 := ⟨by decide +kernel, rfl⟩
theorem d_SeamCell_init_94 : dAL b_SeamCell_init 94 0 95 := Or.inl ⟨0, by decide +kernel, rfl, rfl⟩
theorem d_SeamCell_init_95 : dN b_SeamCell_init 95 (.new 55) 3 98 := ⟨by decide +kernel, rfl⟩
theorem d_SeamCell_init_98 : dN b_SeamCell_init 98 (.dup) 1 99 := ⟨by decide +kernel, rfl⟩
theorem d_SeamCell_init_99 : dN b_SeamCell_init 99 (.invokespecial 57) 3 102 := ⟨by decide +kernel, rfl⟩
theorem d_SeamCell_init_102 : dN b_SeamCell_init 102 (.putfield 58) 3 105 := ⟨by decide +kernel, rfl⟩
theorem d_SeamCell_init_105 : dN b_SeamCell_init 105 (.return_) 1 106 := ⟨by decide +kernel, rfl⟩
theorem d_Model_init_0 : dAL b_Model_init 0 0 1 := Or.inl ⟨0, by decide +kernel, rfl, rfl⟩
theorem d_Model_init_1 : dN b_Model_init 1 (.invokespecial 1) 3 4 := ⟨by decide +kernel, rfl⟩
theorem d_Model_init_4 : dAL b_Model_init 4 0 5 := Or.inl ⟨0, by decide +kernel, rfl, rfl⟩
theorem d_Model_init_5 : dK b_Model_init 5 (200) 8 := Or.inr (Or.inr ⟨200, by decide +kernel, by decide, rfl⟩)
theorem d_Model_init_8 : dN b_Model_init 8 (.putfield 7) 3 11 := ⟨by decide +kernel, rfl⟩
theorem d_Model_init_11 : dAL b_Model_init 11 0 12 := Or.inl ⟨0, by decide +kernel, rfl, rfl⟩
theorem d_Model_init_12 : dK b_Model_init 12 (150) 15 := Or.inr (Or.inr ⟨150, by decide +kernel, by decide, rfl⟩)
theorem d_Model_init_15 : dN b_Model_init 15 (.putfield 13) 3 18 := ⟨by decide +kernel, rfl⟩
theorem d_Model_init_18 : dAL b_Model_init 18 0 19 := Or.inl ⟨0, by decide +kernel, rfl, rfl⟩
theorem d_Model_init_19 : dK b_Model_init 19 (100) 21 := Or.inr (Or.inl ⟨100, by decide +kernel, by decide, rfl⟩)
theorem d_Model_init_21 : dN b_Model_init 21 (.putfield 16) 3 24 := ⟨by decide +kernel, rfl⟩
theorem d_Model_init_24 : dAL b_Model_init 24 0 25 := Or.inl ⟨0, by decide +kernel, rfl, rfl⟩
theorem d_Model_init_25 : dK b_Model_init 25 (20) 27 := Or.inr (Or.inl ⟨20, by decide +kernel, by decide, rfl⟩)
theorem d_Model_init_27 : dN b_Model_init 27 (.putfield 19) 3 30 := ⟨by decide +kernel, rfl⟩
theorem d_Model_init_30 : dAL b_Model_init 30 0 31 := Or.inl ⟨0, by decide +kernel, rfl, rfl⟩
theorem d_Model_init_31 : dK b_Model_init 31 (10) 33 := Or.inr (Or.inl ⟨10, by decide +kernel, by decide, rfl⟩)
theorem d_Model_init_33 : dN b_Model_init 33 (.putfield 22) 3 36 := ⟨by decide +kernel, rfl⟩
theorem d_Model_init_36 : dAL b_Model_init 36 0 37 := Or.inl ⟨0, by decide +kernel, rfl, rfl⟩
theorem d_Model_init_37 : dK b_Model_init 37 (20) 39 := Or.inr (Or.inl ⟨20, by decide +kernel, by decide, rfl⟩)
theorem d_Model_init_39 : dN b_Model_init 39 (.putfield 25) 3 42 := ⟨by decide +kernel, rfl⟩
theorem d_Model_init_42 : dAL b_Model_init 42 0 43 := Or.inl ⟨0, by decide +kernel, rfl, rfl⟩
theorem d_Model_init_43 : dK b_Model_init 43 (5) 44 := Or.inl ⟨5, by decide +kernel, by decide, rfl⟩
theorem d_Model_init_44 : dN b_Model_init 44 (.putfield 28) 3 47 := ⟨by decide +kernel, rfl⟩
theorem d_Model_init_47 : dAL b_Model_init 47 0 48 := Or.inl ⟨0, by decide +kernel, rfl, rfl⟩
theorem d_Model_init_48 : dK b_Model_init 48 (10) 50 := Or.inr (Or.inl ⟨10, by decide +kernel, by decide, rfl⟩)
theorem d_Model_init_50 : dN b_Model_init 50 (.putfield 31) 3 53 := ⟨by decide +kernel, rfl⟩
theorem d_Model_init_53 : dAL b_Model_init 53 0 54 := Or.inl ⟨0, by decide +kernel, rfl, rfl⟩
theorem d_Model_init_54 : dK b_Model_init 54 (300) 57 := Or.inr (Or.inr ⟨300, by decide +kernel, by decide, rfl⟩)
theorem d_Model_init_57 : dN b_Model_init 57 (.putfield 34) 3 60 := ⟨by decide +kernel, rfl⟩
theorem d_Model_init_60 : dAL b_Model_init 60 0 61 := Or.inl ⟨0, by decide +kernel, rfl, rfl⟩
theorem d_Model_init_61 : dK b_Model_init 61 (16) 63 := Or.inr (Or.inl ⟨16, by decide +kernel, by decide, rfl⟩)
theorem d_Model_init_63 : dN b_Model_init 63 (.newarray .int) 2 65 := ⟨by decide +kernel, rfl⟩
theorem d_Model_init_65 : dN b_Model_init 65 (.putfield 37) 3 68 := ⟨by decide +kernel, rfl⟩
theorem d_Model_init_68 : dAL b_Model_init 68 0 69 := Or.inl ⟨0, by decide +kernel, rfl, rfl⟩
theorem d_Model_init_69 : dK b_Model_init 69 (48) 71 := Or.inr (Or.inl ⟨48, by decide +kernel, by decide, rfl⟩)
theorem d_Model_init_71 : dN b_Model_init 71 (.newarray .int) 2 73 := ⟨by decide +kernel, rfl⟩
theorem d_Model_init_73 : dN b_Model_init 73 (.putfield 41) 3 76 := ⟨by decide +kernel, rfl⟩
theorem d_Model_init_76 : dAL b_Model_init 76 0 77 := Or.inl ⟨0, by decide +kernel, rfl, rfl⟩
theorem d_Model_init_77 : dK b_Model_init 77 (8) 79 := Or.inr (Or.inl ⟨8, by decide +kernel, by decide, rfl⟩)
theorem d_Model_init_79 : dN b_Model_init 79 (.newarray .int) 2 81 := ⟨by decide +kernel, rfl⟩
theorem d_Model_init_81 : dN b_Model_init 81 (.putfield 44) 3 84 := ⟨by decide +kernel, rfl⟩
theorem d_Model_init_84 : dAL b_Model_init 84 0 85 := Or.inl ⟨0, by decide +kernel, rfl, rfl⟩
theorem d_Model_init_85 : dK b_Model_init 85 (8) 87 := Or.inr (Or.inl ⟨8, by decide +kernel, by decide, rfl⟩)
theorem d_Model_init_87 : dN b_Model_init 87 (.newarray .int) 2 89 := ⟨by decide +kernel, rfl⟩
theorem d_Model_init_89 : dN b_Model_init 89 (.putfield 47) 3 92 := ⟨by decide +kernel, rfl⟩
theorem d_Model_init_92 : dAL b_Model_init 92 0 93 := Or.inl ⟨0, by decide +kernel, rfl, rfl⟩
theorem d_Model_init_93 : dK b_Model_init 93 (8) 95 := Or.inr (Or.inl ⟨8, by decide +kernel, by decide, rfl⟩)
theorem d_Model_init_95 : dN b_Model_init 95 (.newarray .int) 2 97 := ⟨by decide +kernel, rfl⟩
theorem d_Model_init_97 : dN b_Model_init 97 (.putfield 50) 3 100 := ⟨by decide +kernel, rfl⟩
theorem d_Model_init_100 : dAL b_Model_init 100 0 101 := Or.inl ⟨0, by decide +kernel, rfl, rfl⟩
theorem d_Model_init_101 : dK b_Model_init 101 (8) 103 := Or.inr (Or.inl ⟨8, by decide +kernel, by decide, rfl⟩)
theorem d_Model_init_103 : dN b_Model_init 103 (.newarray .int) 2 105 := ⟨by decide +kernel, rfl⟩
theorem d_Model_init_105 : dN b_Model_init 105 (.putfield 53) 3 108 := ⟨by decide +kernel, rfl⟩
theorem d_Model_init_108 : dAL b_Model_init 108 0 109 := Or.inl ⟨0, by decide +kernel, rfl, rfl⟩
theorem d_Model_init_109 : dK b_Model_init 109 (8) 111 := Or.inr (Or.inl ⟨8, by decide +kernel, by decide, rfl⟩)
theorem d_Model_init_111 : dN b_Model_init 111 (.newarray .int) 2 113 := ⟨by decide +kernel, rfl⟩
theorem d_Model_init_113 : dN b_Model_init 113 (.putfield 56) 3 116 := ⟨by decide +kernel, rfl⟩
theorem d_Model_init_116 : dAL b_Model_init 116 0 117 := Or.inl ⟨0, by decide +kernel, rfl, rfl⟩
theorem d_Model_init_117 : dK b_Model_init 117 (8) 119 := Or.inr (Or.inl ⟨8, by decide +kernel, by decide, rfl⟩)
theorem d_Model_init_119 : dN b_Model_init 119 (.newarray .int) 2 121 := ⟨by decide +kernel, rfl⟩
theorem d_Model_init_121 : dN b_Model_init 121 (.putfield 59) 3 124 := ⟨by decide +kernel, rfl⟩
theorem d_Model_init_124 : dAL b_Model_init 124 0 125 := Or.inl ⟨0, by decide +kernel, rfl, rfl⟩
theorem d_Model_init_125 : dK b_Model_init 125 (8) 127 := Or.inr (Or.inl ⟨8, by decide +kernel, by decide, rfl⟩)
theorem d_Model_init_127 : dN b_Model_init 127 (.newarray .int) 2 129 := ⟨by decide +kernel, rfl⟩
theorem d_Model_init_129 : dN b_Model_init 129 (.putfield 62) 3 132 := ⟨by decide +kernel, rfl⟩
theorem d_Model_init_132 : dAL b_Model_init 132 0 133 := Or.inl ⟨0, by decide +kernel, rfl, rfl⟩
theorem d_Model_init_133 : dK b_Model_init 133 (2) 134 := Or.inl ⟨2, by decide +kernel, by decide, rfl⟩
theorem d_Model_init_134 : dN b_Model_init 134 (.newarray .int) 2 136 := ⟨by decide +kernel, rfl⟩
theorem d_Model_init_136 : dN b_Model_init 136 (.putfield 65) 3 139 := ⟨by decide +kernel, rfl⟩
theorem d_Model_init_139 : dAL b_Model_init 139 0 140 := Or.inl ⟨0, by decide +kernel, rfl, rfl⟩
theorem d_Model_init_140 : dK b_Model_init 140 (2) 141 := Or.inl ⟨2, by decide +kernel, by decide, rfl⟩
theorem d_Model_init_141 : dN b_Model_init 141 (.newarray .int) 2 143 := ⟨by decide +kernel, rfl⟩
theorem d_Model_init_143 : dN b_Model_init 143 (.putfield 68) 3 146 := ⟨by decide +kernel, rfl⟩
theorem d_Model_init_146 : dAL b_Model_init 146 0 147 := Or.inl ⟨0, by decide +kernel, rfl, rfl⟩
theorem d_Model_init_147 : dK b_Model_init 147 (64) 149 := Or.inr (Or.inl ⟨64, by decide +kernel, by decide, rfl⟩)
theorem d_Model_init_149 : dN b_Model_init 149 (.newarray .int) 2 151 := ⟨by decide +kernel, rfl⟩
theorem d_Model_init_151 : dN b_Model_init 151 (.putfield 71) 3 154 := ⟨by decide +kernel, rfl⟩
theorem d_Model_init_154 : dAL b_Model_init 154 0 155 := Or.inl ⟨0, by decide +kernel, rfl, rfl⟩
theorem d_Model_init_155 : dK b_Model_init 155 (2) 156 := Or.inl ⟨2, by decide +kernel, by decide, rfl⟩
theorem d_Model_init_156 : dN b_Model_init 156 (.newarray .int) 2 158 := ⟨by decide +kernel, rfl⟩
theorem d_Model_init_158 : dN b_Model_init 158 (.putfield 74) 3 161 := ⟨by decide +kernel, rfl⟩
theorem d_Model_init_161 : dAL b_Model_init 161 0 162 := Or.inl ⟨0, by decide +kernel, rfl, rfl⟩
theorem d_Model_init_162 : dK b_Model_init 162 (2) 163 := Or.inl ⟨2, by decide +kernel, by decide, rfl⟩
theorem d_Model_init_163 : dN b_Model_init 163 (.newarray .int) 2 165 := ⟨by decide +kernel, rfl⟩
theorem d_Model_init_165 : dN b_Model_init 165 (.putfield 77) 3 168 := ⟨by decide +kernel, rfl⟩
theorem d_Model_init_168 : dAL b_Model_init 168 0 169 := Or.inl ⟨0, by decide +kernel, rfl, rfl⟩
theorem d_Model_init_169 : dK b_Model_init 169 (2) 170 := Or.inl ⟨2, by decide +kernel, by decide, rfl⟩
theorem d_Model_init_170 : dN b_Model_init 170 (.newarray .int) 2 172 := ⟨by decide +kernel, rfl⟩
theorem d_Model_init_172 : dN b_Model_init 172 (.putfield 80) 3 175 := ⟨by decide +kernel, rfl⟩
theorem d_Model_init_175 : dAL b_Model_init 175 0 176 := Or.inl ⟨0, by decide +kernel, rfl, rfl⟩
theorem d_Model_init_176 : dK b_Model_init 176 (2) 177 := Or.inl ⟨2, by decide +kernel, by decide, rfl⟩
theorem d_Model_init_177 : dN b_Model_init 177 (.newarray .int) 2 179 := ⟨by decide +kernel, rfl⟩
theorem d_Model_init_179 : dN b_Model_init 179 (.putfield 83) 3 182 := ⟨by decide +kernel, rfl⟩
theorem d_Model_init_182 : dAL b_Model_init 182 0 183 := Or.inl ⟨0, by decide +kernel, rfl, rfl⟩
theorem d_Model_init_183 : dK b_Model_init 183 (5) 184 := Or.inl ⟨5, by decide +kernel, by decide, rfl⟩
theorem d_Model_init_184 : dN b_Model_init 184 (.newarray .int) 2 186 := ⟨by decide +kernel, rfl⟩
theorem d_Model_init_186 : dN b_Model_init 186 (.putfield 86) 3 189 := ⟨by decide +kernel, rfl⟩
theorem d_Model_init_189 : dAL b_Model_init 189 0 190 := Or.inl ⟨0, by decide +kernel, rfl, rfl⟩
theorem d_Model_init_190 : dK b_Model_init 190 (289) 193 := Or.inr (Or.inr ⟨289, by decide +kernel, by decide, rfl⟩)
theorem d_Model_init_193 : dN b_Model_init 193 (.newarray .boolean) 2 195 := ⟨by decide +kernel, rfl⟩
theorem d_Model_init_195 : dN b_Model_init 195 (.putfield 89) 3 198 := ⟨by decide +kernel, rfl⟩
theorem d_Model_init_198 : dAL b_Model_init 198 0 199 := Or.inl ⟨0, by decide +kernel, rfl, rfl⟩
theorem d_Model_init_199 : dN b_Model_init 199 (.invokevirtual 93) 3 202 := ⟨by decide +kernel, rfl⟩
theorem d_Model_init_202 : dN b_Model_init 202 (.return_) 1 203 := ⟨by decide +kernel, rfl⟩

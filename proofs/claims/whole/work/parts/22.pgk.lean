/-! The tables are the program's: checked by program -/
theorem pgT0 : ∀ w ∈ u_ws "NulledForest$Grammar" pgF0 4, w ∈ tm_WB lw_tbl := fun w h => List.mem_filter.mpr ((fun (h : GoodIn lw_tbl (u_ws "NulledForest$Grammar" pgF0 4)) => ⟨(h w ‹_›).1, List.all_eq_true.mp (show (u_ws "NulledForest$Grammar" pgF0 4).all goodWord = true by decide +kernel) w ‹_›⟩) (goodIn_p _ [] (by decide +kernel) (by decide +kernel)))
theorem pgT1 : ∀ w ∈ u_ws "NulledForest$Automaton" pgF1 6, w ∈ tm_WB lw_tbl := fun w h => List.mem_filter.mpr ((fun (h : GoodIn lw_tbl (u_ws "NulledForest$Automaton" pgF1 6)) => ⟨(h w ‹_›).1, List.all_eq_true.mp (show (u_ws "NulledForest$Automaton" pgF1 6).all goodWord = true by decide +kernel) w ‹_›⟩) (goodIn_p _ [] (by decide +kernel) (by decide +kernel)))
theorem pgT2 : ∀ w ∈ u_ws "NulledForest$Chart" pgF2 4, w ∈ tm_WB lw_tbl := fun w h => List.mem_filter.mpr ((fun (h : GoodIn lw_tbl (u_ws "NulledForest$Chart" pgF2 4)) => ⟨(h w ‹_›).1, List.all_eq_true.mp (show (u_ws "NulledForest$Chart" pgF2 4).all goodWord = true by decide +kernel) w ‹_›⟩) (goodIn_p _ [] (by decide +kernel) (by decide +kernel)))
theorem pgT3 : ∀ w ∈ u_ws "NulledForest$Frontier" pgF3 3, w ∈ tm_WB lw_tbl := fun w h => List.mem_filter.mpr ((fun (h : GoodIn lw_tbl (u_ws "NulledForest$Frontier" pgF3 3)) => ⟨(h w ‹_›).1, List.all_eq_true.mp (show (u_ws "NulledForest$Frontier" pgF3 3).all goodWord = true by decide +kernel) w ‹_›⟩) (goodIn_p _ [] (by decide +kernel) (by decide +kernel)))
theorem pgT4 : ∀ w ∈ u_ws "NulledForest$Uses" pgF4 7, w ∈ tm_WB lw_tbl := fun w h => List.mem_filter.mpr ((fun (h : GoodIn lw_tbl (u_ws "NulledForest$Uses" pgF4 7)) => ⟨(h w ‹_›).1, List.all_eq_true.mp (show (u_ws "NulledForest$Uses" pgF4 7).all goodWord = true by decide +kernel) w ‹_›⟩) (goodIn_p _ [] (by decide +kernel) (by decide +kernel)))
theorem pgT5 : ∀ w ∈ u_ws "NulledForest$Forest" pgF5 8, w ∈ tm_WB lw_tbl := fun w h => List.mem_filter.mpr ((fun (h : GoodIn lw_tbl (u_ws "NulledForest$Forest" pgF5 8)) => ⟨(h w ‹_›).1, List.all_eq_true.mp (show (u_ws "NulledForest$Forest" pgF5 8).all goodWord = true by decide +kernel) w ‹_›⟩) (goodIn_p _ [] (by decide +kernel) (by decide +kernel)))
theorem pgT6 : ∀ w ∈ u_ws "NulledForest$Walk" pgF6 9, w ∈ tm_WB lw_tbl := fun w h => List.mem_filter.mpr ((fun (h : GoodIn lw_tbl (u_ws "NulledForest$Walk" pgF6 9)) => ⟨(h w ‹_›).1, List.all_eq_true.mp (show (u_ws "NulledForest$Walk" pgF6 9).all goodWord = true by decide +kernel) w ‹_›⟩) (goodIn_p _ [] (by decide +kernel) (by decide +kernel)))
theorem pgT7 : ∀ w ∈ u_ws "NulledForest" pgF7 10, w ∈ tm_WB lw_tbl := fun w h => List.mem_filter.mpr ((fun (h : GoodIn lw_tbl (u_ws "NulledForest" pgF7 10)) => ⟨(h w ‹_›).1, List.all_eq_true.mp (show (u_ws "NulledForest" pgF7 10).all goodWord = true by decide +kernel) w ‹_›⟩) (goodIn_p _ [] (by decide +kernel) (by decide +kernel)))
theorem pgT8 : ∀ w ∈ u_ws "NulledForestModel" pgF8 31, w ∈ tm_WB lw_tbl := fun w h => List.mem_filter.mpr ((fun (h : GoodIn lw_tbl (u_ws "NulledForestModel" pgF8 31)) => ⟨(h w ‹_›).1, List.all_eq_true.mp (show (u_ws "NulledForestModel" pgF8 31).all goodWord = true by decide +kernel) w ‹_›⟩) (goodIn_p _ [] (by decide +kernel) (by decide +kernel)))
theorem pgK0 : pgC0.all (fun q => tm_ck pg pg_n lw_tbl "NulledForest" pg_cl pg_ty 0 q.1 q.2.1 q.2.2.1 q.2.2.2) = true := by decide +kernel
theorem pgK1 : pgC1.all (fun q => tm_ck pg pg_n lw_tbl "NulledForest" pg_cl pg_ty 1 q.1 q.2.1 q.2.2.1 q.2.2.2) = true := by decide +kernel
theorem pgK2 : pgC2.all (fun q => tm_ck pg pg_n lw_tbl "NulledForest" pg_cl pg_ty 2 q.1 q.2.1 q.2.2.1 q.2.2.2) = true := by decide +kernel
theorem pgK3 : pgC3.all (fun q => tm_ck pg pg_n lw_tbl "NulledForest" pg_cl pg_ty 3 q.1 q.2.1 q.2.2.1 q.2.2.2) = true := by decide +kernel
theorem pgK4 : pgC4.all (fun q => tm_ck pg pg_n lw_tbl "NulledForest" pg_cl pg_ty 4 q.1 q.2.1 q.2.2.1 q.2.2.2) = true := by decide +kernel
theorem pgK5 : pgC5.all (fun q => tm_ck pg pg_n lw_tbl "NulledForest" pg_cl pg_ty 5 q.1 q.2.1 q.2.2.1 q.2.2.2) = true := by decide +kernel
theorem pgK6 : pgC6.all (fun q => tm_ck pg pg_n lw_tbl "NulledForest" pg_cl pg_ty 6 q.1 q.2.1 q.2.2.1 q.2.2.2) = true := by decide +kernel
theorem pgK7 : pgC7.all (fun q => tm_ck pg pg_n lw_tbl "NulledForest" pg_cl pg_ty 7 q.1 q.2.1 q.2.2.1 q.2.2.2) = true := by decide +kernel
theorem pgK8 : pgC8.all (fun q => tm_ck pg pg_n lw_tbl "NulledForest" pg_cl pg_ty 8 q.1 q.2.1 q.2.2.1 q.2.2.2) = true := by decide +kernel
theorem pgK9 : pgC9.all (fun q => tm_ck pg pg_n lw_tbl "NulledForest" pg_cl pg_ty 9 q.1 q.2.1 q.2.2.1 q.2.2.2) = true := by decide +kernel
theorem pgK10 : pgC10.all (fun q => tm_ck pg pg_n lw_tbl "NulledForest" pg_cl pg_ty 10 q.1 q.2.1 q.2.2.1 q.2.2.2) = true := by decide +kernel
theorem pgK11 : pgC11.all (fun q => tm_ck pg pg_n lw_tbl "NulledForest" pg_cl pg_ty 11 q.1 q.2.1 q.2.2.1 q.2.2.2) = true := by decide +kernel
theorem pgK12 : pgC12.all (fun q => tm_ck pg pg_n lw_tbl "NulledForest" pg_cl pg_ty 12 q.1 q.2.1 q.2.2.1 q.2.2.2) = true := by decide +kernel
theorem pgK13 : pgC13.all (fun q => tm_ck pg pg_n lw_tbl "NulledForest" pg_cl pg_ty 13 q.1 q.2.1 q.2.2.1 q.2.2.2) = true := by decide +kernel
theorem pgK14 : pgC14.all (fun q => tm_ck pg pg_n lw_tbl "NulledForest" pg_cl pg_ty 14 q.1 q.2.1 q.2.2.1 q.2.2.2) = true := by decide +kernel
theorem pgK15 : pgC15.all (fun q => tm_ck pg pg_n lw_tbl "NulledForest" pg_cl pg_ty 15 q.1 q.2.1 q.2.2.1 q.2.2.2) = true := by decide +kernel
theorem pgK16 : pgC16.all (fun q => tm_ck pg pg_n lw_tbl "NulledForest" pg_cl pg_ty 16 q.1 q.2.1 q.2.2.1 q.2.2.2) = true := by decide +kernel
theorem pgK17 : pgC17.all (fun q => tm_ck pg pg_n lw_tbl "NulledForest" pg_cl pg_ty 17 q.1 q.2.1 q.2.2.1 q.2.2.2) = true := by decide +kernel
theorem pgK18 : pgC18.all (fun q => tm_ck pg pg_n lw_tbl "NulledForest" pg_cl pg_ty 18 q.1 q.2.1 q.2.2.1 q.2.2.2) = true := by decide +kernel
theorem pgK19 : pgC19.all (fun q => tm_ck pg pg_n lw_tbl "NulledForest" pg_cl pg_ty 19 q.1 q.2.1 q.2.2.1 q.2.2.2) = true := by decide +kernel
theorem pgK20 : pgC20.all (fun q => tm_ck pg pg_n lw_tbl "NulledForest" pg_cl pg_ty 20 q.1 q.2.1 q.2.2.1 q.2.2.2) = true := by decide +kernel
theorem pgK21 : pgC21.all (fun q => tm_ck pg pg_n lw_tbl "NulledForest" pg_cl pg_ty 21 q.1 q.2.1 q.2.2.1 q.2.2.2) = true := by decide +kernel
theorem pgK22 : pgC22.all (fun q => tm_ck pg pg_n lw_tbl "NulledForest" pg_cl pg_ty 22 q.1 q.2.1 q.2.2.1 q.2.2.2) = true := by decide +kernel
theorem pgK23 : pgC23.all (fun q => tm_ck pg pg_n lw_tbl "NulledForest" pg_cl pg_ty 23 q.1 q.2.1 q.2.2.1 q.2.2.2) = true := by decide +kernel
theorem pgK24 : pgC24.all (fun q => tm_ck pg pg_n lw_tbl "NulledForest" pg_cl pg_ty 24 q.1 q.2.1 q.2.2.1 q.2.2.2) = true := by decide +kernel
theorem pgK25 : pgC25.all (fun q => tm_ck pg pg_n lw_tbl "NulledForest" pg_cl pg_ty 25 q.1 q.2.1 q.2.2.1 q.2.2.2) = true := by decide +kernel
theorem pgK26 : pgC26.all (fun q => tm_ck pg pg_n lw_tbl "NulledForest" pg_cl pg_ty 26 q.1 q.2.1 q.2.2.1 q.2.2.2) = true := by decide +kernel
theorem pgK27 : pgC27.all (fun q => tm_ck pg pg_n lw_tbl "NulledForest" pg_cl pg_ty 27 q.1 q.2.1 q.2.2.1 q.2.2.2) = true := by decide +kernel
theorem pgK28 : pgC28.all (fun q => tm_ck pg pg_n lw_tbl "NulledForest" pg_cl pg_ty 28 q.1 q.2.1 q.2.2.1 q.2.2.2) = true := by decide +kernel
theorem pgK29 : pgC29.all (fun q => tm_ck pg pg_n lw_tbl "NulledForest" pg_cl pg_ty 29 q.1 q.2.1 q.2.2.1 q.2.2.2) = true := by decide +kernel
theorem pgK30 : pgC30.all (fun q => tm_ck pg pg_n lw_tbl "NulledForest" pg_cl pg_ty 30 q.1 q.2.1 q.2.2.1 q.2.2.2) = true := by decide +kernel
theorem pgK31 : pgC31.all (fun q => tm_ck pg pg_n lw_tbl "NulledForest" pg_cl pg_ty 31 q.1 q.2.1 q.2.2.1 q.2.2.2) = true := by decide +kernel
theorem pgK32 : pgC32.all (fun q => tm_ck pg pg_n lw_tbl "NulledForest" pg_cl pg_ty 32 q.1 q.2.1 q.2.2.1 q.2.2.2) = true := by decide +kernel
theorem pgK33 : pgC33.all (fun q => tm_ck pg pg_n lw_tbl "NulledForest" pg_cl pg_ty 33 q.1 q.2.1 q.2.2.1 q.2.2.2) = true := by decide +kernel
theorem pgK34 : pgC34.all (fun q => tm_ck pg pg_n lw_tbl "NulledForest" pg_cl pg_ty 34 q.1 q.2.1 q.2.2.1 q.2.2.2) = true := by decide +kernel
theorem pgK35 : pgC35.all (fun q => tm_ck pg pg_n lw_tbl "NulledForest" pg_cl pg_ty 35 q.1 q.2.1 q.2.2.1 q.2.2.2) = true := by decide +kernel
theorem pgK36 : pgC36.all (fun q => tm_ck pg pg_n lw_tbl "NulledForest" pg_cl pg_ty 36 q.1 q.2.1 q.2.2.1 q.2.2.2) = true := by decide +kernel
theorem pgK37 : pgC37.all (fun q => tm_ck pg pg_n lw_tbl "NulledForest" pg_cl pg_ty 37 q.1 q.2.1 q.2.2.1 q.2.2.2) = true := by decide +kernel
theorem pgK38 : pgC38.all (fun q => tm_ck pg pg_n lw_tbl "NulledForest" pg_cl pg_ty 38 q.1 q.2.1 q.2.2.1 q.2.2.2) = true := by decide +kernel
theorem pgK39 : pgC39.all (fun q => tm_ck pg pg_n lw_tbl "NulledForest" pg_cl pg_ty 39 q.1 q.2.1 q.2.2.1 q.2.2.2) = true := by decide +kernel
theorem pgK40 : pgC40.all (fun q => tm_ck pg pg_n lw_tbl "NulledForest" pg_cl pg_ty 40 q.1 q.2.1 q.2.2.1 q.2.2.2) = true := by decide +kernel

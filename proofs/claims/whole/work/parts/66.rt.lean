/-! NulledForest.requireTree, walked by hand -/
def yRT : MethodName := ⟨"NulledForest", "requireTree", "(I)V"⟩
def yLN : MethodName := ⟨"NulledForest", "length", "(I)I"⟩
def yMD : MethodName := ⟨"NulledForest", "made", "(II)I"⟩
def rmRT : Room := { frames := 6, cells := 1, slots := 6, locals := 90 }
def pgx (k : Nat) : tm_M := if k = 0 then (yRT, prog_1_method_18_code, 2, none, "NulledForest", rmRT) else if k = 1 then (yLN, prog_1_method_16_code, 2, some .int, "NulledForest", rmRT) else (yMD, prog_1_method_17_code, 4, some .int, "NulledForest", rmRT)
abbrev xb7 : ByteArray := ⟨#[0x2a, 0x2b, 0xb7, 0x00, 0x07, 0xb1]⟩
abbrev xb13 : ByteArray := ⟨#[0x2a, 0x2b, 0xb7, 0x00, 0x0d, 0xb1]⟩
def xnm (r : Nat) : String := if r = 1 then "java/lang/IllegalStateException" else if r = 2 then "java/util/NoSuchElementException" else "java/lang/IndexOutOfBoundsException"
/-- the three messages -/
def xks (q1 q2 q3 : Nat) (U : State) : Prop := vk_R "NulledForest" 176 "there are endlessly many trees" q1 U ∧ vk_R "NulledForest" 181 "there is no such tree" q2 U ∧ vk_R "NulledForest" 169 "the row of rules is not so long" q3 U
theorem xks.warm {q1 q2 q3 : Nat} {s U : State} (hW : s.WarmedH U.vm) (h : xks q1 q2 q3 s) : xks q1 q2 q3 U := ⟨h.1.warm hW, h.2.1.warm hW, h.2.2.warm hW⟩
theorem xks.same {q1 q2 q3 : Nat} {u U : State} (hv : U.vm = u.vm) (h : xks q1 q2 q3 u) : xks q1 q2 q3 U := ⟨h.1.same hv, h.2.1.same hv, h.2.2.same hv⟩
def xPc (D : va_G) (tA : Nat → ClassId) (ad : Nat → Nat) (M : ev_M) (sz q1 q2 q3 : Nat) (as : List tm_V) : Array Value → State → Prop := va_Pc (as.map (tm_cv ad)) (fun U => U.heap.size = sz ∧ va_P D pg_cl (tm_cW tA ad (hp M)) U.heap ∧ va_K D pg_cl (tm_tys tA) U ∧ va_D (fun _ => True) (tm_cW tA ad (hp M)) ∧ (∀ w ∈ tm_WN lw_tbl, va_Nw w U) ∧ xz2 (va_A (tm_cW tA ad (hp M)) sz) U U.heap ∧ xks q1 q2 q3 U)
theorem xPc_blind {D : va_G} {tA : Nat → ClassId} {ad : Nat → Nat} {M : ev_M} {sz q1 q2 q3 : Nat} {as : List tm_V} : FrameBlind (xPc D tA ad M sz q1 q2 q3 as) := by
  intro a U g mk q
  obtain ⟨h0, h1, hP, hK, hD, hN, hZ, hk⟩ := q
  exact ⟨h0, h1, hP, va_K.moved (u := U) (U := U.calling g mk a) (Vm.Alike.refl U.vm) hK, hD, fun w hw => va_Nw.same (tm_nest_tab (List.all_eq_true.mp (tm_WN_nest lw_tbl) w hw)) (rfl : U.vm = (U.calling g mk a).vm) (hN w hw), ⟨xz.moved (u := U) (U := U.calling g mk a) (Vm.Alike.refl U.vm) hZ.1, xz.moved (u := U) (U := U.calling g mk a) (Vm.Alike.refl U.vm) hZ.2⟩, xks.same (u := U) (U := U.calling g mk a) rfl hk⟩
/-- an end: returned with v where r is 0, else thrown -/
def xQc (D : va_G) (tA : Nat → ClassId) (ad : Nat → Nat) (M : ev_M) (sz r : Nat) (v : Option tm_V) (M1 : ev_M) : Array Value → State → Outcome → State → Prop := fun _ st o t =>
  va_F (va_A (tm_cW tA ad (hp M)) sz) st t ∧ va_P D pg_cl (tm_cW tA ad (hp M1)) t.heap ∧ va_D (va_A (tm_cW tA ad (hp M)) sz) (tm_cW tA ad (hp M1)) ∧ ((r = 0 ∧ o = .returned (v.map (tm_cv ad))) ∨ (r ≠ 0 ∧ ∃ a, o = .threw a ∧ st.heap.size ≤ a ∧ xw_ex (xnm r) a t))
def mRT (k : Int) (M : ev_M) (Q : Nat → ev_M → Prop) : Prop := if sT_endless M = 0 then (if k < 0 then Q 2 M else m45 M (fun c M1 => if k < c then Q 0 M1 else Q 2 M1)) else Q 1 M
theorem xa_hp1 : (xo_at "NulledForest" 178 "java/lang/IllegalStateException" 7 xb7).filter xw_hp = [.laysStatic "java/lang/Throwable" "UNASSIGNED_STACK" "[Ljava/lang/StackTraceElement;", .laysStatic "java/lang/Throwable" "SUPPRESSED_SENTINEL" "Ljava/util/List;", .isRef (.static "java/lang/Throwable" "UNASSIGNED_STACK" "[Ljava/lang/StackTraceElement;"), .isRef (.static "java/lang/Throwable" "SUPPRESSED_SENTINEL" "Ljava/util/List;")] := rfl
theorem xa_hp2 : (xo_at "NulledForest" 183 "java/util/NoSuchElementException" 13 xb13).filter xw_hp = [.laysStatic "java/lang/Throwable" "UNASSIGNED_STACK" "[Ljava/lang/StackTraceElement;", .laysStatic "java/lang/Throwable" "SUPPRESSED_SENTINEL" "Ljava/util/List;", .isRef (.static "java/lang/Throwable" "UNASSIGNED_STACK" "[Ljava/lang/StackTraceElement;"), .isRef (.static "java/lang/Throwable" "SUPPRESSED_SENTINEL" "Ljava/util/List;")] := rfl
theorem xa_hp3 : (xo_at "NulledForest" 171 "java/lang/IndexOutOfBoundsException" 7 xb7).filter xw_hp = [.laysStatic "java/lang/Throwable" "UNASSIGNED_STACK" "[Ljava/lang/StackTraceElement;", .laysStatic "java/lang/Throwable" "SUPPRESSED_SENTINEL" "Ljava/util/List;", .isRef (.static "java/lang/Throwable" "UNASSIGNED_STACK" "[Ljava/lang/StackTraceElement;"), .isRef (.static "java/lang/Throwable" "SUPPRESSED_SENTINEL" "Ljava/util/List;")] := rfl
def xa_ok (w : Cond) : Bool := xw_hp w || (decide (w ∈ lw_tbl) && (goodWord w || tm_nest w))
theorem xa_k1 : (xo_at "NulledForest" 178 "java/lang/IllegalStateException" 7 xb7).all xa_ok = true := by decide +kernel
theorem xa_k2 : (xo_at "NulledForest" 183 "java/util/NoSuchElementException" 13 xb13).all xa_ok = true := by decide +kernel
theorem xa_k3 : (xo_at "NulledForest" 171 "java/lang/IndexOutOfBoundsException" 7 xb7).all xa_ok = true := by decide +kernel
theorem xa_at {L : List Cond} (hL : L.all xa_ok = true) {s : State} {args : Array Value} {c0 : Cond} (hts : ∀ w ∈ c0 :: tm_WB lw_tbl, w.before args s = true) (hnw : ∀ w ∈ tm_WN lw_tbl, va_Nw w s) : ∀ w ∈ L, xw_hp w = false → ∀ U : State, s.WarmedH U.vm → w.before args U = true := by
  intro w hw hh U hW
  have h1 := List.all_eq_true.mp hL w hw
  simp only [xa_ok, hh, Bool.false_or, Bool.and_eq_true, decide_eq_true_eq, Bool.or_eq_true] at h1
  obtain ⟨h2, h3⟩ := h1
  rcases h3 with h3 | h3
  · exact word_at hW (good_of_word h3) (hts w (List.mem_cons_of_mem _ (List.mem_filter.mpr ⟨h2, h3⟩)))
  · exact va_Nw.use (tm_nest_tab h3) (tm_nest_warm h3 hW (hnw w (List.mem_filter.mpr ⟨h2, h3⟩)))

/-! The law's step and its loop: written by wip/whole/gen5.py -/
def opn (xs : Nat → Int32) (i : Nat) : Nat := (xs i &&& 15).toInt.toNat
theorem op_lt (x : Int32) : 0 ≤ (x &&& 15).toInt ∧ (x &&& 15).toInt < 16 := by
  have h : (x &&& 15).toBitVec.toNat < 16 := by
    rw [Int32.toBitVec_and, BitVec.toNat_and]
    exact Nat.lt_of_le_of_lt Nat.and_le_right (by decide)
  have h2 : (x &&& 15).toInt = ((x &&& 15).toBitVec.toNat : Int) := by
    show (x &&& 15).toBitVec.toInt = _
    rw [BitVec.toInt_eq_toNat_of_lt (by omega)]
  omega
/-- one operation of the script, at i: both sides run and answer alike; then R -/
def stp (xs : Nat → Int32) (i : Nat) (M : ev_M) (R : ev_M → Prop) : Prop := match opn xs i with
  | 0 => m64 (sv xs (i + 1)) (sv xs (i + 2)) (sv xs (i + 3)) (sv xs (i + 4)) (sv xs (i + 5)) M (fun w M1 => m97 (sv xs (i + 1)) (sv xs (i + 2)) (sv xs (i + 3)) (sv xs (i + 4)) (sv xs (i + 5)) M1 (fun w' M2 => w = w' ∧ R M2))
  | 1 => m65 (sv xs (i + 1)) M (fun w M1 => m98 (sv xs (i + 1)) M1 (fun w' M2 => w = w' ∧ R M2))
  | 2 => m66 M (fun w M1 => m99 M1 (fun w' M2 => w = w' ∧ R M2))
  | 3 => m67 M (fun w M1 => m100 M1 (fun w' M2 => w = w' ∧ R M2))
  | 4 => m69 (sv xs (i + 1)) M (fun w M1 => m122 (sv xs (i + 1)) M1 (fun w' M2 => w = w' ∧ R M2))
  | 5 => m70 M (fun w M1 => m123 M1 (fun w' M2 => w = w' ∧ R M2))
  | 6 => m72 (sv xs (i + 1)) (sv xs (i + 2)) M (fun w M1 => m125 (sv xs (i + 1)) (sv xs (i + 2)) M1 (fun w' M2 => w = w' ∧ R M2))
  | 7 => m73 (sv xs (i + 1)) M (fun w M1 => m126 (sv xs (i + 1)) M1 (fun w' M2 => w = w' ∧ R M2))
  | 8 => m76 (sv xs (i + 1)) (sv xs (i + 2)) M (fun w M1 => m128 (sv xs (i + 1)) (sv xs (i + 2)) M1 (fun w' M2 => w = w' ∧ R M2))
  | 9 => m77 (sv xs (i + 1)) M (fun w M1 => m129 (sv xs (i + 1)) M1 (fun w' M2 => w = w' ∧ R M2))
  | 10 => m78 M (fun w M1 => m130 M1 (fun w' M2 => w = w' ∧ R M2))
  | 11 => m81 (sv xs (i + 1)) (sv xs (i + 2)) (sv xs (i + 3)) M (fun w M1 => m132 (sv xs (i + 1)) (sv xs (i + 2)) (sv xs (i + 3)) M1 (fun w' M2 => w = w' ∧ R M2))
  | 12 => m82 (sv xs (i + 1)) (sv xs (i + 2)) (sv xs (i + 3)) M (fun w M1 => m133 (sv xs (i + 1)) (sv xs (i + 2)) (sv xs (i + 3)) M1 (fun w' M2 => w = w' ∧ R M2))
  | 13 => m83 M (fun w M1 => m134 M1 (fun w' M2 => w = w' ∧ R M2))
  | 14 => mLN (sv xs (i + 1)) M (fun r w M1 => m139 (sv xs (i + 1)) (xM r w M1) (fun w' M2 => m93 M2 (fun t M3 => t = (r : Int) ∧ (r = 0 → M3.2 46 0 = w') ∧ R M3)))
  | _ => mMD (sv xs (i + 1)) (sv xs (i + 2)) M (fun r w M1 => m140 (sv xs (i + 1)) (sv xs (i + 2)) (xM r w M1) (fun w' M2 => m93 M2 (fun t M3 => t = (r : Int) ∧ (r = 0 → M3.2 46 0 = w') ∧ R M3)))
section LQ
variable {p : Program} {l : Launch} {e : Env} {s : State} {m : MethodId} {below : List Frame} {meth : Method} {c : Code} {b L : Nat} {xs : Nat → Int32} {D : va_G} {tA : Nat → ClassId} {ad : Nat → Nat} {q1 q2 q3 : Nat} {H : Heap} {locs : List Loc} {ls : Array Slot}
theorem law_d40 : decode code 40 = .ok (.tableswitch 614 0 15 #[80, 153, 178, 191, 204, 229, 242, 279, 304, 341, 366, 379, 428, 477, 490, 546], 80) := by decide +kernel
set_option maxHeartbeats 4000000 in
set_option maxRecDepth 100000 in
theorem law_iter (K : lw_K p l s m meth c b L xs D tA ad q1 q2 q3) (hin : meth.name = "law") {t : Nat} {M : ev_M} {R : ev_M → Prop} (hst : 6 * t + 6 ≤ L → stp xs (6 * t) M R) (ht : 6 * t ≤ L) (hok : okM M) (hP : va_P D pg_cl (tm_cW tA ad (hp M)) H) (hD : va_D (fun q => s.heap.size ≤ q) (tm_cW tA ad (hp M))) (hS : va_S (fun q => s.heap.size ≤ q) s.heap H locs) (hlo : lv_has ls 7 (tm_cL ad (lwl (6 * t))))
    (kk : 6 * t + 6 ≤ L → ∀ (M2 : ev_M) (H1 : Heap) (locs1 : List Loc) (ls : Array Slot), R M2 → okM M2 → va_P D pg_cl (tm_cW tA ad (hp M2)) H1 → va_D (fun q => s.heap.size ≤ q) (tm_cW tA ad (hp M2)) → va_S (fun q => s.heap.size ≤ q) s.heap H1 locs1 → lv_has ls 7 (tm_cL ad (lwl (6 * (t + 1)))) → W p l e room_1 s m #[Value.ref b] below meth c H1 locs1 (47 + 2 * (t + 1)) (11036 + 12 * (t + 1)) (lw_Z below #[Value.ref b] s) (F0 m 23 ls (([] : List tm_V).map (tm_cv ad)))) :
    W p l e room_1 s m #[Value.ref b] below meth c H locs (47 + 2 * t) (11036 + 12 * t) (lw_Z below #[Value.ref b] s) (F0 m 23 ls (([] : List tm_V).map (tm_cv ad))) := by
  have hL := K.hL
  have hbA : ¬ (fun q => s.heap.size ≤ q) b := fun h => Nat.lt_irrefl _ (Nat.lt_of_lt_of_le K.hbl h)
  refine tm_lo_W (i := .iload 4) (lo' := lwl (6 * t)) (st' := [.inl ((6 * t : Nat) : Int)]) K.hx K.hb (by decide +kernel) rfl hlo (fun ls hlo => ?_)
  refine tm_lo_W (pc := 25) (i := .aload_n 0) (lo' := lwl (6 * t)) (st' := [rR 47, .inl ((6 * t : Nat) : Int)]) K.hx K.hb (by decide +kernel) rfl hlo (fun ls hlo => ?_)
  show W p l e room_1 s m #[Value.ref b] below meth c H locs (47 + 2 * t) (11036 + 12 * t) (lw_Z below #[Value.ref b] s) (F0 m 26 ls [.ref (ad 47), .int (Int32.ofInt ((6 * t : Nat) : Int))])
  rw [K.had]
  refine va_slen K.hx K.hb K.hX K.hbl hbA hS (by decide +kernel) ?_
  refine lv_bipush (n := 6) (v := 6) K.hx K.hb (by decide +kernel) (by decide) ?_
  refine lv_isub K.hx K.hb (by decide +kernel) ?_
  have e1 : Int32.ofNat L - 6 = Int32.ofInt ((L : Int) - 6) := by rw [Int32.ofInt_sub]; rfl
  rw [e1]
  have hc6 : (6 * t : Nat) ≤ 3072 := by omega
  have ho2 : ∀ v ∈ ([.inl ((L : Int) - 6), .inl ((6 * t : Nat) : Int)] : List tm_V), tm_ok 47 v := fun v hv => by
    simp only [List.mem_cons, List.not_mem_nil, or_false] at hv
    rcases hv with rfl | rfl
    · exact ⟨by omega, by omega⟩
    · exact ⟨by omega, by omega⟩
  show W p l e room_1 s m #[Value.ref b] below meth c H locs (47 + 2 * t) (11036 + 12 * t) (lw_Z below #[Value.ref b] s) (F0 m 30 ls (([.inl ((L : Int) - 6), .inl ((6 * t : Nat) : Int)] : List tm_V).map (tm_cv ad)))
  by_cases hend : 6 * t + 6 ≤ L
  · refine tm_br_W (i := .if_icmp .gt 630) (pc' := 33) (st' := []) (n := 47) K.hx K.hb (by decide +kernel) (by simp [tm_br, tm_cd]; omega) ho2 ?_
    have hst := hst hend
    have kk := kk hend
    have fin : ∀ (M2 : ev_M) (H1 : Heap) (locs1 : List Loc) (ls : Array Slot), R M2 → okM M2 → va_P D pg_cl (tm_cW tA ad (hp M2)) H1 → va_D (fun q => s.heap.size ≤ q) (tm_cW tA ad (hp M2)) → va_S (fun q => s.heap.size ≤ q) s.heap H1 locs1 → lv_has ls 7 (tm_cL ad (lwl (6 * t))) → W p l e room_1 s m #[Value.ref b] below meth c H1 locs1 (47 + 2 * t + 2) (11036 + 12 * t + 12) (lw_Z below #[Value.ref b] s) (F0 m 654 ls []) := by
      intro M2 H1 locs1 ls hR hok2 hP hD hS hlo
      show W p l e room_1 s m #[Value.ref b] below meth c H1 locs1 (47 + 2 * t + 2) (11036 + 12 * t + 12) (lw_Z below #[Value.ref b] s) (F0 m 654 ls (([] : List tm_V).map (tm_cv ad)))
      refine tm_lo_W (i := .iinc 4 6) (lo' := [(4, .inl ((6 * (t + 1) : Nat) : Int)), (0, rR 47), (1, rR 0), (2, rR 30), (3, rR 46)]) (st' := []) K.hx K.hb (by decide +kernel) (by
        have e2 : tm_i2 (fun a b => a + b) ((6 * t : Nat) : Int) 6 = ((6 * (t + 1) : Nat) : Int) := by
          rw [tm_add ⟨by omega, by omega⟩]; omega
        show some (tm_set1 (lwl (6 * t)) 4 (.inl (tm_i2 (fun a b => a + b) ((6 * t : Nat) : Int) 6)), ([] : List tm_V)) = _
        rw [e2]; rfl) hlo (fun ls hlo => ?_)
      refine tm_br_W (i := .goto (-634)) (pc' := 23) (st' := []) (n := 47) K.hx K.hb (by decide +kernel) rfl (fun v hv => by cases hv) ?_
      refine kk M2 H1 locs1 ls hR hok2 hP hD hS (tm_cL_sub hlo (fun q hq => ?_))
      simp only [List.mem_cons, List.not_mem_nil, or_false] at hq ⊢
      rcases hq with h | h | h | h | h
      · exact Or.inr (Or.inl h)
      · exact Or.inr (Or.inr (Or.inl h))
      · exact Or.inr (Or.inr (Or.inr (Or.inl h)))
      · exact Or.inr (Or.inr (Or.inr (Or.inr h)))
      · exact Or.inl h
    have finw : ∀ (M2 : ev_M) (H1 : Heap) (locs1 : List Loc) (ls : Array Slot), R M2 → okM M2 → va_P D pg_cl (tm_cW tA ad (hp M2)) H1 → va_D (fun q => s.heap.size ≤ q) (tm_cW tA ad (hp M2)) → va_S (fun q => s.heap.size ≤ q) s.heap H1 locs1 → lv_has ls 7 (tm_cL ad (lwl (6 * t))) → W p l e room_1 s m #[Value.ref b] below meth c H1 locs1 (47 + 2 * t) (11036 + 12 * t) (lw_Z below #[Value.ref b] s) (F0 m 654 ls []) := fun M2 H1 locs1 ls a1 a2 a3 a4 a5 a6 => W.widen (k := 47 + 2 * t + 2) (n := 11036 + 12 * t + 12) (by omega) (by omega) (fin M2 H1 locs1 ls a1 a2 a3 a4 a5 a6)
    have finl : ∀ (M2 : ev_M) (H1 : Heap) (locs1 : List Loc) (ls : Array Slot), R M2 → okM M2 → va_P D pg_cl (tm_cW tA ad (hp M2)) H1 → va_D (fun q => s.heap.size ≤ q) (tm_cW tA ad (hp M2)) → va_S (fun q => s.heap.size ≤ q) s.heap H1 locs1 → lv_has ls 7 (tm_cL ad (lwl (6 * t))) → W p l e room_1 s m #[Value.ref b] below meth c H1 locs1 (47 + 2 * t + 1) (11036 + 12 * t + 6) (lw_Z below #[Value.ref b] s) (F0 m 654 ls []) := fun M2 H1 locs1 ls a1 a2 a3 a4 a5 a6 => W.widen (k := 47 + 2 * t + 2) (n := 11036 + 12 * t + 12) (by omega) (by omega) (fin M2 H1 locs1 ls a1 a2 a3 a4 a5 a6)
    have hcs0 : 47 + 2 * t ≤ room_1.cells ∧ 11036 + 12 * t ≤ room_1.slots := ⟨by show 47 + 2 * t ≤ 1074; omega, by show 11036 + 12 * t ≤ 19246; omega⟩
    have hcs1 : 47 + 2 * t + 1 ≤ room_1.cells ∧ 11036 + 12 * t + 6 ≤ room_1.slots := ⟨by show 47 + 2 * t + 1 ≤ 1074; omega, by show 11036 + 12 * t + 6 ≤ 19246; omega⟩
    have hcs2 : 47 + 2 * t + 2 ≤ room_1.cells ∧ 11036 + 12 * t + 12 ≤ room_1.slots := ⟨by show 47 + 2 * t + 2 ≤ 1074; omega, by show 11036 + 12 * t + 12 ≤ 19246; omega⟩
    refine tm_lo_W (i := .aload_n 0) (st := []) (lo' := lwl (6 * t)) (st' := [rR 47]) K.hx K.hb (by decide +kernel) rfl hlo (fun ls hlo => ?_)
    refine tm_lo_W (pc := 34) (i := .iload 4) (lo' := lwl (6 * t)) (st' := [.inl ((6 * t : Nat) : Int), rR 47]) K.hx K.hb (by decide +kernel) rfl hlo (fun ls hlo => ?_)
    show W p l e room_1 s m #[Value.ref b] below meth c H locs (47 + 2 * t) (11036 + 12 * t) (lw_Z below #[Value.ref b] s) (F0 m 36 ls [.int (Int32.ofInt ((6 * t : Nat) : Int)), .ref (ad 47)])
    rw [K.had]
    obtain ⟨i1, i2⟩ := tm_in (i := ((6 * t : Nat) : Int)) (n := L) ⟨by omega, by omega⟩ ⟨by omega, by omega⟩
    refine va_sld K.hx K.hb K.hX K.hbl hbA hS i1 (by decide +kernel) ?_
    rw [i2, Int.toNat_natCast]
    refine lv_bipush (n := 15) (v := 15) K.hx K.hb (by decide +kernel) (by decide) ?_
    refine lv_iand K.hx K.hb (by decide +kernel) ?_
    obtain ⟨o1, o2⟩ := op_lt (xs (6 * t))
    unfold stp at hst
    have hopn : ((opn xs (6 * t) : Nat) : Int) = (xs (6 * t) &&& 15).toInt := by unfold opn; omega
    have sw : ∀ (off : Int) (tgt : Nat), (#[80, 153, 178, 191, 204, 229, 242, 279, 304, 341, 366, 379, 428, 477, 490, 546] : Array Int)[opn xs (6 * t)]? = some off → (40 : Int) + off = (tgt : Int) → W p l e room_1 s m #[Value.ref b] below meth c H locs (47 + 2 * t) (11036 + 12 * t) (lw_Z below #[Value.ref b] s) (F0 m tgt ls []) → W p l e room_1 s m #[Value.ref b] below meth c H locs (47 + 2 * t) (11036 + 12 * t) (lw_Z below #[Value.ref b] s) (F0 m 40 ls [.int (xs (6 * t) &&& 15)]) := by
      intro off tgt h1 h2 h3
      refine lv_tableIn K.hx K.hb law_d40 (by omega) (by omega) (off := off) ?_ h2 h3
      rw [Int.sub_zero]
      exact h1
    have hlt : opn xs (6 * t) < 16 := by omega
    generalize opn xs (6 * t) = k at hst sw hlt
    match k, hst, sw, hlt with
    | 0, hst, sw, _ => exact sw 80 120 rfl (by decide) (law_op K (na := 5) (y := 64) (y' := 97) (idx := 27) (idx' := 31) (j1 := 368) (j2 := 369) (j4 := 367) (k1 := 919) (k2 := 920) (k4 := 918) (off := 466) hst hok hend (by decide) hP hD hS hlo (by decide +kernel) (by decide +kernel) (by decide +kernel) (by decide +kernel) (by decide +kernel) hcs0 finw)
    | 1, hst, sw, _ => exact sw 153 193 rfl (by decide) (law_op K (na := 1) (y := 65) (y' := 98) (idx := 32) (idx' := 36) (j1 := 402) (j2 := 403) (j4 := 401) (k1 := 933) (k2 := 934) (k4 := 932) (off := 441) hst hok hend (by decide) hP hD hS hlo (by decide +kernel) (by decide +kernel) (by decide +kernel) (by decide +kernel) (by decide +kernel) hcs0 finw)
    | 2, hst, sw, _ => exact sw 178 218 rfl (by decide) (law_op K (na := 0) (y := 66) (y' := 99) (idx := 37) (idx' := 41) (j1 := 406) (j2 := 407) (j4 := 405) (k1 := 937) (k2 := 938) (k4 := 936) (off := 428) hst hok hend (by decide) hP hD hS hlo (by decide +kernel) (by decide +kernel) (by decide +kernel) (by decide +kernel) (by decide +kernel) hcs0 finw)
    | 3, hst, sw, _ => exact sw 191 231 rfl (by decide) (law_op K (na := 0) (y := 67) (y' := 100) (idx := 42) (idx' := 45) (j1 := 410) (j2 := 411) (j4 := 409) (k1 := 941) (k2 := 942) (k4 := 940) (off := 415) hst hok hend (by decide) hP hD hS hlo (by decide +kernel) (by decide +kernel) (by decide +kernel) (by decide +kernel) (by decide +kernel) hcs0 finw)
    | 4, hst, sw, _ => exact sw 204 244 rfl (by decide) (law_op K (na := 1) (y := 69) (y' := 122) (idx := 46) (idx' := 49) (j1 := 414) (j2 := 415) (j4 := 413) (k1 := 945) (k2 := 946) (k4 := 944) (off := 390) hst hok hend (by decide) hP hD hS hlo (by decide +kernel) (by decide +kernel) (by decide +kernel) (by decide +kernel) (by decide +kernel) hcs0 finw)
    | 5, hst, sw, _ => exact sw 229 269 rfl (by decide) (law_op K (na := 0) (y := 70) (y' := 123) (idx := 50) (idx' := 53) (j1 := 447) (j2 := 448) (j4 := 446) (k1 := 1035) (k2 := 1036) (k4 := 1034) (off := 377) hst hok hend (by decide) hP hD hS hlo (by decide +kernel) (by decide +kernel) (by decide +kernel) (by decide +kernel) (by decide +kernel) hcs0 finw)
    | 6, hst, sw, _ => exact sw 242 282 rfl (by decide) (law_op K (na := 2) (y := 72) (y' := 125) (idx := 54) (idx' := 57) (j1 := 451) (j2 := 452) (j4 := 450) (k1 := 1039) (k2 := 1040) (k4 := 1038) (off := 340) hst hok hend (by decide) hP hD hS hlo (by decide +kernel) (by decide +kernel) (by decide +kernel) (by decide +kernel) (by decide +kernel) hcs0 finw)
    | 7, hst, sw, _ => exact sw 279 319 rfl (by decide) (law_op K (na := 1) (y := 73) (y' := 126) (idx := 58) (idx' := 61) (j1 := 463) (j2 := 464) (j4 := 462) (k1 := 1047) (k2 := 1048) (k4 := 1046) (off := 315) hst hok hend (by decide) hP hD hS hlo (by decide +kernel) (by decide +kernel) (by decide +kernel) (by decide +kernel) (by decide +kernel) hcs0 finw)
    | 8, hst, sw, _ => exact sw 304 344 rfl (by decide) (law_op K (na := 2) (y := 76) (y' := 128) (idx := 62) (idx' := 66) (j1 := 472) (j2 := 473) (j4 := 471) (k1 := 1051) (k2 := 1052) (k4 := 1050) (off := 278) hst hok hend (by decide) hP hD hS hlo (by decide +kernel) (by decide +kernel) (by decide +kernel) (by decide +kernel) (by decide +kernel) hcs0 finw)
    | 9, hst, sw, _ => exact sw 341 381 rfl (by decide) (law_op K (na := 1) (y := 77) (y' := 129) (idx := 67) (idx' := 70) (j1 := 503) (j2 := 504) (j4 := 502) (k1 := 1059) (k2 := 1060) (k4 := 1058) (off := 253) hst hok hend (by decide) hP hD hS hlo (by decide +kernel) (by decide +kernel) (by decide +kernel) (by decide +kernel) (by decide +kernel) hcs0 finw)
    | 10, hst, sw, _ => exact sw 366 406 rfl (by decide) (law_op K (na := 0) (y := 78) (y' := 130) (idx := 71) (idx' := 75) (j1 := 513) (j2 := 514) (j4 := 512) (k1 := 1063) (k2 := 1064) (k4 := 1062) (off := 240) hst hok hend (by decide) hP hD hS hlo (by decide +kernel) (by decide +kernel) (by decide +kernel) (by decide +kernel) (by decide +kernel) hcs0 finw)
    | 11, hst, sw, _ => exact sw 379 419 rfl (by decide) (law_op K (na := 3) (y := 81) (y' := 132) (idx := 76) (idx' := 80) (j1 := 521) (j2 := 522) (j4 := 520) (k1 := 1067) (k2 := 1068) (k4 := 1066) (off := 191) hst hok hend (by decide) hP hD hS hlo (by decide +kernel) (by decide +kernel) (by decide +kernel) (by decide +kernel) (by decide +kernel) hcs0 finw)
    | 12, hst, sw, _ => exact sw 428 468 rfl (by decide) (law_op K (na := 3) (y := 82) (y' := 133) (idx := 81) (idx' := 85) (j1 := 603) (j2 := 604) (j4 := 602) (k1 := 1075) (k2 := 1076) (k4 := 1074) (off := 142) hst hok hend (by decide) hP hD hS hlo (by decide +kernel) (by decide +kernel) (by decide +kernel) (by decide +kernel) (by decide +kernel) hcs0 finw)
    | 13, hst, sw, _ => exact sw 477 517 rfl (by decide) (law_op K (na := 0) (y := 83) (y' := 134) (idx := 86) (idx' := 89) (j1 := 615) (j2 := 616) (j4 := 614) (k1 := 1079) (k2 := 1080) (k4 := 1078) (off := 129) hst hok hend (by decide) hP hD hS hlo (by decide +kernel) (by decide +kernel) (by decide +kernel) (by decide +kernel) (by decide +kernel) hcs0 finw)
    | 14, hst, sw, _ => exact sw 490 530 rfl (by decide) (law_len K hst hok hend hP hD hS hlo hin hcs1 finl)
    | 15, hst, sw, _ => exact sw 546 586 rfl (by decide) (law_mad K hst hok hend hP hD hS hlo hin hcs2 fin)
    | k + 16, _, _, h => exact absurd h (by omega)
  · refine tm_br_W (i := .if_icmp .gt 630) (pc' := 660) (st' := []) (n := 47) K.hx K.hb (by decide +kernel) (by simp [tm_br, tm_cd, tm_go]; omega) ho2 ?_
    refine lv_iconst (n := 1) (v := 1) K.hx K.hb (by decide +kernel) rfl ?_
    refine va_forget (fun q hq => hS.2.2 q hq) ?_
    refine W.widen (k := 1074) (n := 19246) (by omega) (by omega) ?_
    exact lw_ret K.hx K.hb K.hr K.hlocks (by decide +kernel)
theorem law_loop (K : lw_K p l s m meth c b L xs D tA ad q1 q2 q3) (hin : meth.name = "law") (Inv : Nat → ev_M → Prop) (hstep : ∀ (t : Nat) (M : ev_M), Inv t M → okM M → 6 * t + 6 ≤ L → stp xs (6 * t) M (Inv (t + 1))) : ∀ (d t : Nat) (M : ev_M) (H : Heap) (locs : List Loc) (ls : Array Slot), L ≤ 6 * t + 6 * d → 6 * t ≤ L → Inv t M → okM M → va_P D pg_cl (tm_cW tA ad (hp M)) H → va_D (fun q => s.heap.size ≤ q) (tm_cW tA ad (hp M)) → va_S (fun q => s.heap.size ≤ q) s.heap H locs → lv_has ls 7 (tm_cL ad (lwl (6 * t))) →
    W p l e room_1 s m #[Value.ref b] below meth c H locs (47 + 2 * t) (11036 + 12 * t) (lw_Z below #[Value.ref b] s) (F0 m 23 ls (([] : List tm_V).map (tm_cv ad))) := by
  intro d
  induction d with
  | zero => intro t M H locs ls h1 h2 hI hok hP hD hS hlo; exact law_iter K hin (fun h => absurd h (by omega)) h2 hok hP hD hS hlo (R := fun _ => True) (fun h => absurd h (by omega))
  | succ d ih =>
    intro t M H locs ls h1 h2 hI hok hP hD hS hlo
    exact law_iter K hin (hstep t M hI hok) h2 hok hP hD hS hlo (fun h M2 H1 locs1 ls a1 a2 a3 a4 a5 a6 => ih (t + 1) M2 H1 locs1 ls (by omega) (by omega) a1 a2 a3 a4 a5 a6)
end LQ

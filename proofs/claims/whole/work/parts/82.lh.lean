/-! The law's operations length and made: the helper, the model, what it threw -/
theorem lv_subm {ls : Array Slot} {n : Nat} {lv lv' : List (Nat × Value)} (h : lv_has ls n lv) (hs : ∀ q ∈ lv', q ∈ lv) : lv_has ls n lv' := ⟨h.1, h.2.1, fun q hq => h.2.2 q (hs q hq)⟩
theorem tm_cL_sub {ad : Nat → Nat} {ls : Array Slot} {n : Nat} {lo lo' : tm_L} (h : lv_has ls n (tm_cL ad lo)) (hs : ∀ q ∈ lo', q ∈ lo) : lv_has ls n (tm_cL ad lo') := lv_subm h (fun q hq => by
  obtain ⟨x, hx, rfl⟩ := List.mem_map.mp hq
  exact List.mem_map.mpr ⟨x, hs x hx, rfl⟩)
def ckh (pc na idS idM : Nat) (off : Int) : Bool := decide (decode code pc = .ok (.aload_n 1, 1)) && ((List.range na).all (fun j => ld5 (pc + 1 + 6 * j) (0 + j + 1)) && (decide (decode code (pc + 1 + 6 * na) = .ok (.aload_n 3, 1)) && (decide (decode code (pc + 1 + 6 * na + 1) = .ok (.invokestatic idS, 3)) && (decide (decode code (pc + 1 + 6 * na + 1 + 3) = .ok (.istore 5, 2)) && (decide (decode code (pc + 1 + 6 * na + 1 + 3 + 2) = .ok (.aload_n 2, 1)) && ((List.range na).all (fun j => ld5 (pc + 1 + 6 * na + 1 + 3 + 2 + 1 + 6 * j) (0 + j + 1)) && (decide (decode code (pc + 1 + 6 * na + 1 + 3 + 2 + 1 + 6 * na) = .ok (.invokevirtual idM, 3)) && decide (decode code (pc + 1 + 6 * na + 1 + 3 + 2 + 1 + 6 * na + 3) = .ok (.istore 6, 2)))))))))
def ckt (p2 : Nat) (off : Int) : Bool := decide (decode code p2 = .ok (.aload_n 2, 1)) && (decide (decode code (p2 + 1) = .ok (.invokevirtual 96, 3)) && (decide (decode code (p2 + 1 + 3) = .ok (.iload 5, 2)) && (decide (decode code (p2 + 1 + 3 + 2) = .ok (.if_icmp .eq 5, 3)) && (decide (decode code (p2 + 11) = .ok (.iload 5, 2)) && (decide (decode code (p2 + 11 + 2) = .ok (.ifCond .ne 15, 3)) && (decide (decode code (p2 + 16) = .ok (.aload_n 3, 1)) && (decide (decode code (p2 + 16 + 1) = .ok (.iconst 0, 1)) && (decide (decode code (p2 + 16 + 1 + 1) = .ok (.laload, 1)) && (decide (decode code (p2 + 16 + 1 + 1 + 1) = .ok (.iload 6, 2)) && (decide (decode code (p2 + 16 + 1 + 1 + 1 + 2) = .ok (.i2l, 1)) && (decide (decode code (p2 + 16 + 1 + 1 + 1 + 2 + 1) = .ok (.lcmp, 1)) && (decide (decode code (p2 + 16 + 1 + 1 + 1 + 2 + 1 + 1) = .ok (.ifCond .eq 5, 3)) && (decide (decode code (p2 + 28) = .ok (.goto off, 3)) && (decide (0 ≤ ((p2 + 28 : Nat) : Int) + off) && decide (tm_go (p2 + 28) off = 654)))))))))))))))
section LH
variable {p : Program} {l : Launch} {e : Env} {s : State} {m : MethodId} {below : List Frame} {meth : Method} {c : Code} {b L : Nat} {xs : Nat → Int32} {D : va_G} {tA : Nat → ClassId} {ad : Nat → Nat} {q1 q2 q3 : Nat} {H : Heap} {locs : List Loc} {cells slots : Nat} {Q : State → Prop} {ls : Array Slot}
abbrev lw6 (i : Nat) (r w' : Int) : tm_L := [(6, .inl w'), (5, .inl r), (0, rR 47), (1, rR 0), (2, rR 30), (3, rR 46), (4, .inl (i : Int))]
/-- the tail: what the model threw, then the answers -/
theorem law_t (K : lw_K p l s m meth c b L xs D tA ad q1 q2 q3) {p2 i : Nat} {off : Int} {M : ev_M} {Rr : ev_M → Prop} {r : Nat} {w' : Int} (hr3 : r ≤ 3) (hw' : tm_iI w')
    (hst : m93 M (fun t M3 => t = (r : Int) ∧ (r = 0 → M3.2 46 0 = w') ∧ Rr M3))
    (hok : okM M) (hP : va_P D pg_cl (tm_cW tA ad (hp M)) H) (hD : va_D (fun q => s.heap.size ≤ q) (tm_cW tA ad (hp M))) (hS : va_S (fun q => s.heap.size ≤ q) s.heap H locs) (hlo : lv_has ls 7 (tm_cL ad (lw6 i r w')))
    (hdec : ckt p2 off = true) (hin : meth.name = "law") (hcs : cells ≤ room_1.cells ∧ slots ≤ room_1.slots)
    (kk : ∀ (M2 : ev_M) (H1 : Heap) (locs1 : List Loc) (ls : Array Slot), Rr M2 → okM M2 → va_P D pg_cl (tm_cW tA ad (hp M2)) H1 → va_D (fun q => s.heap.size ≤ q) (tm_cW tA ad (hp M2)) → va_S (fun q => s.heap.size ≤ q) s.heap H1 locs1 → lv_has ls 7 (tm_cL ad (lwl i)) → W p l e room_1 s m #[Value.ref b] below meth c H1 locs1 cells slots Q (F0 m 654 ls [])) :
    W p l e room_1 s m #[Value.ref b] below meth c H locs cells slots Q (F0 m p2 ls []) := by
  simp only [ckt, Bool.and_eq_true, decide_eq_true_eq] at hdec
  obtain ⟨d0, d1, d2, d3, d4, d5, d6, d7, d8, d9, d10, d11, d12, d13, d14, d15⟩ := hdec
  obtain ⟨n, v, M3, hrun, w, rfl, rfl, heq, hR⟩ := hst
  have hrI : tm_iI (r : Int) := ⟨by omega, by omega⟩
  have ok1 : ∀ v ∈ ([.inl (r : Int)] : List tm_V), tm_ok 47 v := fun v hv => by rw [List.mem_singleton.mp hv]; exact hrI
  show W p l e room_1 s m #[Value.ref b] below meth c H locs cells slots Q (F0 m p2 ls (([] : List tm_V).map (tm_cv ad)))
  refine tm_lo_W (i := .aload_n 2) (lo' := lw6 i r w') (st' := [rR 30]) K.hx K.hb d0 rfl hlo (fun ls hlo => ?_)
  refine xg_V (c0 := tm_cd1 pgl 0) (n := n) (y := 93) (a := 30) (ci := 8) (idx := 96) (j1 := 915) (j2 := 916) (j3 := 81) (j4 := 914) (na := 0) (as := []) (rest := []) (q := ("NulledForestModel", pgF8, 31)) (v := some (.inl (r : Int))) (M1 := M3) K.hx K.hb K.hml K.hown K.hts K.hnw (by decide +kernel) rfl (by decide +kernel) (by decide +kernel) K.hK hP hD hS (fun q h => h) hok rfl rfl hrun (Nat.le_of_ble_eq_true rfl) (fun w hw => by cases hw) (by decide) hlo.1 hcs d1 (fun H1 locs1 hP hD hS hok3 _ => ?_)
  refine tm_lo_W (i := .iload 5) (st := [.inl (r : Int)]) (lo' := lw6 i r w') (st' := [.inl (r : Int), .inl (r : Int)]) K.hx K.hb d2 rfl hlo (fun ls hlo => ?_)
  refine tm_br_W (i := .if_icmp .eq 5) (pc' := p2 + 11) (st' := []) (n := 47) K.hx K.hb d3 (by
    simp only [tm_br, tm_cd, decide_true, if_true, tm_go]
    rw [if_pos (by omega)]
    congr 2) (fun v hv => by
      simp only [List.mem_cons, List.not_mem_nil, or_false, or_self] at hv
      rw [hv]; exact hrI) ?_
  refine tm_lo_W (i := .iload 5) (st := []) (lo' := lw6 i r w') (st' := [.inl (r : Int)]) K.hx K.hb d4 rfl hlo (fun ls hlo => ?_)
  have fin : ∀ (ls : Array Slot) (locs1 : List Loc) (H1 : Heap), va_P D pg_cl (tm_cW tA ad (hp M3)) H1 → va_D (fun q => s.heap.size ≤ q) (tm_cW tA ad (hp M3)) → va_S (fun q => s.heap.size ≤ q) s.heap H1 locs1 → lv_has ls 7 (tm_cL ad (lw6 i r w')) → W p l e room_1 s m #[Value.ref b] below meth c H1 locs1 cells slots Q (F0 m (p2 + 28) ls (([] : List tm_V).map (tm_cv ad))) := by
    intro ls locs1 H1 hP hD hS hlo
    refine tm_br_W (i := .goto off) (pc' := 654) (st' := []) (n := 47) K.hx K.hb d13 (by
      simp only [tm_br]
      rw [if_pos d14, d15]) (fun v hv => by cases hv) ?_
    exact kk M3 H1 locs1 ls hR hok3 hP hD hS (tm_cL_sub hlo (fun q hq => List.mem_cons_of_mem _ (List.mem_cons_of_mem _ hq)))
  by_cases h0 : r = 0
  · refine tm_br_W (i := .ifCond .ne 15) (pc' := p2 + 16) (st' := []) (n := 47) K.hx K.hb d5 (by
      simp only [tm_br, tm_cd, h0, tm_go]
      rw [if_pos (by omega)]
      simp [tm_len]) ok1 ?_
    refine tm_lo_W (i := .aload_n 3) (st := []) (lo' := lw6 i r w') (st' := [rR 46]) K.hx K.hb d6 rfl hlo (fun ls hlo => ?_)
    refine tm_pu_W (i := .iconst 0) (st' := [.inl 0, rR 46]) (n := 47) K.hx K.hb d7 rfl (fun v hv => by rw [List.mem_singleton.mp hv]; show 46 < 47; decide) ?_
    have hoa : ∀ v ∈ ([.inl 0, rR 46] : List tm_V), tm_ok 47 v := fun v hv => by
      simp only [List.mem_cons, List.not_mem_nil, or_false] at hv
      rcases hv with rfl | rfl
      · exact ok_zI
      · show 46 < 47; decide
    refine tm_hp_W (pg := pgl) (k := 0) (nM := 0) (T := lw_tbl) (host := "NulledForest") (ty := pg_ty) (i := .laload) (xs := []) (z := 0) (st' := [.inr (.inl (M3.2 46 0))]) (h' := hp M3) K.hx K.hb K.hown K.hts K.hnw hin pg_ckT K.hK hP hD hS d8 rfl rfl hoa hok3 (fun H1 locs1 hP hD hS => ?_)
    rw [heq h0]
    refine tm_lo_W (i := .iload 6) (st := [.inr (.inl w')]) (lo' := lw6 i r w') (st' := [.inl w', .inr (.inl w')]) K.hx K.hb d9 rfl hlo (fun ls hlo => ?_)
    have hwL : tm_iL w' := ⟨by have := hw'.1; omega, by have := hw'.2; omega⟩
    refine tm_pu_W (i := .i2l) (st' := [.inr (.inl w'), .inr (.inl w')]) (n := 47) K.hx K.hb d10 rfl (fun v hv => by
      simp only [List.mem_cons, List.not_mem_nil, or_false] at hv
      rcases hv with rfl | rfl
      · exact hw'
      · exact hwL) ?_
    refine tm_pu_W (i := .lcmp) (st' := [.inl 0]) (n := 47) K.hx K.hb d11 (by simp [tm_pu, tm_bl]) (fun v hv => by
      simp only [List.mem_cons, List.not_mem_nil, or_false, or_self] at hv
      rw [hv]; exact hwL) ?_
    refine tm_br_W (i := .ifCond .eq 5) (pc' := p2 + 28) (st' := []) (n := 47) K.hx K.hb d12 (by
      simp only [tm_br, tm_cd, tm_go, decide_true, if_true]
      rw [if_pos (by omega)]
      congr 2) (fun v hv => by rw [List.mem_singleton.mp hv]; exact ok_zI) ?_
    exact fin ls locs1 H1 hP hD hS hlo
  · refine tm_br_W (i := .ifCond .ne 15) (pc' := p2 + 28) (st' := []) (n := 47) K.hx K.hb d5 (by
      have h1 : ¬ ((r : Int) = 0) := by omega
      simp only [tm_br, tm_cd, h1, tm_go, not_false_eq_true, decide_true, if_true]
      rw [if_pos (by omega)]
      congr 2) ok1 ?_
    exact fin ls locs1 H1 hP hD hS hlo
end LH

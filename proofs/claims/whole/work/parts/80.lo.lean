/-! The law: its script, its operations -/
def pgl : Nat → tm_M := fun _ => (x, code, 7, ret, "NulledForestLaw", room_1)
/-- the value of the script at k -/
def sv (xs : Nat → Int32) (k : Nat) : Int := (xs k).toInt
theorem sv_ok (xs : Nat → Int32) (k : Nat) : tm_iI (sv xs k) := ⟨Int32.le_toInt _, Int32.toInt_lt _⟩
def sas (xs : Nat → Int32) (i na : Nat) : List tm_V := (List.range na).map (fun j => .inl (sv xs (i + j + 1)))
/-- the five instructions that load the script's j-th number behind i -/
def ld5 (pc j : Nat) : Bool := decide (decode code pc = .ok (.aload_n 0, 1)) && (decide (decode code (pc + 1) = .ok (.iload 4, 2)) && (decide (decode code (pc + 3) = .ok (.iconst (j : Int), 1)) && (decide (decode code (pc + 4) = .ok (.iadd, 1)) && decide (decode code (pc + 5) = .ok (.iaload, 1)))))
abbrev lwl (i : Nat) : tm_L := [(0, rR 47), (1, rR 0), (2, rR 30), (3, rR 46), (4, .inl (i : Int))]
/-- what stands fast in the law's walk -/
def lw_K (p : Program) (l : Launch) (s : State) (m : MethodId) (meth : Method) (c : Code) (b L : Nat) (xs : Nat → Int32) (D : va_G) (tA : Nat → ClassId) (ad : Nat → Nat) (q1 q2 q3 : Nat) : Prop :=
  (p.tables.exec = Jvm.exec) ∧
  (c.code = code) ∧
  (meth.sig.returnType = ret) ∧
  (c.maxLocals = 7) ∧
  (s.vm.findClass "NulledForestLaw" = some m.cls) ∧
  (∀ w ∈ tm_cd1 pgl 0 :: tm_WB lw_tbl, w.before #[Value.ref b] s = true) ∧
  (∀ w ∈ tm_WN lw_tbl, va_Nw w s) ∧
  (va_X b L xs s s.heap) ∧
  (b < s.heap.size) ∧
  (meth.locks = false) ∧
  (va_K D pg_cl (tm_tys tA) s) ∧
  (xz2 (fun q => s.heap.size ≤ q) s s.heap) ∧
  (xks q1 q2 q3 s) ∧
  (xnc s) ∧
  (l.flags = flags0) ∧
  (L ≤ 3072) ∧
  (ad 47 = b)
theorem lw_K.hx {p : Program} {l : Launch} {s : State} {m : MethodId} {meth : Method} {c : Code} {b L : Nat} {xs : Nat → Int32} {D : va_G} {tA : Nat → ClassId} {ad : Nat → Nat} {q1 q2 q3 : Nat} (K : lw_K p l s m meth c b L xs D tA ad q1 q2 q3) : p.tables.exec = Jvm.exec := K.1
theorem lw_K.hb {p : Program} {l : Launch} {s : State} {m : MethodId} {meth : Method} {c : Code} {b L : Nat} {xs : Nat → Int32} {D : va_G} {tA : Nat → ClassId} {ad : Nat → Nat} {q1 q2 q3 : Nat} (K : lw_K p l s m meth c b L xs D tA ad q1 q2 q3) : c.code = code := K.2.1
theorem lw_K.hr {p : Program} {l : Launch} {s : State} {m : MethodId} {meth : Method} {c : Code} {b L : Nat} {xs : Nat → Int32} {D : va_G} {tA : Nat → ClassId} {ad : Nat → Nat} {q1 q2 q3 : Nat} (K : lw_K p l s m meth c b L xs D tA ad q1 q2 q3) : meth.sig.returnType = ret := K.2.2.1
theorem lw_K.hml {p : Program} {l : Launch} {s : State} {m : MethodId} {meth : Method} {c : Code} {b L : Nat} {xs : Nat → Int32} {D : va_G} {tA : Nat → ClassId} {ad : Nat → Nat} {q1 q2 q3 : Nat} (K : lw_K p l s m meth c b L xs D tA ad q1 q2 q3) : c.maxLocals = 7 := K.2.2.2.1
theorem lw_K.hown {p : Program} {l : Launch} {s : State} {m : MethodId} {meth : Method} {c : Code} {b L : Nat} {xs : Nat → Int32} {D : va_G} {tA : Nat → ClassId} {ad : Nat → Nat} {q1 q2 q3 : Nat} (K : lw_K p l s m meth c b L xs D tA ad q1 q2 q3) : s.vm.findClass "NulledForestLaw" = some m.cls := K.2.2.2.2.1
theorem lw_K.hts {p : Program} {l : Launch} {s : State} {m : MethodId} {meth : Method} {c : Code} {b L : Nat} {xs : Nat → Int32} {D : va_G} {tA : Nat → ClassId} {ad : Nat → Nat} {q1 q2 q3 : Nat} (K : lw_K p l s m meth c b L xs D tA ad q1 q2 q3) : ∀ w ∈ tm_cd1 pgl 0 :: tm_WB lw_tbl, w.before #[Value.ref b] s = true := K.2.2.2.2.2.1
theorem lw_K.hnw {p : Program} {l : Launch} {s : State} {m : MethodId} {meth : Method} {c : Code} {b L : Nat} {xs : Nat → Int32} {D : va_G} {tA : Nat → ClassId} {ad : Nat → Nat} {q1 q2 q3 : Nat} (K : lw_K p l s m meth c b L xs D tA ad q1 q2 q3) : ∀ w ∈ tm_WN lw_tbl, va_Nw w s := K.2.2.2.2.2.2.1
theorem lw_K.hX {p : Program} {l : Launch} {s : State} {m : MethodId} {meth : Method} {c : Code} {b L : Nat} {xs : Nat → Int32} {D : va_G} {tA : Nat → ClassId} {ad : Nat → Nat} {q1 q2 q3 : Nat} (K : lw_K p l s m meth c b L xs D tA ad q1 q2 q3) : va_X b L xs s s.heap := K.2.2.2.2.2.2.2.1
theorem lw_K.hbl {p : Program} {l : Launch} {s : State} {m : MethodId} {meth : Method} {c : Code} {b L : Nat} {xs : Nat → Int32} {D : va_G} {tA : Nat → ClassId} {ad : Nat → Nat} {q1 q2 q3 : Nat} (K : lw_K p l s m meth c b L xs D tA ad q1 q2 q3) : b < s.heap.size := K.2.2.2.2.2.2.2.2.1
theorem lw_K.hlocks {p : Program} {l : Launch} {s : State} {m : MethodId} {meth : Method} {c : Code} {b L : Nat} {xs : Nat → Int32} {D : va_G} {tA : Nat → ClassId} {ad : Nat → Nat} {q1 q2 q3 : Nat} (K : lw_K p l s m meth c b L xs D tA ad q1 q2 q3) : meth.locks = false := K.2.2.2.2.2.2.2.2.2.1
theorem lw_K.hK {p : Program} {l : Launch} {s : State} {m : MethodId} {meth : Method} {c : Code} {b L : Nat} {xs : Nat → Int32} {D : va_G} {tA : Nat → ClassId} {ad : Nat → Nat} {q1 q2 q3 : Nat} (K : lw_K p l s m meth c b L xs D tA ad q1 q2 q3) : va_K D pg_cl (tm_tys tA) s := K.2.2.2.2.2.2.2.2.2.2.1
theorem lw_K.hz {p : Program} {l : Launch} {s : State} {m : MethodId} {meth : Method} {c : Code} {b L : Nat} {xs : Nat → Int32} {D : va_G} {tA : Nat → ClassId} {ad : Nat → Nat} {q1 q2 q3 : Nat} (K : lw_K p l s m meth c b L xs D tA ad q1 q2 q3) : xz2 (fun q => s.heap.size ≤ q) s s.heap := K.2.2.2.2.2.2.2.2.2.2.2.1
theorem lw_K.hks {p : Program} {l : Launch} {s : State} {m : MethodId} {meth : Method} {c : Code} {b L : Nat} {xs : Nat → Int32} {D : va_G} {tA : Nat → ClassId} {ad : Nat → Nat} {q1 q2 q3 : Nat} (K : lw_K p l s m meth c b L xs D tA ad q1 q2 q3) : xks q1 q2 q3 s := K.2.2.2.2.2.2.2.2.2.2.2.2.1
theorem lw_K.hnc {p : Program} {l : Launch} {s : State} {m : MethodId} {meth : Method} {c : Code} {b L : Nat} {xs : Nat → Int32} {D : va_G} {tA : Nat → ClassId} {ad : Nat → Nat} {q1 q2 q3 : Nat} (K : lw_K p l s m meth c b L xs D tA ad q1 q2 q3) : xnc s := K.2.2.2.2.2.2.2.2.2.2.2.2.2.1
theorem lw_K.hl {p : Program} {l : Launch} {s : State} {m : MethodId} {meth : Method} {c : Code} {b L : Nat} {xs : Nat → Int32} {D : va_G} {tA : Nat → ClassId} {ad : Nat → Nat} {q1 q2 q3 : Nat} (K : lw_K p l s m meth c b L xs D tA ad q1 q2 q3) : l.flags = flags0 := K.2.2.2.2.2.2.2.2.2.2.2.2.2.2.1
theorem lw_K.hL {p : Program} {l : Launch} {s : State} {m : MethodId} {meth : Method} {c : Code} {b L : Nat} {xs : Nat → Int32} {D : va_G} {tA : Nat → ClassId} {ad : Nat → Nat} {q1 q2 q3 : Nat} (K : lw_K p l s m meth c b L xs D tA ad q1 q2 q3) : L ≤ 3072 := K.2.2.2.2.2.2.2.2.2.2.2.2.2.2.2.1
theorem lw_K.had {p : Program} {l : Launch} {s : State} {m : MethodId} {meth : Method} {c : Code} {b L : Nat} {xs : Nat → Int32} {D : va_G} {tA : Nat → ClassId} {ad : Nat → Nat} {q1 q2 q3 : Nat} (K : lw_K p l s m meth c b L xs D tA ad q1 q2 q3) : ad 47 = b := K.2.2.2.2.2.2.2.2.2.2.2.2.2.2.2.2
section LO
variable {p : Program} {l : Launch} {e : Env} {s : State} {m : MethodId} {below : List Frame} {meth : Method} {c : Code} {b L : Nat} {xs : Nat → Int32} {D : va_G} {tA : Nat → ClassId} {ad : Nat → Nat} {q1 q2 q3 : Nat} {H : Heap} {locs : List Loc} {cells slots : Nat} {Q : State → Prop} {pc : Nat} {ls : Array Slot}
theorem xs_ld (K : lw_K p l s m meth c b L xs D tA ad q1 q2 q3) (hS : va_S (fun q => s.heap.size ≤ q) s.heap H locs) {lo : tm_L} {i j : Nat} (h0 : ∀ st : List tm_V, tm_lo 7 (.aload_n 0) lo st = some (lo, rR 47 :: st)) (h4 : ∀ st : List tm_V, tm_lo 7 (.iload 4) lo st = some (lo, .inl (i : Int) :: st)) (hij : i + j < L) (hlo : lv_has ls 7 (tm_cL ad lo)) (hd : ld5 pc j = true) {st : List tm_V}
    (kk : ∀ ls : Array Slot, lv_has ls 7 (tm_cL ad lo) → W p l e room_1 s m #[Value.ref b] below meth c H locs cells slots Q (F0 m (pc + 6) ls (((.inl (sv xs (i + j))) :: st).map (tm_cv ad)))) :
    W p l e room_1 s m #[Value.ref b] below meth c H locs cells slots Q (F0 m pc ls (st.map (tm_cv ad))) := by
  simp only [ld5, Bool.and_eq_true, decide_eq_true_eq] at hd
  obtain ⟨d0, d1, d2, d3, d4⟩ := hd
  have hL := K.hL
  refine tm_lo_W (i := .aload_n 0) (lo' := lo) (st' := rR 47 :: st) K.hx K.hb d0 (h0 _) hlo (fun ls hlo => ?_)
  refine tm_lo_W (pc := pc + 1) (i := .iload 4) (lo' := lo) (st' := .inl (i : Int) :: rR 47 :: st) K.hx K.hb d1 (h4 _) hlo (fun ls hlo => ?_)
  refine lv_iconst (v := Int32.ofInt (j : Int)) K.hx K.hb d2 rfl ?_
  have e1 : Int32.ofInt (i : Int) + Int32.ofInt (j : Int) = Int32.ofInt ((i + j : Nat) : Int) := by rw [Int.natCast_add, Int32.ofInt_add]
  refine lv_iadd K.hx K.hb d3 ?_
  rw [e1]
  show W p l e room_1 s m #[Value.ref b] below meth c H locs cells slots Q (F0 m (pc + 5) ls (.int (Int32.ofInt ((i + j : Nat) : Int)) :: .ref (ad 47) :: st.map (tm_cv ad)))
  rw [K.had]
  obtain ⟨i1, i2⟩ := tm_in (i := ((i + j : Nat) : Int)) (n := L) ⟨by omega, by omega⟩ ⟨by omega, by omega⟩
  refine va_sld K.hx K.hb K.hX K.hbl (fun h => Nat.lt_irrefl _ (Nat.lt_of_lt_of_le K.hbl h)) hS i1 d4 ?_
  have := kk ls hlo
  rw [i2]
  have e2 : Int32.ofInt (sv xs (i + j)) = xs (i + j) := Int32.ofInt_toInt _
  show W p l e room_1 s m #[Value.ref b] below meth c H locs cells slots Q (F0 m (pc + 6) ls (.int (xs ((i + j : Nat) : Int).toNat) :: st.map (tm_cv ad)))
  rw [Int.toNat_natCast, ← e2]
  exact this
theorem xs_lds (K : lw_K p l s m meth c b L xs D tA ad q1 q2 q3) (hS : va_S (fun q => s.heap.size ≤ q) s.heap H locs) {lo : tm_L} {i : Nat} (h0 : ∀ st : List tm_V, tm_lo 7 (.aload_n 0) lo st = some (lo, rR 47 :: st)) (h4 : ∀ st : List tm_V, tm_lo 7 (.iload 4) lo st = some (lo, .inl (i : Int) :: st)) : ∀ (na k0 pc : Nat) (ls : Array Slot) (st : List tm_V), i + k0 + na < L → lv_has ls 7 (tm_cL ad lo) → (List.range na).all (fun j => ld5 (pc + 6 * j) (k0 + j + 1)) = true →
    (∀ ls : Array Slot, lv_has ls 7 (tm_cL ad lo) → W p l e room_1 s m #[Value.ref b] below meth c H locs cells slots Q (F0 m (pc + 6 * na) ls (((sas xs (i + k0) na).reverse ++ st).map (tm_cv ad)))) →
    W p l e room_1 s m #[Value.ref b] below meth c H locs cells slots Q (F0 m pc ls (st.map (tm_cv ad))) := by
  intro na
  induction na with
  | zero => intro k0 pc ls st _ hlo _ kk; exact kk ls hlo
  | succ na ih =>
    intro k0 pc ls st hL hlo hd kk
    have hd' := List.all_eq_true.mp hd
    have d0 := hd' 0 (by simp)
    refine xs_ld K hS h0 h4 (j := k0 + 1) (by omega) hlo (by simpa using d0) (fun ls hlo => ?_)
    refine ih (k0 + 1) (pc + 6) ls _ (by omega) hlo ?_ (fun ls hlo => ?_)
    · refine List.all_eq_true.mpr (fun j hj => ?_)
      have := hd' (j + 1) (by simp at hj ⊢; omega)
      rw [show pc + 6 + 6 * j = pc + 6 * (j + 1) by omega, show k0 + 1 + j + 1 = k0 + (j + 1) + 1 by omega]
      exact this
    · have := kk ls hlo
      rw [show pc + 6 + 6 * na = pc + 6 * (na + 1) by omega]
      have e1 : (sas xs (i + k0) (na + 1)).reverse ++ st = (sas xs (i + (k0 + 1)) na).reverse ++ .inl (sv xs (i + (k0 + 1))) :: st := by
        unfold sas
        rw [List.range_succ_eq_map, List.map_cons, List.reverse_cons, List.append_assoc, List.map_map]
        have e3 : ((fun j => (.inl (sv xs (i + k0 + j + 1)) : tm_V)) ∘ Nat.succ) = (fun j => .inl (sv xs (i + (k0 + 1) + j + 1))) := by
          funext j
          show (.inl (sv xs (i + k0 + (j + 1) + 1)) : tm_V) = _
          rw [show i + k0 + (j + 1) + 1 = i + (k0 + 1) + j + 1 by omega]
        rw [e3]
        rfl
      rw [e1] at this
      exact this
end LO

/-! From the small machine to the model: what is to be checked of the program's tables, and the heap's instructions -/
def tm_nest (w : Cond) : Bool := match w with
  | .fieldLinkNest _ _ _ _ _ _ => true
  | .methodLinkNest _ _ _ _ => true
  | .declares _ => true
  | .castable _ _ => true
  | _ => false
/-- the words of a list T that go with a contract, and the nest mates' -/
def tm_WB (T : List Cond) : List Cond := T.filter goodWord
def tm_WN (T : List Cond) : List Cond := T.filter tm_nest
def tm_inB (T : List Cond) (j : Nat) (w : Cond) : Bool := decide (T[j]? = some w) && goodWord w
def tm_inN (T : List Cond) (j : Nat) (w : Cond) : Bool := decide (T[j]? = some w) && tm_nest w
theorem tm_inB_mem {T : List Cond} {j : Nat} {w : Cond} (h : tm_inB T j w = true) : w ∈ tm_WB T := by
  simp only [tm_inB, Bool.and_eq_true, decide_eq_true_eq] at h
  exact List.mem_filter.mpr ⟨List.mem_of_getElem? h.1, h.2⟩
theorem tm_inN_mem {T : List Cond} {j : Nat} {w : Cond} (h : tm_inN T j w = true) : w ∈ tm_WN T := by
  simp only [tm_inN, Bool.and_eq_true, decide_eq_true_eq] at h
  exact List.mem_filter.mpr ⟨List.mem_of_getElem? h.1, h.2⟩
theorem tm_WB_good (T : List Cond) : (tm_WB T).all goodWord = true := List.all_eq_true.mpr (fun _ h => (List.mem_filter.mp h).2)
theorem tm_WN_nest (T : List Cond) : (tm_WN T).all tm_nest = true := List.all_eq_true.mpr (fun _ h => (List.mem_filter.mp h).2)
def tm_ckL (T : List Cond) (j : Nat) (host own : String) (idx : Nat) (f : String × String × String × Bool) : Bool := tm_inB T j (.fieldLink own idx f.1 f.2.1 f.2.2.1) || tm_inN T j (.fieldLinkNest own idx f.1 f.2.1 f.2.2.1 host)
def tm_ckM (T : List Cond) (j : Nat) (host own : String) (idx : Nat) (y : MethodName) : Bool := tm_inB T j (.methodLink own idx y) || tm_inN T j (.methodLinkNest own idx y host)
def tm_ckC (pg : Nat → tm_M) (nM k y n : Nat) : Bool := decide (y < nM) && (decide ((pg y).2.2.2.2.2.frames + 1 ≤ (pg k).2.2.2.2.2.frames) && (decide (8 + ((pg y).2.2.1 + 11) + (pg y).2.2.2.2.2.locals ≤ (pg k).2.2.2.2.2.locals) && (decide ((pg y).1.cls ≠ "java/lang/invoke/MethodHandle") && (decide ((pg y).1.cls ≠ "java/lang/invoke/VarHandle") && (decide ((parseMethodDescriptor (pg y).1.desc).map (fun d => d.parameters.length) = some n) && plainName (pg y).1.cls)))))
def tm_ckI (pg : Nat → tm_M) (nM : Nat) (T : List Cond) (host : String) (cl : List vw_C) (ty : Nat → Nat → FieldType) (k : Nat) (i : tm_J) (xs : List Nat) (c : Int) : Bool := match i with
  | .getfield idx => (match xs with
    | ci :: sl :: j :: _ => (match cl[ci]? with
      | some q => decide (sl < q.2.2) && tm_ckL T j host (pg k).2.2.2.2.1 idx (q.2.1 sl)
      | none => false)
    | _ => false)
  | .putfield idx => (match xs with
    | ci :: sl :: t :: j :: _ => (match cl[ci]? with
      | some q => decide (sl < q.2.2) && (decide (tm_tyc (ty ci sl) = t) && (if (q.2.1 sl).2.2.2 = true then tm_inB T j (.fieldLink (pg k).2.2.2.2.1 idx (q.2.1 sl).1 (q.2.1 sl).2.1 (q.2.1 sl).2.2.1) && (decide ((pg k).1.name = "<init>") && decide ((q.2.1 sl).1 = (pg k).2.2.2.2.1)) else tm_ckL T j host (pg k).2.2.2.2.1 idx (q.2.1 sl)))
      | none => false)
    | _ => false)
  | .new idx => (match xs with
    | ci :: j1 :: j2 :: j3 :: _ => (match cl[ci]? with
      | some q => tm_inB T j1 (.classLink (pg k).2.2.2.2.1 idx q.1) && (tm_inB T j2 (.instantiable q.1 q.2.2) && tm_inB T j3 (.initialized q.1))
      | none => false)
    | _ => false)
  | .newarray at_ => (match xs with
    | t :: j :: _ => tm_inB T j (.arrayClass (newarray.typeOf at_)) && (decide (newarray.typeOf at_ = tm_aty t) && decide (t < 3))
    | _ => false)
  | .ldc idx => (match xs with
    | j :: _ => tm_inB T j (.constant (pg k).2.2.2.2.1 idx (Int32.ofInt c))
    | _ => false)
  | .ldc2_w idx => (match xs with
    | j :: _ => tm_inB T j (.constantLong (pg k).2.2.2.2.1 idx (Int64.ofInt c))
    | _ => false)
  | .invokevirtual idx => (match xs with
    | y :: na :: ci :: j1 :: j2 :: j3 :: j4 :: _ => (match cl[ci]? with
      | some q => decide (0 < na) && (tm_ckC pg nM k y (na - 1) && (decide ((pg y).1.cls = q.1) && (tm_inB T j1 (.instanceMethod (pg y).1) && (tm_inB T j2 (.selects q.1 (pg y).1 (pg y).1) && (tm_inB T j3 (.initialized q.1) && tm_ckM T j4 host (pg k).2.2.2.2.1 idx (pg y).1)))))
      | none => false)
    | _ => false)
  | .invokestatic idx => (match xs with
    | y :: na :: j1 :: j2 :: j3 :: _ => tm_ckC pg nM k y na && (tm_inB T j1 (.static (pg y).1) && (tm_inB T j2 (.initialized (pg y).1.cls) && tm_ckM T j3 host (pg k).2.2.2.2.1 idx (pg y).1))
    | _ => false)
  | .invokespecial idx => (match xs with
    | [j1, j2, j3] => tm_inB T j1 (.methodLink (pg k).2.2.2.2.1 idx objectInit) && (tm_inB T j2 (.instanceMethod objectInit) && (tm_inB T j3 (.code objectInit ⟨#[0xb1]⟩ 1 none) && (decide (1 ≤ (pg k).2.2.2.2.2.frames) && decide (20 ≤ (pg k).2.2.2.2.2.locals))))
    | y :: na :: j1 :: j2 :: j3 :: _ => decide (0 < na) && (tm_ckC pg nM k y (na - 1) && (decide ((pg y).1.name = "<init>") && (decide ((pg y).2.2.2.1 = none) && (tm_inB T j1 (.instanceMethod (pg y).1) && (tm_inB T j2 (.initialized (pg y).1.cls) && tm_ckM T j3 host (pg k).2.2.2.2.1 idx (pg y).1)))))
    | _ => false)
  | _ => true
def tm_ck (pg : Nat → tm_M) (nM : Nat) (T : List Cond) (host : String) (cl : List vw_C) (ty : Nat → Nat → FieldType) (k pc : Nat) (i : tm_J) (xs : List Nat) (c : Int) : Bool := decide (decode (pg k).2.1 pc = .ok (i, tm_len i)) && tm_ckI pg nM T host cl ty k i xs c
/-- what the classes' table must say -/
def tm_ckT (T : List Cond) (cl : List vw_C) (ty : Nat → Nat → FieldType) : Prop := ∀ (ci : Nat) (q : vw_C), cl[ci]? = some q → (∀ w ∈ u_ws q.1 q.2.1 q.2.2, w ∈ tm_WB T) ∧ (∀ k, k < q.2.2 → parseFieldDescriptor (q.2.1 k).2.2.1 = some (ty ci k)) ∧ (∀ a, a < q.2.2 → ∀ b, b < q.2.2 → a ≠ b → (q.2.1 a).2.1 ≠ (q.2.1 b).2.1) ∧ ∀ k, k < q.2.2 → tm_tyc (ty ci k) < 4
/-- the array classes -/
def tm_tys (tA : Nat → ClassId) : List (ClassId × FieldType) := [(tA 0, .int), (tA 1, .long), (tA 2, .boolean)]
section TMI
variable {pg : Nat → tm_M} {nM : Nat} {T : List Cond} {host : String} {cl : List vw_C} {ty : Nat → Nat → FieldType} {k : Nat} {z : Int}
theorem tm_ckI_get {idx ci sl : Nat} {r : List Nat} (h : tm_ckI pg nM T host cl ty k (.getfield idx) (ci :: sl :: r) z = true) : ∃ (j : Nat) (q : vw_C), cl[ci]? = some q ∧ sl < q.2.2 ∧ tm_ckL T j host (pg k).2.2.2.2.1 idx (q.2.1 sl) = true := by
  cases r with
  | nil => simp [tm_ckI] at h
  | cons j r =>
    simp only [tm_ckI] at h
    cases hq : cl[ci]? with
    | none => rw [hq] at h; cases h
    | some q =>
      rw [hq] at h
      simp only [Bool.and_eq_true, decide_eq_true_eq] at h
      exact ⟨j, q, rfl, h.1, h.2⟩
theorem tm_ckI_put {idx ci sl t : Nat} {r : List Nat} (h : tm_ckI pg nM T host cl ty k (.putfield idx) (ci :: sl :: t :: r) z = true) : ∃ (j : Nat) (q : vw_C), cl[ci]? = some q ∧ sl < q.2.2 ∧ tm_tyc (ty ci sl) = t ∧ (if (q.2.1 sl).2.2.2 = true then tm_inB T j (.fieldLink (pg k).2.2.2.2.1 idx (q.2.1 sl).1 (q.2.1 sl).2.1 (q.2.1 sl).2.2.1) && (decide ((pg k).1.name = "<init>") && decide ((q.2.1 sl).1 = (pg k).2.2.2.2.1)) else tm_ckL T j host (pg k).2.2.2.2.1 idx (q.2.1 sl)) = true := by
  cases r with
  | nil => simp [tm_ckI] at h
  | cons j r =>
    simp only [tm_ckI] at h
    cases hq : cl[ci]? with
    | none => rw [hq] at h; cases h
    | some q =>
      rw [hq] at h
      simp only [Bool.and_eq_true, decide_eq_true_eq] at h
      exact ⟨j, q, rfl, h.1, h.2.1, h.2.2⟩
theorem tm_ckI_new {idx ci : Nat} {r : List Nat} (h : tm_ckI pg nM T host cl ty k (.new idx) (ci :: r) z = true) : ∃ (j1 j2 j3 : Nat) (q : vw_C), cl[ci]? = some q ∧ tm_inB T j1 (.classLink (pg k).2.2.2.2.1 idx q.1) = true ∧ tm_inB T j2 (.instantiable q.1 q.2.2) = true ∧ tm_inB T j3 (.initialized q.1) = true := by
  match r with
  | [] => simp [tm_ckI] at h
  | [_] => simp [tm_ckI] at h
  | [_, _] => simp [tm_ckI] at h
  | j1 :: j2 :: j3 :: r =>
    simp only [tm_ckI] at h
    cases hq : cl[ci]? with
    | none => rw [hq] at h; cases h
    | some q =>
      rw [hq] at h
      simp only [Bool.and_eq_true] at h
      exact ⟨j1, j2, j3, q, rfl, h.1, h.2.1, h.2.2⟩
theorem tm_ckI_newa {at_ : ClassFile.ArrayType} {t : Nat} {r : List Nat} (h : tm_ckI pg nM T host cl ty k (.newarray at_) (t :: r) z = true) : ∃ j : Nat, tm_inB T j (.arrayClass (newarray.typeOf at_)) = true ∧ newarray.typeOf at_ = tm_aty t ∧ t < 3 := by
  cases r with
  | nil => simp [tm_ckI] at h
  | cons j r =>
    simp only [tm_ckI, Bool.and_eq_true, decide_eq_true_eq] at h
    exact ⟨j, h.1, h.2.1, h.2.2⟩
theorem tm_ckI_ldc {idx : Nat} {xs : List Nat} (h : tm_ckI pg nM T host cl ty k (.ldc idx) xs z = true) : ∃ j : Nat, tm_inB T j (.constant (pg k).2.2.2.2.1 idx (Int32.ofInt z)) = true := by
  cases xs with
  | nil => simp [tm_ckI] at h
  | cons j r => exact ⟨j, h⟩
theorem tm_ckI_ldc2 {idx : Nat} {xs : List Nat} (h : tm_ckI pg nM T host cl ty k (.ldc2_w idx) xs z = true) : ∃ j : Nat, tm_inB T j (.constantLong (pg k).2.2.2.2.1 idx (Int64.ofInt z)) = true := by
  cases xs with
  | nil => simp [tm_ckI] at h
  | cons j r => exact ⟨j, h⟩
theorem tm_ckI_V {idx y na ci : Nat} {r : List Nat} (h : tm_ckI pg nM T host cl ty k (.invokevirtual idx) (y :: na :: ci :: r) z = true) : ∃ (j1 j2 j3 j4 : Nat) (q : vw_C), cl[ci]? = some q ∧ 0 < na ∧ tm_ckC pg nM k y (na - 1) = true ∧ (pg y).1.cls = q.1 ∧ tm_inB T j1 (.instanceMethod (pg y).1) = true ∧ tm_inB T j2 (.selects q.1 (pg y).1 (pg y).1) = true ∧ tm_inB T j3 (.initialized q.1) = true ∧ tm_ckM T j4 host (pg k).2.2.2.2.1 idx (pg y).1 = true := by
  match r with
  | [] => simp [tm_ckI] at h
  | [_] => simp [tm_ckI] at h
  | [_, _] => simp [tm_ckI] at h
  | [_, _, _] => simp [tm_ckI] at h
  | j1 :: j2 :: j3 :: j4 :: r =>
    simp only [tm_ckI] at h
    cases hq : cl[ci]? with
    | none => rw [hq] at h; cases h
    | some q =>
      rw [hq] at h
      simp only [Bool.and_eq_true, decide_eq_true_eq] at h
      exact ⟨j1, j2, j3, j4, q, rfl, h⟩
theorem tm_ckI_S {idx y na : Nat} {r : List Nat} (h : tm_ckI pg nM T host cl ty k (.invokestatic idx) (y :: na :: r) z = true) : ∃ (j1 j2 j3 : Nat), tm_ckC pg nM k y na = true ∧ tm_inB T j1 (.static (pg y).1) = true ∧ tm_inB T j2 (.initialized (pg y).1.cls) = true ∧ tm_ckM T j3 host (pg k).2.2.2.2.1 idx (pg y).1 = true := by
  match r with
  | [] => simp [tm_ckI] at h
  | [_] => simp [tm_ckI] at h
  | [_, _] => simp [tm_ckI] at h
  | j1 :: j2 :: j3 :: r =>
    simp only [tm_ckI, Bool.and_eq_true] at h
    exact ⟨j1, j2, j3, h⟩
theorem tm_ckI_O {idx j1 j2 j3 : Nat} (h : tm_ckI pg nM T host cl ty k (.invokespecial idx) [j1, j2, j3] z = true) : tm_inB T j1 (.methodLink (pg k).2.2.2.2.1 idx objectInit) = true ∧ tm_inB T j2 (.instanceMethod objectInit) = true ∧ tm_inB T j3 (.code objectInit ⟨#[0xb1]⟩ 1 none) = true ∧ 1 ≤ (pg k).2.2.2.2.2.frames ∧ 20 ≤ (pg k).2.2.2.2.2.locals := by
  simp only [tm_ckI, Bool.and_eq_true, decide_eq_true_eq] at h
  exact h
theorem tm_ckI_I {idx y na : Nat} {r : List Nat} (hk : tm_kd (.invokespecial idx) (y :: na :: r) = 7) (h : tm_ckI pg nM T host cl ty k (.invokespecial idx) (y :: na :: r) z = true) : ∃ (j1 j2 j3 : Nat), 0 < na ∧ tm_ckC pg nM k y (na - 1) = true ∧ (pg y).1.name = "<init>" ∧ (pg y).2.2.2.1 = none ∧ tm_inB T j1 (.instanceMethod (pg y).1) = true ∧ tm_inB T j2 (.initialized (pg y).1.cls) = true ∧ tm_ckM T j3 host (pg k).2.2.2.2.1 idx (pg y).1 = true := by
  match r with
  | [] => simp [tm_ckI] at h
  | [_] => simp [tm_kd] at hk
  | [_, _] => simp [tm_ckI] at h
  | j1 :: j2 :: j3 :: r =>
    simp only [tm_ckI, Bool.and_eq_true, decide_eq_true_eq] at h
    exact ⟨j1, j2, j3, h⟩
end TMI
section TMG
variable {pg : Nat → tm_M} {nM : Nat} {T : List Cond} {host : String} {cl : List vw_C} {ty : Nat → Nat → FieldType}
variable {p : Program} {l : Launch} {e : Env} {R : Room} {s : State} {m : MethodId} {args : Array Value} {below : List Frame} {meth : Method} {c : Code} {H : Heap} {locs : List Loc} {cells slots : Nat} {Q : State → Prop} {pc : Nat} {ls : Array Slot} {D : va_G} {A : Nat → Prop} {H0 : Heap} {tA : Nat → ClassId} {ad : Nat → Nat} {k : Nat}
theorem tm_hp_W (hx : p.tables.exec = Jvm.exec) (hb : c.code = (pg k).2.1) (hown : s.vm.findClass (pg k).2.2.2.2.1 = some m.cls) (hts : ∀ w ∈ tm_ws pg nM (tm_WB T) k, w.before args s = true) (hnw : ∀ w ∈ tm_WN T, va_Nw w s) (hin2 : meth.name = (pg k).1.name) (hT : tm_ckT T cl ty)
    (hK : va_K D cl (tm_tys tA) s) {h h' : tm_H} (hP : va_P D cl (tm_cW tA ad h) H) (hD : va_D A (tm_cW tA ad h)) (hS : va_S A H0 H locs)
    {i : tm_J} {xs : List Nat} {z : Int} {st st' : List tm_V} (hd : decode (pg k).2.1 pc = .ok (i, tm_len i)) (hck : tm_ckI pg nM T host cl ty k i xs z = true) (hh : tm_hp i xs st h = some (st', h')) (ho : ∀ v ∈ st, tm_ok h.length v) (hoH : tm_okH h)
    (kk : ∀ (H1 : Heap) (locs1 : List Loc), va_P D cl (tm_cW tA ad h') H1 → va_D A (tm_cW tA ad h') → va_S A H0 H1 locs1 → W p l e R s m args below meth c H1 locs1 cells slots Q (F0 m (pc + tm_len i) ls (st'.map (tm_cv ad)))) : W p l e R s m args below meth c H locs cells slots Q (F0 m pc ls (st.map (tm_cv ad))) := by
  have hB : ∀ {j : Nat} {w : Cond}, tm_inB T j w = true → w.before args s = true := fun hw => hts _ (tm_ws_B (tm_inB_mem hw))
  have hR : ∀ {j : Nat} {w : Cond}, tm_inN T j w = true → w.onTables = true → w.before args s = true := fun hw ht => va_Nw.use ht (hnw _ (tm_inN_mem hw))
  unfold tm_hp at hh
  split at hh
  · next idx =>
    split at hh
    · split at hh
      · next a r ci sl _ _ cj fs ea =>
        split at hh
        · next hc =>
          subst hc
          split at hh
          · next v ev =>
            cases hh
            obtain ⟨j, q, hq, hsl, hl⟩ := tm_ckI_get hck
            simp only [tm_ckL, Bool.or_eq_true] at hl
            have hv : (fs.map (tm_cv ad))[sl]? = some (tm_cv ad v) := by rw [List.getElem?_map, ev]; rfl
            rcases hl with hl | hl
            · exact va_get (C := q.1) (T := q.2.1) (N := q.2.2) hx hb hts (fun w hw => tm_ws_B ((hT _ q hq).1 w hw)) hown hK hP a (tm_cW_at ea) hq sl hsl (hB hl) (fun _ h9 => h9) hv hd (kk H locs hP hD hS)
            · exact va_getN (C := q.1) (T := q.2.1) (N := q.2.2) hx hb hts (fun w hw => tm_ws_B ((hT _ q hq).1 w hw)) hown hK hP a (tm_cW_at ea) hq sl hsl (hR hl rfl) (fun _ h9 => h9) hv hd (kk H locs hP hD hS)
          · cases hh
        · cases hh
      · cases hh
    · cases hh
  · next idx =>
    split at hh
    · split at hh
      · next v a r ci sl t _ _ cj fs ea =>
        split at hh
        · next hc =>
          obtain ⟨hc, hlen, hfit⟩ := hc
          subst hc
          cases hh
          obtain ⟨j, q, hq, hsl, htc, hl⟩ := tm_ckI_put hck
          obtain ⟨t1, t2, t3, t4⟩ := hT _ q hq
          rw [← htc] at hfit
          obtain ⟨f1, f2⟩ := tm_fit_ok (ad := ad) hfit
          have hset : tm_cW tA ad (h.set a (.inr (cj, fs.set sl v))) = (tm_cW tA ad h).set a (ad a, .inr (cj, (fs.map (tm_cv ad)).set sl (tm_cv ad v))) := by
            rw [tm_cW_set]
            show List.set _ _ (ad a, Sum.inr (cj, (fs.set sl v).map (tm_cv ad))) = _
            rw [List.map_set]
          rw [hset] at kk
          split at hl
          · next hf =>
            simp only [Bool.and_eq_true, decide_eq_true_eq] at hl
            exact va_putF (C := q.1) (T := q.2.1) (N := q.2.2) hx hb hts (fun w hw => tm_ws_B (t1 w hw)) (ty _) t2 t3 hown hK hP hD hS a (tm_cW_at ea) hq sl hsl (hB hl.1) (fun _ h9 => h9) hf (hin2.trans hl.2.1) hl.2.2 (t2 sl hsl) f1 f2 (by simpa using hlen) hd kk
          · next hf =>
            simp only [tm_ckL, Bool.or_eq_true] at hl
            have hf : (q.2.1 sl).2.2.2 = false := by simpa using hf
            rcases hl with hl | hl
            · exact va_put (C := q.1) (T := q.2.1) (N := q.2.2) hx hb hts (fun w hw => tm_ws_B (t1 w hw)) (ty _) t2 t3 hown hK hP hD hS a (tm_cW_at ea) hq sl hsl (hB hl) (fun _ h9 => h9) hf (t2 sl hsl) f1 f2 (by simpa using hlen) hd kk
            · exact va_putN (C := q.1) (T := q.2.1) (N := q.2.2) hx hb hts (fun w hw => tm_ws_B (t1 w hw)) (ty _) t2 t3 hown hK hP hD hS a (tm_cW_at ea) hq sl hsl (hR hl rfl) (fun _ h9 => h9) hf (t2 sl hsl) f1 f2 (by simpa using hlen) hd kk
        · cases hh
      · cases hh
    · cases hh
  · obtain ⟨j, a, r, n, f, rfl, ea, hj, rfl, rfl⟩ := tm_ald_inv hh
    obtain ⟨i1, i2⟩ := tm_in (ho (.inl j) (by simp)) hj
    refine va_iald hx hb hK hP a 0 (tm_cW_at ea) rfl i1 hd ?_
    rw [i2]
    exact kk H locs hP hD hS
  · obtain ⟨j, a, r, n, f, rfl, ea, hj, rfl, rfl⟩ := tm_ald_inv hh
    obtain ⟨i1, i2⟩ := tm_in (ho (.inl j) (by simp)) hj
    refine va_lald hx hb hK hP a 1 (tm_cW_at ea) rfl i1 hd ?_
    rw [i2]
    exact kk H locs hP hD hS
  · obtain ⟨j, a, r, n, f, rfl, ea, hj, rfl, rfl⟩ := tm_ald_inv hh
    obtain ⟨i1, i2⟩ := tm_in (ho (.inl j) (by simp)) hj
    refine va_zald hx hb hK hP a 2 (tm_cW_at ea) rfl i1 hd ?_
    rw [i2]
    exact kk H locs hP hD hS
  · split at hh
    · split at hh
      · next x j a r _ n f ea =>
        split at hh
        · next hj =>
          cases hh
          obtain ⟨i1, i2⟩ := tm_in (ho (.inl j) (by simp)) hj
          refine va_iast hx hb hK hP hD hS a 0 (tm_cW_at (tm_ar_inv ea)) rfl i1 hd ?_
          rw [i2, tm_upd]
          rw [tm_cW_set] at kk
          exact kk
        · cases hh
      · cases hh
    · cases hh
  · split at hh
    · split at hh
      · next x j a r _ n f ea =>
        split at hh
        · next hj =>
          cases hh
          obtain ⟨i1, i2⟩ := tm_in (ho (.inl j) (by simp)) hj
          refine va_last hx hb hK hP hD hS a 1 (tm_cW_at (tm_ar_inv ea)) rfl i1 hd ?_
          rw [i2, tm_updL]
          rw [tm_cW_set] at kk
          exact kk
        · cases hh
      · cases hh
    · cases hh
  · split at hh
    · split at hh
      · next x j a r _ n f ea =>
        split at hh
        · next hj =>
          cases hh
          obtain ⟨i1, i2⟩ := tm_in (ho (.inl j) (by simp)) hj.1
          refine va_zast hx hb hK hP hD hS a 2 (tm_cW_at (tm_ar_inv ea)) rfl i1 hd ?_
          have hx01 : vp_nar .boolean (Int32.ofInt x) = Int32.ofInt x := by rcases hj.2 with rfl | rfl <;> decide +kernel
          rw [i2, hx01, tm_upd]
          rw [tm_cW_set] at kk
          exact kk
        · cases hh
      · cases hh
    · cases hh
  · split at hh
    · split at hh
      · next a r _ t n f ea =>
        split at hh
        · next hn =>
          cases hh
          have hq := tm_cW_at (tA := tA) (ad := ad) ea
          have key : ∀ (t0 : Nat) (ft : FieldType), (tm_tys tA)[t0]? = some (tA t, ft) → W p l e R s m args below meth c H locs cells slots Q (F0 m pc ls (List.map (tm_cv ad) (.inr (.inr (some a)) :: r))) := by
            intro t0 ft ht0
            refine va_alen (v := Int32.ofInt (n : Int)) hx hb hK hP a t0 (x := tm_vA n t f) hq ht0 ?_ hd (kk H locs hP hD hS)
            have e1 : (tm_vA n t f).1 = n := by unfold tm_vA; split <;> rfl
            rw [e1]
            rfl
          rcases (show t = 0 ∨ t = 1 ∨ t = 2 by omega) with rfl | rfl | rfl
          · exact key 0 .int rfl
          · exact key 1 .long rfl
          · exact key 2 .boolean rfl
        · cases hh
      · cases hh
    · cases hh
  · cases hh
end TMG

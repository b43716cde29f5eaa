/-! Rules of the instructions, for the block rules that a program writes -/
section EVR
variable {k pc pc' : Nat} {lo lo' : tm_L} {st st' r : List tm_V} {M M' : ev_M} {Q : Option tm_V → ev_M → Prop} {i : tm_J} {xs : List Nat} {c : Int}
theorem ev_ii {f : Int32 → Int32 → Int32} {x y z : Int} (ht : pg_tb k pc = some (i, xs, c)) (hk : tm_kd i xs = 0) (hf : ∀ st, tm_pu i st = tm_ii f st) (hz : tm_i2 f x y = z) (hp' : pc + tm_len i = pc') (e : ev k pc' lo (.inl z :: r) M Q) : ev k pc lo (.inl y :: .inl x :: r) M Q := by
  subst hz
  exact ev_pu ht hk ((hf _).trans rfl) hp' e
theorem ev_ll {f : Int64 → Int64 → Int64} {x y z : Int} (ht : pg_tb k pc = some (i, xs, c)) (hk : tm_kd i xs = 0) (hf : ∀ st, tm_pu i st = tm_ll f st) (hz : tm_l2 f x y = z) (hp' : pc + tm_len i = pc') (e : ev k pc' lo (.inr (.inl z) :: r) M Q) : ev k pc lo (.inr (.inl y) :: .inr (.inl x) :: r) M Q := by
  subst hz
  exact ev_pu ht hk ((hf _).trans rfl) hp' e
theorem ev_idiv {x y z : Int} (ht : pg_tb k pc = some (.idiv, xs, c)) (hy : 0 < y ∧ y < 2147483648) (hz : tm_i2 (fun a b => a / b) x y = z) (hp' : pc + 1 = pc') (e : ev k pc' lo (.inl z :: r) M Q) : ev k pc lo (.inl y :: .inl x :: r) M Q := by
  subst hz
  exact ev_pu (st' := .inl (tm_i2 (fun a b => a / b) x y) :: r) ht rfl (by simp only [tm_pu, tm_bi]; rw [if_neg (by omega)]; rfl) hp' e
theorem ev_irem {x y z : Int} (ht : pg_tb k pc = some (.irem, xs, c)) (hy : 0 < y ∧ y < 2147483648) (hz : tm_i2 (fun a b => a - a / b * b) x y = z) (hp' : pc + 1 = pc') (e : ev k pc' lo (.inl z :: r) M Q) : ev k pc lo (.inl y :: .inl x :: r) M Q := by
  subst hz
  exact ev_pu (st' := .inl (tm_i2 (fun a b => a - a / b * b) x y) :: r) ht rfl (by simp only [tm_pu, tm_bi]; rw [if_neg (by omega)]; rfl) hp' e
theorem ev_ldiv {x y z : Int} (ht : pg_tb k pc = some (.ldiv, xs, c)) (hy : 0 < y ∧ y < 9223372036854775808) (hz : tm_l2 (fun a b => a / b) x y = z) (hp' : pc + 1 = pc') (e : ev k pc' lo (.inr (.inl z) :: r) M Q) : ev k pc lo (.inr (.inl y) :: .inr (.inl x) :: r) M Q := by
  subst hz
  exact ev_pu (st' := .inr (.inl (tm_l2 (fun a b => a / b) x y)) :: r) ht rfl (by simp only [tm_pu, tm_bl]; rw [if_neg (by omega)]; rfl) hp' e
theorem ev_lrem {x y z : Int} (ht : pg_tb k pc = some (.lrem, xs, c)) (hy : 0 < y ∧ y < 9223372036854775808) (hz : tm_l2 (fun a b => a - a / b * b) x y = z) (hp' : pc + 1 = pc') (e : ev k pc' lo (.inr (.inl z) :: r) M Q) : ev k pc lo (.inr (.inl y) :: .inr (.inl x) :: r) M Q := by
  subst hz
  exact ev_pu (st' := .inr (.inl (tm_l2 (fun a b => a - a / b * b) x y)) :: r) ht rfl (by simp only [tm_pu, tm_bl]; rw [if_neg (by omega)]; rfl) hp' e
theorem ev_lshl {x y z : Int} (ht : pg_tb k pc = some (.lshl, xs, c)) (hz : (Int64.ofInt x <<< ((Int32.ofInt y).toInt64 &&& 63)).toInt = z) (hp' : pc + 1 = pc') (e : ev k pc' lo (.inr (.inl z) :: r) M Q) : ev k pc lo (.inl y :: .inr (.inl x) :: r) M Q := by
  subst hz
  exact ev_pu ht rfl rfl hp' e
theorem ev_lshr {x y z : Int} (ht : pg_tb k pc = some (.lshr, xs, c)) (hz : (Int64.ofInt x >>> ((Int32.ofInt y).toInt64 &&& 63)).toInt = z) (hp' : pc + 1 = pc') (e : ev k pc' lo (.inr (.inl z) :: r) M Q) : ev k pc lo (.inl y :: .inr (.inl x) :: r) M Q := by
  subst hz
  exact ev_pu ht rfl rfl hp' e
theorem ev_l2i {x : Int} (ht : pg_tb k pc = some (.l2i, xs, c)) (hz : tm_iI x) (hp' : pc + 1 = pc') (e : ev k pc' lo (.inl x :: r) M Q) : ev k pc lo (.inr (.inl x) :: r) M Q :=
  ev_pu ht rfl (by show some _ = some _; rw [tm_l2i_eq hz]) hp' e
theorem ev_iinc {j : Nat} {n x z : Int} (ht : pg_tb k pc = some (.iinc j n, xs, c)) (hl : lo.lookup j = some (.inl x)) (hn : j < (tm_mi pg k).1) (hz : tm_i2 (fun a b => a + b) x n = z) (hlo : tm_set1 lo j (.inl z) = lo') (hp' : pc + 3 = pc') (e : ev k pc' lo' r M Q) : ev k pc lo r M Q := by
  subst hz
  subst hlo
  refine ev_lo ht rfl ?_ hp' e
  simp only [tm_lo, hl, if_pos hn]
/-- a comparison of longs and the branch behind it -/
theorem ev_lcmp {cd : Jvm.ClassFile.Cond} {off : Int} {x y : Int} {xs' : List Nat} {c' : Int} {pc1 pc2 : Nat} (ht : pg_tb k pc = some (.lcmp, xs, c)) (h1 : pc + 1 = pc1) (ht2 : pg_tb k pc1 = some (.ifCond cd off, xs', c')) (ho : 0 ≤ (pc1 : Int) + off) (hg : tm_go pc1 off = pc') (h2 : pc1 + 3 = pc2) (eT : tm_cd cd x y = true → ev k pc' lo r M Q) (eF : tm_cd cd x y = false → ev k pc2 lo r M Q) : ev k pc lo (.inr (.inl y) :: .inr (.inl x) :: r) M Q := by
  have key : tm_cd cd (if y < x then 1 else if x = y then 0 else -1) 0 = tm_cd cd x y := by
    by_cases h1 : y < x
    · rw [if_pos h1]; cases cd <;> simp [tm_cd] <;> omega
    · rw [if_neg h1]
      by_cases h2 : x = y
      · rw [if_pos h2]; cases cd <;> simp [tm_cd] <;> omega
      · rw [if_neg h2]; cases cd <;> simp [tm_cd] <;> omega
  refine ev_pu (st' := .inl (if y < x then 1 else if x = y then 0 else -1) :: r) ht rfl rfl h1 ?_
  refine ev_ifT ht2 ho hg h2 (fun hc => eT (by rw [← key]; exact hc)) (fun hc => eF (by rw [← key]; exact hc))
theorem ev_ald {t n a : Nat} {f : Nat → Int} {w : Int → tm_V} {j : Int} (ht : pg_tb k pc = some (i, xs, c)) (hk : tm_kd i xs = 3) (hi : ∀ st h, tm_hp i xs st h = tm_ald t w st h) (ha : (hp M)[a]? = some (.inl (t, n, f))) (hj : 0 ≤ j ∧ j < (n : Int)) (hp' : pc + tm_len i = pc') (e : ev k pc' lo (w (f j.toNat) :: r) M Q) : ev k pc lo (.inl j :: .inr (.inr (some a)) :: r) M Q := by
  refine ev_hp (M' := M) ht hk ((hi _ _).trans ?_) rfl hp' e
  simp only [tm_ald, tm_ar, ha, if_pos hj, if_true]
theorem ev_iast {n a : Nat} {f : Nat → Int} {j x : Int} (ht : pg_tb k pc = some (.iastore, xs, c)) (ha : (hp M)[a]? = some (.inl (0, n, f))) (hj : 0 ≤ j ∧ j < (n : Int)) (hM : (hp M).set a (.inl (0, n, tm_up f j.toNat x)) = hp M') (hp' : pc + 1 = pc') (e : ev k pc' lo r M' Q) : ev k pc lo (.inl x :: .inl j :: .inr (.inr (some a)) :: r) M Q := by
  refine ev_hp ht rfl ?_ hM hp' e
  simp only [tm_hp, tm_ar, ha, if_pos hj, if_true]
theorem ev_last {n a : Nat} {f : Nat → Int} {j x : Int} (ht : pg_tb k pc = some (.lastore, xs, c)) (ha : (hp M)[a]? = some (.inl (1, n, f))) (hj : 0 ≤ j ∧ j < (n : Int)) (hM : (hp M).set a (.inl (1, n, tm_up f j.toNat x)) = hp M') (hp' : pc + 1 = pc') (e : ev k pc' lo r M' Q) : ev k pc lo (.inr (.inl x) :: .inl j :: .inr (.inr (some a)) :: r) M Q := by
  refine ev_hp ht rfl ?_ hM hp' e
  simp only [tm_hp, tm_ar, ha, if_pos hj, if_true]
theorem ev_bast {n a : Nat} {f : Nat → Int} {j x : Int} (ht : pg_tb k pc = some (.bastore, xs, c)) (ha : (hp M)[a]? = some (.inl (2, n, f))) (hj : 0 ≤ j ∧ j < (n : Int)) (hx : x = 0 ∨ x = 1) (hM : (hp M).set a (.inl (2, n, tm_up f j.toNat x)) = hp M') (hp' : pc + 1 = pc') (e : ev k pc' lo r M' Q) : ev k pc lo (.inl x :: .inl j :: .inr (.inr (some a)) :: r) M Q := by
  refine ev_hp ht rfl ?_ hM hp' e
  simp only [tm_hp, tm_ar, ha, if_pos (show (0 ≤ j ∧ j < (n : Int)) ∧ (x = 0 ∨ x = 1) from ⟨hj, hx⟩), if_true]
theorem ev_get {idx ci sl a : Nat} {fs : List tm_V} {v : tm_V} (ht : pg_tb k pc = some (.getfield idx, ci :: sl :: xs, c)) (ho : (hp M)[a]? = some (.inr (ci, fs))) (hv : fs[sl]? = some v) (hp' : pc + 3 = pc') (e : ev k pc' lo (v :: r) M Q) : ev k pc lo (.inr (.inr (some a)) :: r) M Q := by
  refine ev_hp (M' := M) ht rfl ?_ rfl hp' e
  simp only [tm_hp, ho, hv, if_true]
theorem ev_put {idx ci sl ty a : Nat} {fs : List tm_V} {v : tm_V} (ht : pg_tb k pc = some (.putfield idx, ci :: sl :: ty :: xs, c)) (ho : (hp M)[a]? = some (.inr (ci, fs))) (hl : sl < fs.length) (hf : tm_fit ty v = true) (hM : (hp M).set a (.inr (ci, fs.set sl v)) = hp M') (hp' : pc + 3 = pc') (e : ev k pc' lo r M' Q) : ev k pc lo (v :: .inr (.inr (some a)) :: r) M Q := by
  refine ev_hp ht rfl ?_ hM hp' e
  simp only [tm_hp, ho]
  rw [if_pos ⟨trivial, hl, hf⟩]
theorem tm_fitZ {x : Int} (h : x = 0 ∨ x = 1) : tm_fit 2 (.inl x) = true := by rcases h with rfl | rfl <;> rfl
theorem ev_rtZ {x : Int} (ht : pg_tb k pc = some (.ireturn, xs, c)) (hr : (tm_mi pg k).2.1 = 2) (hx : x = 0 ∨ x = 1) (e : Q (some (.inl x)) M) : ev k pc lo [.inl x] M Q := by
  refine ev_rt ht rfl ?_ e
  rw [hr]
  simp only [tm_rt]
  rw [if_pos (Or.inr ⟨trivial, hx⟩)]
end EVR

/-! The model's automaton: sets of items by two longs, close -/
/-- no bits but those of items and of the two starts -/
def vld (G : gT) (lo hi : Int) : Prop := (0 ≤ lo ∧ lo < 9223372036854775808) ∧ (0 ≤ hi ∧ hi < 9223372036854775808) ∧ (∀ j : Nat, bt lo j = true → j = 0 ∨ j = 1 ∨ ∃ r d : Int, 0 ≤ r ∧ r < gn G ∧ r < 7 ∧ 0 ≤ d ∧ d ≤ gz G r ∧ j = (2 + 5 * r + d).toNat) ∧ (∀ j : Nat, bt hi j = true → ∃ r d : Int, 7 ≤ r ∧ r < gn G ∧ 0 ≤ d ∧ d ≤ gz G r ∧ j = (5 * (r - 7) + d).toNat)
/-- starts and items with dot >= 1 are those of kernel k -/
def knl (G : gT) (k lo hi : Int) : Prop := bt lo 0 = bt k 56 ∧ bt lo 1 = bt k 57 ∧ ∀ r d : Int, 0 ≤ r → r < gn G → 1 ≤ d → d ≤ gz G r → it2 lo hi r d = bt k (r * 4 + d - 1).toNat
/-- the set is the closure of kernel k -/
def rep (G : gT) (k lo hi : Int) : Prop := vld G lo hi ∧ knl G k lo hi ∧ ∀ r : Int, 0 ≤ r → r < gn G → (it2 lo hi r 0 = true ↔ awt G k (gl G r))
section MS
variable {G : gT} {M : ev_M} {lo hi lo' hi' k k' r d r' d' : Int}
theorem vld.sub (h : vld G lo hi) (h0 : bt lo 0 = bt lo' 0) (h1 : bt lo 1 = bt lo' 1) (hi2 : ∀ r d : Int, 0 ≤ r → r < gn G → 0 ≤ d → d ≤ gz G r → it2 lo hi r d = it2 lo' hi' r d) : (∀ j : Nat, bt lo j = true → bt lo' j = true) ∧ ∀ j : Nat, bt hi j = true → bt hi' j = true := by
  refine ⟨fun j hj => ?_, fun j hj => ?_⟩
  · rcases h.2.2.1 j hj with e | e | ⟨r, d, a1, a2, a3, a4, a5, a6⟩
    · subst e; rw [← h0]; exact hj
    · subst e; rw [← h1]; exact hj
    · have := hi2 r d a1 a2 a4 a5
      unfold it2 at this
      rw [if_neg (by omega), if_neg (by omega), ← a6] at this
      rw [← this]; exact hj
  · obtain ⟨r, d, a1, a2, a4, a5, a6⟩ := h.2.2.2 j hj
    have := hi2 r d (by omega) a2 a4 a5
    unfold it2 at this
    rw [if_pos a1, if_pos a1, ← a6] at this
    rw [← this]; exact hj
theorem vld.ext (h : vld G lo hi) (h' : vld G lo' hi') (h0 : bt lo 0 = bt lo' 0) (h1 : bt lo 1 = bt lo' 1) (hi2 : ∀ r d : Int, 0 ≤ r → r < gn G → 0 ≤ d → d ≤ gz G r → it2 lo hi r d = it2 lo' hi' r d) : lo = lo' ∧ hi = hi' := by
  obtain ⟨a1, a2⟩ := h.sub h0 h1 hi2
  obtain ⟨b1, b2⟩ := h'.sub h0.symm h1.symm (fun r d x1 x2 x3 x4 => (hi2 r d x1 x2 x3 x4).symm)
  refine ⟨bt_ext h.1.1 h'.1.1 (fun j => ?_), bt_ext h.2.1.1 h'.2.1.1 (fun j => ?_)⟩
  · have x1 := a1 j; have x2 := b1 j
    cases e1 : bt lo j <;> cases e2 : bt lo' j <;> simp_all
  · have x1 := a2 j; have x2 := b2 j
    cases e1 : bt hi j <;> cases e2 : bt hi' j <;> simp_all
theorem rep.fn (h : rep G k lo hi) (h' : rep G k lo' hi') : lo = lo' ∧ hi = hi' := by
  refine h.1.ext h'.1 (h.2.1.1.trans h'.2.1.1.symm) (h.2.1.2.1.trans h'.2.1.2.1.symm) (fun r d a1 a2 a3 a4 => ?_)
  by_cases e : d = 0
  · subst e
    have := (h.2.2 r a1 a2).trans (h'.2.2 r a1 a2).symm
    cases e1 : it2 lo hi r 0 <;> cases e2 : it2 lo' hi' r 0 <;> simp_all
  · rw [h.2.1.2.2 r d a1 a2 (by omega) a4, h'.2.1.2.2 r d a1 a2 (by omega) a4]
theorem rep.inj (hk : kOK G k) (hk' : kOK G k') (h : rep G k lo hi) (h' : rep G k' lo hi) : k = k' := by
  have key : ∀ j : Nat, (j = 56 ∨ j = 57 ∨ ∃ r d : Int, 0 ≤ r ∧ r < gn G ∧ 0 ≤ d ∧ d < gz G r ∧ j = (r * 4 + d).toNat) → bt k j = bt k' j := by
    rintro j (e | e | ⟨r, d, a1, a2, a3, a4, a5⟩)
    · subst e; exact h.2.1.1.symm.trans h'.2.1.1
    · subst e; exact h.2.1.2.1.symm.trans h'.2.1.2.1
    · have e1 := h.2.1.2.2 r (d + 1) a1 a2 (by omega) (by omega)
      have e2 := h'.2.1.2.2 r (d + 1) a1 a2 (by omega) (by omega)
      rw [show r * 4 + (d + 1) - 1 = r * 4 + d by omega, ← a5] at e1 e2
      exact e1.symm.trans e2
  refine bt_ext hk.1.1 hk'.1.1 (fun j => ?_)
  cases e1 : bt k j with
  | true => rw [← key j (hk.2.2 j e1)]; exact e1.symm
  | false =>
    cases e2 : bt k' j with
    | false => rfl
    | true => rw [key j (hk'.2.2 j e2), e2] at e1; exact absurd e1 (by decide)
/-! put, purely -/
def pL (lo r d : Int) : Int := if 7 ≤ r then lo else tm_or lo (tm_sl 1 (2 + 5 * r + d))
def pH (hi r d : Int) : Int := if 7 ≤ r then tm_or hi (tm_sl 1 (5 * (r - 7) + d)) else hi
theorem putM_lo : sM_newLow (putM M r d) = pL (sM_newLow M) r d := by
  unfold putM pL
  by_cases h : 7 ≤ r
  · rw [if_pos h, if_pos h]; rfl
  · rw [if_neg h, if_neg h]; rfl
theorem putM_hi : sM_newHigh (putM M r d) = pH (sM_newHigh M) r d := by
  unfold putM pH
  by_cases h : 7 ≤ r
  · rw [if_pos h, if_pos h]; rfl
  · rw [if_neg h, if_neg h]; rfl
theorem putM_fr {M0 : ev_M} {S A : List Nat} (h : fr S A M0 M) (h1 : 14 ∈ S) (h2 : 15 ∈ S) : fr S A M0 (putM M r d) := by
  unfold putM
  by_cases e : 7 ≤ r
  · rw [if_pos e]; exact h.sS h2
  · rw [if_neg e]; exact h.sS h1
theorem pL_01 {j : Nat} (hr : 0 ≤ r) (hd : 0 ≤ d) (hj : j ≤ 1) : bt (pL lo r d) j = bt lo j := by
  unfold pL
  by_cases h : 7 ≤ r
  · rw [if_pos h]
  · rw [if_neg h, bt_or, decide_eq_false (by omega), Bool.or_false]
theorem it2_put (hr : 0 ≤ r) (hd : 0 ≤ d ∧ d ≤ 4) (hr' : 0 ≤ r') (hd' : 0 ≤ d' ∧ d' ≤ 4) : it2 (pL lo r d) (pH hi r d) r' d' = (it2 lo hi r' d' || decide (r' = r ∧ d' = d)) := by
  unfold it2 pL pH
  by_cases h : 7 ≤ r
  · rw [if_pos h, if_pos h]
    by_cases h' : 7 ≤ r'
    · rw [if_pos h', if_pos h', bt_or]
      congr 1
      by_cases e : r' = r ∧ d' = d
      · rw [decide_eq_true e, decide_eq_true (by omega)]
      · rw [decide_eq_false e, decide_eq_false (by omega)]
    · rw [if_neg h', if_neg h', decide_eq_false (by omega), Bool.or_false]
  · rw [if_neg h, if_neg h]
    by_cases h' : 7 ≤ r'
    · rw [if_pos h', if_pos h', decide_eq_false (by omega), Bool.or_false]
    · rw [if_neg h', if_neg h', bt_or]
      congr 1
      by_cases e : r' = r ∧ d' = d
      · rw [decide_eq_true e, decide_eq_true (by omega)]
      · rw [decide_eq_false e, decide_eq_false (by omega)]
theorem vld.put (h : vld G lo hi) (hG : okG G) (r0 : 0 ≤ r) (r1 : r < gn G) (d0 : 0 ≤ d) (d1 : d ≤ gz G r) : vld G (pL lo r d) (pH hi r d) := by
  have g1 := hG.1
  have g2 := (hG.2 r r0 r1).2.1
  unfold pL pH
  by_cases e : 7 ≤ r
  · rw [if_pos e, if_pos e]
    refine ⟨h.1, or_rng (n := 63) h.2.1 (by omega), h.2.2.1, fun j hj => ?_⟩
    rw [bt_or, Bool.or_eq_true, decide_eq_true_iff] at hj
    rcases hj with hj | hj
    · exact h.2.2.2 j hj
    · exact ⟨r, d, e, r1, d0, d1, hj.symm⟩
  · rw [if_neg e, if_neg e]
    refine ⟨or_rng (n := 63) h.1 (by omega), h.2.1, fun j hj => ?_, h.2.2.2⟩
    rw [bt_or, Bool.or_eq_true, decide_eq_true_iff] at hj
    rcases hj with hj | hj
    · exact h.2.2.1 j hj
    · exact Or.inr (Or.inr ⟨r, d, r0, r1, by omega, d0, d1, hj.symm⟩)
theorem or_gt {x y : Int} (hx : 0 ≤ x) (h : bt x y.toNat = false) : x < tm_or x (tm_sl 1 y) := by
  rw [tm_sl1]
  show x < ((x.toNat ||| 2 ^ y.toNat : Nat) : Int)
  have h1 : x.toNat ≤ x.toNat ||| 2 ^ y.toNat := Nat.left_le_or
  have h2 : x.toNat ≠ x.toNat ||| 2 ^ y.toNat := by
    intro e
    have := congrArg (fun z => Nat.testBit z y.toNat) e
    simp only [Nat.testBit_or, Nat.testBit_two_pow, decide_true, Bool.or_true] at this
    unfold bt at h
    rw [h] at this
    exact absurd this (by decide)
  omega
theorem put_gt (hv : vld G lo hi) (h : it2 lo hi r d = false) : lo + hi < pL lo r d + pH hi r d := by
  unfold it2 at h
  unfold pL pH
  by_cases e : 7 ≤ r
  · rw [if_pos e] at h
    rw [if_pos e, if_pos e]
    have := or_gt hv.2.1.1 h
    omega
  · rw [if_neg e] at h
    rw [if_neg e, if_neg e]
    have := or_gt hv.1.1 h
    omega
/-- a dot of the set stands before x -/
def wn (G : gT) (lo hi x : Int) : Prop := (x = 0 ∧ bt lo 0 = true) ∨ ∃ r d : Int, 0 ≤ r ∧ r < gn G ∧ 0 ≤ d ∧ d < gz G r ∧ it2 lo hi r d = true ∧ gs G r d = x
theorem wn_iff (hI : isM G M) {x : Int} : ((x = 0 ∧ bt (sM_newLow M) 0 = true) ∨ wtd M x (sM_rules M) 0) ↔ wn G (sM_newLow M) (sM_newHigh M) x := by
  unfold wtd wn
  constructor
  · rintro (h | ⟨k, i, a1, a2, a3, a4, a5, a6⟩ | ⟨i, a1, a2, -⟩)
    · exact Or.inl h
    · rw [hI.1] at a2
      obtain ⟨e1, e2, e3⟩ := hI.2 k a1 a2
      rw [e2] at a4
      rw [e3 i a3 a4] at a6
      exact Or.inr ⟨k, i, a1, a2, a3, a4, a5, a6⟩
    · omega
  · rintro (h | ⟨k, i, a1, a2, a3, a4, a5, a6⟩)
    · exact Or.inl h
    · obtain ⟨e1, e2, e3⟩ := hI.2 k a1 a2
      refine Or.inr (Or.inl ⟨k, i, a1, by rw [hI.1]; exact a2, a3, by rw [e2]; exact a4, a5, by rw [e3 i a3 a4]; exact a6⟩)
theorem g_m87 {Q : ev_M → Prop} (hG : okG G) (hI : isM G M) (hv : vld G (sM_newLow M) (sM_newHigh M)) (hk : knl G k (sM_newLow M) (sM_newHigh M)) (hz : ∀ r : Int, 0 ≤ r → r < gn G → it2 (sM_newLow M) (sM_newHigh M) r 0 = false) (h : ∀ M' : ev_M, fr [14, 15] [] M M' → rep G k (sM_newLow M') (sM_newHigh M') → Q M') : m87 M Q := by
  have gc := hG.1
  have key : ∀ (n : Nat) (M1 : ev_M), 18446744073709551616 - (sM_newLow M1 + sM_newHigh M1) ≤ n → fr [14, 15] [] M M1 → vld G (sM_newLow M1) (sM_newHigh M1) → knl G k (sM_newLow M1) (sM_newHigh M1) → (∀ r : Int, 0 ≤ r → r < gn G → it2 (sM_newLow M1) (sM_newHigh M1) r 0 = true → awt G k (gl G r)) → c87_2 1 M1 Q := by
    intro n
    induction n with
    | zero =>
      intro M1 hn hf hv hk hs
      have := hv.1; have := hv.2.1
      omega
    | succ n ihn =>
      intro M1 hn hf hv hk hs
      refine b87_2 ⟨fun g => absurd g (by decide), fun _ => ?_⟩
      refine lp (σ := Int × ev_M) (n := gn G) (c := fun r s => c87_10 s.1 r s.2 Q) (P := fun r s => fr [14, 15] [] M s.2 ∧ vld G (sM_newLow s.2) (sM_newHigh s.2) ∧ knl G k (sM_newLow s.2) (sM_newHigh s.2) ∧ (∀ r : Int, 0 ≤ r → r < gn G → it2 (sM_newLow s.2) (sM_newHigh s.2) r 0 = true → awt G k (gl G r)) ∧ ((s.1 = 0 ∧ s.2 = M1 ∧ ∀ r' : Int, 0 ≤ r' → r' < r → it2 (sM_newLow M1) (sM_newHigh M1) r' 0 = true ∨ ¬ wn G (sM_newLow M1) (sM_newHigh M1) (gl G r')) ∨ (s.1 = 1 ∧ sM_newLow M1 + sM_newHigh M1 < sM_newLow s.2 + sM_newHigh s.2))) ?_ ?_ (r := 0) (s := (0, M1)) (by omega) gc.1 ⟨hf, hv, hk, hs, Or.inl ⟨rfl, rfl, fun r' a1 a2 => by omega⟩⟩
      · rintro r ⟨t, M2⟩ r0 r1 ⟨hf2, hv2, hk2, hs2, ht⟩ ih
        dsimp only at hf2 hv2 hk2 hs2 ht ih ⊢
        have hI2 : isM G M2 := hI.of (hf2.1 11 (by decide)) (hf2.2 31 (by decide)) (hf2.2 32 (by decide)) (hf2.2 33 (by decide))
        have e3 : sM_rules M2 = gn G := hI2.1
        have el : aM_left M2 r.toNat = gl G r := (hI2.2 r r0 r1).1
        have hr := hG.2 r r0 r1
        have skip : (it2 (sM_newLow M2) (sM_newHigh M2) r 0 = true ∨ ¬ wn G (sM_newLow M2) (sM_newHigh M2) (gl G r)) → c87_48 t r M2 Q := by
          intro hx
          refine b87_48 ⟨⟨by omega, by omega⟩, ih (t, M2) ⟨hf2, hv2, hk2, hs2, ?_⟩⟩
          rcases ht with ⟨t0, eM, hr'⟩ | ht
          · refine Or.inl ⟨t0, eM, fun r' a1 a2 => ?_⟩
            by_cases e : r' = r
            · subst e; rw [eM] at hx; exact hx
            · exact hr' r' a1 (by omega)
          · exact Or.inr ht
        refine b87_10 ⟨fun g => absurd g (by rw [e3]; omega), fun _ => g_m84 ⟨r0, by omega⟩ ⟨by omega, by omega⟩ hv2.1 hv2.2.1 (fun hb => ⟨fun _ => skip (Or.inl hb), fun g => absurd (by decide) g⟩) (fun hb => ⟨fun g => absurd rfl g, fun _ => ⟨⟨r0, by omega⟩, ?_⟩⟩)⟩
        rw [el]
        refine g_m85 (by rw [e3]; exact gc) (fun q q0 q1 => ?_) hv2.1 hv2.2.1 (fun hw => ⟨fun g => absurd g (by decide), fun _ => g_m86 ⟨r0, by omega⟩ ⟨by omega, by omega⟩ hv2.1 hv2.2.1 (b87_48 ⟨⟨by omega, by omega⟩, ih (1, putM M2 r 0) ⟨putM_fr hf2 (by decide) (by decide), ?_, ?_, ?_, Or.inr ⟨rfl, ?_⟩⟩⟩)⟩) (fun hw => ⟨fun _ => skip (Or.inr (fun h => hw ((wn_iff hI2).mpr h))), fun g => absurd rfl g⟩)
        · rw [e3] at q1
          rw [(hI2.2 q q0 q1).2.1]
          exact (hG.2 q q0 q1).2.1
        · dsimp only
          rw [putM_lo, putM_hi]
          exact hv2.put hG r0 r1 (by omega) hr.2.1.1
        · dsimp only
          rw [putM_lo, putM_hi]
          refine ⟨(pL_01 r0 (by omega) (by omega)).trans hk2.1, (pL_01 r0 (by omega) (by omega)).trans hk2.2.1, fun r' d' a1 a2 a3 a4 => ?_⟩
          have := (hG.2 r' a1 a2).2.1
          rw [it2_put r0 ⟨by omega, by omega⟩ a1 ⟨by omega, by omega⟩, decide_eq_false (by omega), Bool.or_false]
          exact hk2.2.2 r' d' a1 a2 a3 a4
        · dsimp only
          rw [putM_lo, putM_hi]
          intro r' a1 a2 hb
          rw [it2_put r0 ⟨by omega, by omega⟩ a1 ⟨by omega, by omega⟩, Bool.or_eq_true, decide_eq_true_iff] at hb
          rcases hb with hb | hb
          · exact hs2 r' a1 a2 hb
          · rw [hb.1]
            rcases (wn_iff hI2).mp hw with ⟨x0, xb⟩ | ⟨r2, d2, b1, b2, b3, b4, b5, b6⟩
            · rw [x0]
              exact awt.start (by rw [← hk2.1]; exact xb)
            · rw [← b6]
              refine awt.step b1 b2 b3 b4 (by rw [b6]; exact hr.1.2) ⟨fun e => ?_, fun e => ?_⟩
              · subst e; exact hs2 r2 b1 b2 b5
              · rw [← hk2.2.2 r2 d2 b1 b2 (by omega) (by omega)]; exact b5
        · dsimp only
          rw [putM_lo, putM_hi]
          have := put_gt hv2 hb
          rcases ht with ⟨-, eM, -⟩ | ⟨-, ht⟩
          · rw [← eM]; exact this
          · omega
      · rintro ⟨t, M2⟩ ⟨hf2, hv2, hk2, hs2, ht⟩
        dsimp only at hf2 hv2 hk2 hs2 ht ⊢
        have e3 : sM_rules M2 = gn G := (hf2.1 11 (by decide)).trans hI.1
        refine b87_10 ⟨fun _ => ?_, fun g => absurd (by rw [e3]; omega) g⟩
        rcases ht with ⟨t0, eM, hr'⟩ | ⟨t1, ht⟩
        · subst t0; subst eM
          refine b87_2 ⟨fun _ => h M2 hf2 ⟨hv2, hk2, fun r r0 r1 => ⟨hs2 r r0 r1, fun hw => ?_⟩⟩, fun g => absurd rfl g⟩
          rcases hr' r r0 r1 with hb | hb
          · exact hb
          · refine absurd ?_ hb
            refine hw (fun x => wn G (sM_newLow M2) (sM_newHigh M2) x) (fun h5 => Or.inl ⟨rfl, by rw [hk2.1]; exact h5⟩) (fun r d b1 b2 b3 b4 b5 b6 b7 => Or.inr ⟨r, d, b1, b2, b3, b4, ?_, rfl⟩)
            by_cases e : d = 0
            · subst e
              rcases hr' r b1 b2 with hb2 | hb2
              · exact hb2
              · exact absurd (b6 rfl) hb2
            · rw [hk2.2.2 r d b1 b2 (by omega) (by omega)]
              exact b7 e
        · subst t1
          exact ihn M2 (by omega) hf2 hv2 hk2 hs2
  exact b87 (key 18446744073709551616 M (by have := hv.1; have := hv.2.1; omega) fr.refl hv hk (fun r r0 r1 hb => by rw [hz r r0 r1] at hb; exact absurd hb (by decide)))
end MS

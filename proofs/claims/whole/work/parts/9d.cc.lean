/-! The class's automaton: close -/
/-- how many of the six makers are in a -/
def b01 (a : Int) (x : Nat) : Nat := if bt a x = true then 1 else 0
def c6 (a : Int) : Nat := b01 a 0 + b01 a 1 + b01 a 2 + b01 a 3 + b01 a 4 + b01 a 5
theorem b01_le (a : Int) (x : Nat) : b01 a x ≤ 1 := by unfold b01; split <;> omega
theorem b01_mono {a b : Int} {x : Nat} (h : bt a x = true → bt b x = true) : b01 a x ≤ b01 b x := by
  unfold b01
  by_cases ha : bt a x = true
  · rw [if_pos ha, if_pos (h ha)]; omega
  · rw [if_neg ha]; omega
theorem b01_eq {a b : Int} {x : Nat} (h : b01 a x = b01 b x) : bt a x = bt b x := by
  unfold b01 at h
  cases ha : bt a x <;> cases hb : bt b x <;> simp_all
theorem c6_lt {a b : Int} (ha : 0 ≤ a ∧ a < 64) (hb : 0 ≤ b ∧ b < 64) (h : ∀ x : Nat, bt a x = true → bt b x = true) (hne : b ≠ a) : c6 a < c6 b := by
  have e0 := b01_mono (h 0); have e1 := b01_mono (h 1); have e2 := b01_mono (h 2); have e3 := b01_mono (h 3); have e4 := b01_mono (h 4); have e5 := b01_mono (h 5)
  refine Decidable.byContradiction (fun hn => hne ?_)
  unfold c6 at hn
  have f0 := b01_eq (a := a) (b := b) (x := 0) (by omega)
  have f1 := b01_eq (a := a) (b := b) (x := 1) (by omega)
  have f2 := b01_eq (a := a) (b := b) (x := 2) (by omega)
  have f3 := b01_eq (a := a) (b := b) (x := 3) (by omega)
  have f4 := b01_eq (a := a) (b := b) (x := 4) (by omega)
  have f5 := b01_eq (a := a) (b := b) (x := 5) (by omega)
  refine bt_ext hb.1 ha.1 (fun j => ?_)
  by_cases hj : j < 6
  · rcases (by omega : j = 0 ∨ j = 1 ∨ j = 2 ∨ j = 3 ∨ j = 4 ∨ j = 5) with rfl | rfl | rfl | rfl | rfl | rfl
    · exact f0.symm
    · exact f1.symm
    · exact f2.symm
    · exact f3.symm
    · exact f4.symm
    · exact f5.symm
  · rw [bt_hi (n := 6) (x := a) ha.2 (by omega), bt_hi (n := 6) (x := b) hb.2 (by omega)]
theorem c6_le (a : Int) : c6 a ≤ 6 := by
  have e0 := b01_le a 0; have e1 := b01_le a 1; have e2 := b01_le a 2; have e3 := b01_le a 3; have e4 := b01_le a 4; have e5 := b01_le a 5
  unfold c6; omega
section CC
variable {G : gT} {M : ev_M} {q : Int}
/-- what close keeps of the row of makers awaited -/
def cls (G : gT) (k a : Int) : Prop := (0 ≤ a ∧ a < 64) ∧ (bt k 56 = true → bt a 0 = true) ∧ ∀ x : Int, 0 ≤ x → bt a x.toNat = true → awt G k x
theorem sl_i {w : Int} (h : 0 ≤ w ∧ w < 6) : (1 : Int) * 2 ^ w.toNat < 2147483648 := by
  have h1 : (2 : Nat) ^ w.toNat ≤ 2 ^ 5 := Nat.pow_le_pow_right (by decide) (by omega)
  have h2 : ((2 : Int) ^ w.toNat) = ((2 ^ w.toNat : Nat) : Int) := by rw [Int.natCast_pow]; rfl
  rw [h2]
  omega
theorem g_m16 {Q : ev_M → Prop} (hG : okG G) (hI : isC G M) (hq : 0 ≤ q ∧ q < 60) (hk : kOK G (aA_kernel M q.toNat)) (h : ∀ a : Int, 0 ≤ a → a < 64 → (∀ x : Int, 0 ≤ x → (bt a x.toNat = true ↔ awt G (aA_kernel M q.toNat) x)) → Q (ev_sA M 7 q.toNat a)) : m16 q M Q := by
  have e3 : ∀ a, sG_count (ev_sA M 7 q.toNat a) = gn G := fun a => hI.1
  have gc := hG.1
  have ea : ∀ a, aA_awaited (ev_sA M 7 q.toNat a) q.toNat = a := fun a => sA_same
  -- the end of all rounds
  have fin : ∀ a, cls G (aA_kernel M q.toNat) a → (∀ r d : Int, 0 ≤ r → r < gn G → 0 ≤ d → d < gz G r → gs G r d < 6 → (d = 0 → bt a (gl G r).toNat = true) → (d ≠ 0 → bt (aA_kernel M q.toNat) (r * 4 + d - 1).toNat = true) → bt a (gs G r d).toNat = true) → Q (ev_sA M 7 q.toNat a) := by
    intro a hc hcl
    refine h a hc.1.1 hc.1.2 (fun x hx => ⟨hc.2.2 x hx, fun hw => ?_⟩)
    exact hw (fun x => bt a x.toNat = true) hc.2.1 (fun r d r0 r1 d0 d1 s h0 h1 => hcl r d r0 r1 d0 d1 s h0 h1)
  -- one round over the rules
  have rnd : ∀ (t b : Int), 0 ≤ t → t ≤ 6 → cls G (aA_kernel M q.toNat) b → (∀ a, cls G (aA_kernel M q.toNat) a → (∀ x : Nat, bt b x = true → bt a x = true) → a ≠ b → c16_28 q 1 (t + 1) (ev_sA M 7 q.toNat a) Q) → c16_49 q t b 0 (ev_sA M 7 q.toNat b) Q := by
    intro t b t0 t6 hb nxt
    refine lp (σ := Int) (n := gn G) (c := fun r a => c16_49 q t b r (ev_sA M 7 q.toNat a) Q) (P := fun r a => cls G (aA_kernel M q.toNat) a ∧ (∀ x : Nat, bt b x = true → bt a x = true) ∧ ∀ r' d : Int, 0 ≤ r' → r' < r → 0 ≤ d → d < gz G r' → gs G r' d < 6 → (d = 0 → bt b (gl G r').toNat = true) → (d ≠ 0 → bt (aA_kernel M q.toNat) (r' * 4 + d - 1).toNat = true) → bt a (gs G r' d).toNat = true) ?_ ?_ (by omega) gc.1 ⟨hb, fun _ hx => hx, fun r' d a1 a2 => by omega⟩
    · intro r a r0 r1 hP ih
      have hr := hG.2 r r0 r1
      refine b16_49 ⟨fun g => absurd g (by rw [e3]; omega), fun _ => ?_⟩
      refine lp (σ := Int) (n := gz G r) (c := fun d a => c16_64 q t b r d (ev_sA M 7 q.toNat a) Q) (P := fun d' a => cls G (aA_kernel M q.toNat) a ∧ (∀ x : Nat, bt b x = true → bt a x = true) ∧ ∀ r' d : Int, 0 ≤ r' → (r' < r ∨ (r' = r ∧ d < d')) → 0 ≤ d → d < gz G r' → gs G r' d < 6 → (d = 0 → bt b (gl G r').toNat = true) → (d ≠ 0 → bt (aA_kernel M q.toNat) (r' * 4 + d - 1).toNat = true) → bt a (gs G r' d).toNat = true) ?_ ?_ (by omega) hr.2.1.1 ⟨hP.1, hP.2.1, fun r' d a1 a2 a3 => hP.2.2 r' d a1 (by omega) a3⟩
      · intro d a d0 d1 hP ih
        have esz : aG_size (ev_sA M 7 q.toNat a) r.toNat = gz G r := (hI.2 r r0 r1).2.1
        have esy : gR (ev_sA M 7 q.toNat a) r d = gs G r d := (hI.2 r r0 r1).2.2 d d0 d1
        have elf : aG_left (ev_sA M 7 q.toNat a) r.toNat = gl G r := (hI.2 r r0 r1).1
        have hsy := hr.2.2 d d0 d1
        have hold : hC (ev_sA M 7 q.toNat a) q r d = true ↔ ((d = 0 → bt a (gl G r).toNat = true) ∧ (d ≠ 0 → bt (aA_kernel M q.toNat) (r * 4 + d - 1).toNat = true)) := by
          unfold hC
          by_cases hd : d = 0
          · rw [if_pos hd, ea, elf]
            exact ⟨fun h => ⟨fun _ => h, fun h2 => absurd hd h2⟩, fun h => h.1 hd⟩
          · rw [if_neg hd]
            exact ⟨fun h => ⟨fun h2 => absurd h2 hd, fun _ => h⟩, fun h => h.2 hd⟩
        have skip : (gs G r d < 6 → (d = 0 → bt b (gl G r).toNat = true) → (d ≠ 0 → bt (aA_kernel M q.toNat) (r * 4 + d - 1).toNat = true) → bt a (gs G r d).toNat = true) → c16_125 q t b r d (ev_sA M 7 q.toNat a) Q := by
          intro hx
          refine b16_125 ⟨⟨by omega, by omega⟩, ih a ⟨hP.1, hP.2.1, fun r' d' a1 a2 a3 a4 a5 a6 a7 => ?_⟩⟩
          by_cases e : r' = r ∧ d' = d
          · obtain ⟨e1, e2⟩ := e
            subst e1; subst e2
            exact hx a5 a6 a7
          · exact hP.2.2 r' d' a1 (by omega) a3 a4 a5 a6 a7
        refine b16_64 ⟨⟨r0, by omega⟩, fun g => absurd g (by rw [esz]; omega), fun _ => g_m4 ⟨r0, by omega⟩ ⟨d0, by omega⟩ ?_⟩
        rw [esy]
        refine g_m5 (fun hm => ⟨fun g => absurd g (by decide), fun _ => g_m15 hq ⟨r0, by omega⟩ ⟨d0, by omega⟩ ?_ ?_ ?_ (fun hh => ⟨fun g => absurd g (by decide), fun _ => ?_⟩) (fun hh => ⟨fun _ => skip ?_, fun g => absurd rfl g⟩)⟩) (fun hm => ⟨fun _ => skip (fun hs => absurd hm (fun hn => hn ⟨hsy.1, hs⟩)), fun g => absurd rfl g⟩)
        · have := hk.1
          exact ⟨this.1, by show aA_kernel M q.toNat < _; omega⟩
        · rw [ea]; exact hP.1.1
        · rw [elf]; exact hr.1
        · rw [ea]
          refine ⟨hq, ⟨by omega, by omega⟩, sl_i hm, ⟨hP.1.1.1, by have := hP.1.1.2; omega⟩, ?_, hq, b16_125 ⟨⟨by omega, by omega⟩, ?_⟩⟩
          · have := sl_rng (y := gs G r d) (n := 31) (by omega)
            exact this
          · rw [sA_sA]
            have hor : ∀ x : Nat, bt (tm_or a (tm_sl 1 (gs G r d))) x = (bt a x || decide ((gs G r d).toNat = x)) := fun x => bt_or
            refine ih _ ⟨⟨?_, ?_, ?_⟩, ?_, ?_⟩
            · exact or_rng (n := 6) hP.1.1 (by omega)
            · intro h5
              rw [hor, hP.1.2.1 h5]; rfl
            · intro x hx hb
              rw [hor] at hb
              by_cases e : (gs G r d).toNat = x.toNat
              · have e2 : x = gs G r d := by omega
                rw [e2]
                have h3 := hold.mp hh
                refine awt.step r0 r1 d0 d1 hm.2 ⟨fun e => ?_, h3.2⟩
                exact hP.1.2.2 _ hr.1.1 (h3.1 e)
              · rw [decide_eq_false e, Bool.or_false] at hb
                exact hP.1.2.2 x hx hb
            · intro x hx
              rw [hor, hP.2.1 x hx]; rfl
            · intro r' d' a1 a2 a3 a4 a5 a6 a7
              rw [hor]
              by_cases e : r' = r ∧ d' = d
              · obtain ⟨e1, e2⟩ := e
                subst e1; subst e2
                rw [decide_eq_true rfl, Bool.or_true]
              · rw [hP.2.2 r' d' a1 (by omega) a3 a4 a5 a6 a7]; rfl
        · intro hs h0 h1
          refine absurd (hold.mpr ⟨fun e => hP.2.1 _ (h0 e), h1⟩) ?_
          rw [hh]; decide
      · intro a hP
        have esz : aG_size (ev_sA M 7 q.toNat a) r.toNat = gz G r := (hI.2 r r0 r1).2.1
        refine b16_64 ⟨⟨r0, by omega⟩, fun _ => ⟨⟨by omega, by omega⟩, ih a ⟨hP.1, hP.2.1, fun r' d a1 a2 a3 a4 => ?_⟩⟩, fun g => absurd (by rw [esz]; omega) g⟩
        by_cases e : r' = r
        · subst e
          exact hP.2.2 r' d a1 (Or.inr ⟨rfl, a4⟩) a3 a4
        · exact hP.2.2 r' d a1 (Or.inl (by omega)) a3 a4
    · intro a hP
      refine b16_49 ⟨fun _ => ⟨hq, fun g => ?_, fun g => ?_⟩, fun g => absurd (by rw [e3]; omega) g⟩
      · rw [ea] at g
        subst g
        have hf := fin a hP.1 (fun r d r0 r1 => hP.2.2 r d r0 r1)
        refine b16_153 ⟨⟨by omega, by omega⟩, b16_28 ⟨fun _ => b16_160 hf, fun _ => ⟨fun _ => b16_160 hf, fun g => absurd rfl g⟩⟩⟩
      · rw [ea] at g
        exact b16_153 ⟨⟨by omega, by omega⟩, nxt a hP.1 hP.2.1 g⟩
  -- the rounds
  have key : ∀ (n : Nat) (t a : Int), 7 - t ≤ n → 0 ≤ t → t ≤ 7 → cls G (aA_kernel M q.toNat) a → t ≤ (c6 a : Int) → c16_28 q 1 t (ev_sA M 7 q.toNat a) Q := by
    intro n
    induction n with
    | zero =>
      intro t a hn t0 t7 ha hc
      have := c6_le a
      omega
    | succ n ih =>
      intro t a hn t0 t7 ha hc
      have h6 := c6_le a
      refine b16_28 ⟨fun g => by omega, fun _ => ⟨fun g => absurd g (by decide), fun _ => ⟨hq, ?_⟩⟩⟩
      rw [ea]
      refine rnd t a t0 (by omega) ha (fun a' ha' hs hne => ih (t + 1) a' (by omega) (by omega) (by omega) ha' ?_)
      have := c6_lt ha.1 ha'.1 hs hne
      omega
  have hk2 := hk.2.1
  refine b16 ⟨hq, fun g => b16_23 ⟨hq, key 7 0 0 (by omega) (by omega) (by omega) ⟨⟨by omega, by omega⟩, fun h5 => absurd (hk2.mp h5) g, fun x _ hx => ?_⟩ (by omega)⟩, fun g => b16_23 ⟨hq, key 7 0 1 (by omega) (by omega) (by omega) ⟨⟨by omega, by omega⟩, fun h5 => by decide, fun x hx hb => ?_⟩ (by omega)⟩⟩
  · rw [bt_zero] at hx
    exact absurd hx (by decide)
  · have e : (1 : Int) = ((2 ^ 0 : Nat) : Int) := by decide
    rw [e, bt_pow] at hb
    have := of_decide_eq_true hb
    have ex : x = 0 := by omega
    rw [ex]
    exact awt.start (hk2.mpr (Decidable.of_not_not g))
end CC

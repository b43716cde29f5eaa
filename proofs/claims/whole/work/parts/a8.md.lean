/-! The model: count, findCounts -/
/-- some nodes in use go round in themselves -/
def END (G : gT) (n : Int) (T : Int → Int → Int → Bool) : Prop := ∃ O : Int → Int → Int → Prop, (∃ m i j : Int, O m i j) ∧ ∀ m i j : Int, O m i j → usd G n T m i j ∧ ∃ x p e : Int, kid G T m i j x p e ∧ O x p e
/-- the nodes in use stand in an order -/
def RNK (G : gT) (n : Int) (T : Int → Int → Int → Bool) : Prop := ∃ ρ : Int → Int → Int → Nat, ∀ m i j x p e : Int, usd G n T m i j → kid G T m i j x p e → ρ x p e < ρ m i j
/-- the counts of the nodes in use -/
def EQN (G : gT) (n : Int) (T : Int → Int → Int → Bool) (κ : Int → Int → Int → Nat) : Prop := ∀ m i j : Int, usd G n T m i j → κ m i j = min (sumN (wt G (cv T κ) m i j) 18634) 1000000000
section MD
variable {G : gT} {n : Int} {w : Int → Int} {T : Int → Int → Int → Bool} {κ κ' : Int → Int → Int → Nat} {m i j : Int} {M M' : ev_M}
theorem RNK.notEND (h : RNK G n T) (h2 : END G n T) : False := by
  obtain ⟨ρ, hρ⟩ := h
  obtain ⟨O, ⟨m, i, j, hO⟩, hk⟩ := h2
  have key : ∀ (N : Nat) (m i j : Int), ρ m i j < N → O m i j → False := by
    intro N
    induction N with
    | zero => intro m i j h; omega
    | succ N ih =>
      intro m i j hlt hO
      obtain ⟨hu, x, p, e, h1, h2⟩ := hk m i j hO
      have := hρ m i j x p e hu h1
      exact ih x p e (by omega) h2
  exact key (ρ m i j + 1) m i j (by omega) hO
theorem cv_onT (h : ∀ x p e : Int, κ x p e ≠ 0 → T x p e = true) : onT T (cv T κ) := by
  intro x p e hne
  unfold cv at hne
  by_cases e6 : x < 6
  · rw [if_pos e6] at hne; exact h x p e hne
  · rw [if_neg e6] at hne
    cases hc : T x p e with
    | true => rfl
    | false => rw [hc] at hne; exact absurd rfl hne
theorem pp_congr {v v' : Int → Int → Int → Nat} {f t r a b c : Int} : ∀ k : Nat, (∀ d : Nat, d < k → v (gs G r (d : Int)) (pf f a b c (d : Int)) (pt a b c t (d : Int)) = v' (gs G r (d : Int)) (pf f a b c (d : Int)) (pt a b c t (d : Int))) → pp G v f t r a b c k = pp G v' f t r a b c k := by
  intro k
  induction k with
  | zero => intro _; rfl
  | succ k ih =>
    intro h
    show pp G v f t r a b c k * _ = pp G v' f t r a b c k * _
    rw [ih (fun d hd => h d (by omega)), h k (by omega)]
/-- the sum reads the counts of the makers in the families alone -/
theorem wt_congr (hG : okG G) (h1 : onT T (cv T κ)) (h2 : onT T (cv T κ')) (h : ∀ x p e : Int, kid G T m i j x p e → κ x p e = κ' x p e) (N : Nat) : sumN (wt G (cv T κ) m i j) N = sumN (wt G (cv T κ') m i j) N := by
  refine sumN_congr (fun k hk => ?_)
  by_cases hF : isF G T m i j ((k / 1331 : Nat) : Int) ((k / 121 % 11 : Nat) : Int) ((k / 11 % 11 : Nat) : Int) ((k % 11 : Nat) : Int)
  · have g := (hG.2 _ hF.1.1.1 hF.1.1.2).2.1
    unfold wt
    rw [if_pos hF.1, if_pos hF.1, ← pp_pw hG hF, ← pp_pw hG hF]
    refine pp_congr _ (fun d hd => ?_)
    unfold cv
    by_cases e6 : gs G ((k / 1331 : Nat) : Int) (d : Int) < 6
    · rw [if_pos e6, if_pos e6]
      exact h _ _ _ ⟨_, _, _, _, (d : Int), hF, by omega, by omega, by omega, rfl, rfl, rfl⟩
    · rw [if_neg e6, if_neg e6]
  · rw [wt_no h1 hF, wt_no h2 hF]
theorem kM.of (e : M'.2 42 = M.2 42) : kM M' = kM M := by
  funext x p e'
  unfold kM
  simp only [aM_counts]
  rw [e]
theorem g_m117 {Q : Int → ev_M → Prop} {nd : Int} (hG : okG G) (hM : isM G M) (hP : PAR G n w M) (hD : isD G n w T) (hm : 0 ≤ m ∧ m < 6) (hij : 0 ≤ i ∧ i ≤ j ∧ j ≤ 10) (hnd : nd = 121 * m + 11 * i + j) (hd : dR M) (hc : cR M) (hT : onT T (cv T (kM M)))
    (h1 : (∀ x p e : Int, kid G T m i j x p e → dn M x p e) → ∀ M' : ev_M, fr itS0 [] M M' → Q 1 (ev_sA M' 42 nd.toNat ((min (sumN (wt G (cv T (kM M)) m i j) 18634) 1000000000 : Nat) : Int)))
    (h0 : (∃ x p e : Int, kid G T m i j x p e ∧ ¬ dn M x p e) → ∀ M' : ev_M, fr itS0 [] M M' → Q 0 M') : m117 nd M Q := by
  refine b117 ?_
  refine famS (σ := Int) (s := 0) (m := m) (f := i) (t := j) (c := fun s w3 M3 => c117_9 nd s w3 M3 Q) (P := fun s k M1 => fr itS0 [] M M1 ∧ s = ((min (sumN (wt G (cv T (kM M)) m i j) k.toNat) 1000000000 : Nat) : Int) ∧ ∀ r a b c d : Int, isF G T m i j r a b c → (1331 * r + 121 * a + 11 * b + c) < k → 0 ≤ d → d < gz G r → gs G r d ≤ 5 → dn M (gs G r d) (pf i a b c d) (pt a b c j d)) hG hD hm.1 hij hnd (by omega) (fun s k M1 hp => ⟨hM.of (hp.1.1 11 (by decide)) (hp.1.2 31 (by decide)) (hp.1.2 32 (by decide)) (hp.1.2 33 (by decide)), hP.of (hp.1.2 39 (by decide))⟩) (fun s k M1 M2 hf2 hp => ⟨hp.1.trans hf2, hp.2⟩) (fun s k k' M1 k0 hk hno hp => ⟨hp.1, by rw [wt_skip hT k0 hk hno]; exact hp.2.1, fun r a b c d hF hlt => hp.2.2 r a b c d hF ?_⟩) ?_ ?_ ⟨fr.refl, rfl, fun r a b c d hF hlt => ?_⟩
  · refine Decidable.byContradiction (fun hn2 => ?_)
    have := hno r a b c hF (by omega)
    omega
  · intro s M1 hI hr hF hcr hcc hp nxt
    have hM1 : isM G M1 := hM.of (hp.1.1 11 (by decide)) (hp.1.2 31 (by decide)) (hp.1.2 32 (by decide)) (hp.1.2 33 (by decide))
    have e41 := hp.1.2 41 (by decide)
    have e42 := hp.1.2 42 (by decide)
    have ek : kM M1 = kM M := kM.of e42
    have hd1 : dR M1 := by intro k hk; show M1.2 41 k = 0 ∨ M1.2 41 k = 1; rw [e41]; exact hd k hk
    have hc1 : cR M1 := by intro k hk; show 0 ≤ M1.2 42 k ∧ M1.2 42 k ≤ 1000000000; rw [e42]; exact hc k hk
    have edn : ∀ x p e : Int, dn M1 x p e ↔ dn M x p e := by
      intro x p e; unfold dn; simp only [aM_done]; rw [e41]
    refine b117_9 ⟨fun g => absurd g (by decide), fun _ => g_m116 hG hM1 hD hij hI hr hF hd1 hc1 (fun hall => ?_) (fun hex => ⟨fun g => absurd g (by omega), fun _ => h0 ?_ M1 hp.1⟩)⟩
    · rw [ek]
      obtain ⟨B, hB⟩ : ∃ B : Nat, B = pw G (cv T (kM M)) i j (sM_rule M1) (sM_one M1) (sM_two M1) (sM_three M1) := ⟨_, rfl⟩
      obtain ⟨A, hA⟩ : ∃ A : Nat, A = sumN (wt G (cv T (kM M)) m i j) (cur M1).toNat := ⟨_, rfl⟩
      rw [← hB]
      have hs := hp.2.1
      rw [← hA] at hs
      have hnx : sumN (wt G (cv T (kM M)) m i j) (cur M1 + 1).toNat = A + B := by
        rw [hA, hB, hcc]; exact wt_step hG hij hF.1
      have m1 := Nat.min_le_right A 1000000000
      have m2 := Nat.min_le_right B 1000000000
      have on : ∀ x : Int, x = ((min (A + B) 1000000000 : Nat) : Int) → c117_50 nd x M1 Q := by
        intro x hx
        refine b117_50 (nxt x M1 hI rfl ⟨hp.1, by rw [hnx]; exact hx, fun r a b c d hF2 hlt a1 a2 a3 => ?_⟩)
        by_cases e : (1331 * r + 121 * a + 11 * b + c) < cur M1
        · exact hp.2.2 r a b c d hF2 e a1 a2 a3
        · have v1 := hF2.1.rng hG hij
          have v2 := hF.1.rng hG hij
          have e1 : r = sM_rule M1 := by omega
          have e2 : a = sM_one M1 := by omega
          have e3 : b = sM_two M1 := by omega
          have e4 : c = sM_three M1 := by omega
          rw [e1] at a2 a3
          rw [e1, e2, e3, e4]
          exact (edn _ _ _).mp (hall d a1 a2 a3)
      refine ⟨fun _ => ⟨⟨by omega, by omega⟩, fun hle => ⟨⟨by omega, by omega⟩, on _ (by omega)⟩, fun hgt => on _ (by omega)⟩, fun g => absurd (by omega) g⟩
    · obtain ⟨d, d0, d1, d2, d3⟩ := hex
      exact ⟨_, _, _, ⟨_, _, _, _, d, hF, d0, d1, d2, rfl, rfl, rfl⟩, fun h => d3 ((edn _ _ _).mpr h)⟩
  · intro s M1 hp
    refine b117_9 ⟨fun _ => ⟨⟨by omega, by omega⟩, ?_⟩, fun g => absurd rfl g⟩
    rw [hp.2.1]
    refine h1 (fun x p e hkd => ?_) M1 hp.1
    obtain ⟨r, a, b, c, d, hF, d0, d1, d2, rfl, rfl, rfl⟩ := hkd
    have := hF.1.rng hG hij
    exact hp.2.2 r a b c d hF (by omega) d0 d1 d2
  · have := hF.1.rng hG hij
    omega
/-- the model's counts are found -/
def CNM (G : gT) (n : Int) (T : Int → Int → Int → Bool) (M : ev_M) : Prop := (cR M ∧ dR M) ∧ (∀ m i j : Int, kM M m i j ≠ 0 → usd G n T m i j) ∧ ((sM_endless M = 1 ∧ END G n T) ∨ (sM_endless M = 0 ∧ (RNK G n T ∧ EQN G n T (kM M)) ∧ ∀ m i j : Int, usd G n T m i j → dn M m i j))
def dN (M : ev_M) (m i j : Int) : Prop := (0 ≤ m ∧ m < 6) ∧ (0 ≤ i ∧ i ≤ 10) ∧ (0 ≤ j ∧ j ≤ 10) ∧ dn M m i j
/-- what findCounts keeps -/
def cinv (G : gT) (n : Int) (T : Int → Int → Int → Bool) (M M1 : ev_M) : Prop := fr (17 :: itS0) [41, 42] M M1 ∧ dR M1 ∧ cR M1 ∧ (∀ m i j : Int, dN M1 m i j → usd G n T m i j) ∧ (∀ m i j : Int, kM M1 m i j ≠ 0 → dN M1 m i j) ∧ (∀ m i j : Int, dN M1 m i j → ∀ x p e : Int, kid G T m i j x p e → dN M1 x p e) ∧ (∀ m i j : Int, dN M1 m i j → kM M1 m i j = min (sumN (wt G (cv T (kM M1)) m i j) 18634) 1000000000) ∧ ∃ (ρ : Int → Int → Int → Nat) (B : Nat), ∀ m i j : Int, dN M1 m i j → ρ m i j < B ∧ ∀ x p e : Int, kid G T m i j x p e → ρ x p e < ρ m i j
theorem cinv.ont (hG : okG G) (hT : okT n w) (hD : isD G n w T) {M1 : ev_M} (h : cinv G n T M M1) : onT T (cv T (kM M1)) := cv_onT (fun x p e hne => ((h.2.2.2.1 x p e (h.2.2.2.2.1 x p e hne)).rng hG hT hD).2.2)
end MD

/-! The class: shareOut, choose -/
section CH2
variable {G : gT} {n : Int} {w : Int → Int} {T : Int → Int → Int → Bool} {ρ : Int → Int → Int → Int} {m i j r : Int} {u : Nat → Int} {M M' : ev_M}
theorem g_m57 {Q : ev_M → Prop} {x : Nat} (hG : okG G) (hC : isC G M) (hR : tR' M) (hr : 0 ≤ r ∧ r < gn G) (hcut : ∀ d : Nat, d ≤ (gz G r).toNat → aW_cut M d = u d) (hu : ∀ d : Nat, d ≤ (gz G r).toNat → 0 ≤ u d ∧ u d ≤ 10) (hb : rkB G (vC M) r u (gz G r).toNat ≠ 0) (hx : x < 1000000000)
    (h : ∀ M' : ev_M, fr [] [27] M M' → (∀ d : Nat, d < (gz G r).toNat → aW_share M' d = ((shr G (vC M) r u (gz G r).toNat x d : Nat) : Int)) → Q M') : m57 r (x : Int) M Q := by
  have gc := hG.1
  have hg := hG.2 r hr.1 hr.2
  have hz := hg.2.1
  obtain ⟨-, esz, esy⟩ := hC.2 r hr.1 hr.2
  have hbn := (rkB_ne _).mp hb
  refine b57 ⟨⟨hr.1, by omega⟩, ?_⟩
  rw [esz]
  refine ⟨⟨by omega, by omega⟩, ?_⟩
  refine lpd (σ := Int × ev_M) (c := fun c s => c57_16 r s.1 c s.2 Q) (P := fun c s => c < gz G r ∧ fr [] [27] M s.2 ∧ s.1 = ((xq G (vC M) r u (gz G r).toNat x ((gz G r).toNat - (c + 1).toNat) : Nat) : Int) ∧ xq G (vC M) r u (gz G r).toNat x ((gz G r).toNat - (c + 1).toNat) < 1000000000 ∧ ∀ d : Nat, c < (d : Int) → d < (gz G r).toNat → aW_share s.2 d = ((shr G (vC M) r u (gz G r).toNat x d : Nat) : Int)) ?_ ?_ (r := gz G r - 1) (s := ((x : Int), M)) (by omega) ⟨by omega, fr.refl, by rw [show (gz G r).toNat - (gz G r - 1 + 1).toNat = 0 by omega]; rfl, by rw [show (gz G r).toNat - (gz G r - 1 + 1).toNat = 0 by omega]; exact hx, fun d a1 a2 => by omega⟩
  · rintro c ⟨X, M1⟩ c0 ⟨c1, hf1, hX, hXc, hsh⟩ ih
    dsimp only at hf1 hX hsh ih ⊢
    have ecn : ((c.toNat : Nat) : Int) = c := by omega
    have ek : (gz G r).toNat - (c + (-1) + 1).toNat = ((gz G r).toNat - (c + 1).toNat) + 1 := by omega
    have ed : (gz G r).toNat - (((gz G r).toNat - (c + 1).toNat) + 1) = c.toNat := by omega
    have ek2 : (gz G r).toNat - (c + 1).toNat = (gz G r).toNat - (c.toNat + 1) := by omega
    have hsy := hg.2.2 c c0 c1
    have esd : gR M1 r c = gs G r c := by
      show M1.2 4 _ = _
      rw [hf1.2 4 (by decide)]; exact esy c c0 c1
    have ec1 : aW_cut M1 c.toNat = u c.toNat := (congrFun (hf1.2 26 (by decide)) _).trans (hcut _ (by omega))
    have ec2 : aW_cut M1 (c + 1).toNat = u (c.toNat + 1) := by
      rw [show (c + 1).toNat = c.toNat + 1 by omega]
      exact (congrFun (hf1.2 26 (by decide)) _).trans (hcut _ (by omega))
    have h1 := hu c.toNat (by omega)
    have h2 := hu (c.toNat + 1) (by omega)
    obtain ⟨V, hV⟩ : ∃ V : Nat, V = vC M (gs G r c) (u c.toNat) (u (c.toNat + 1)) := ⟨_, rfl⟩
    obtain ⟨Y, hY⟩ : ∃ Y : Nat, Y = xq G (vC M) r u (gz G r).toNat x ((gz G r).toNat - (c + 1).toNat) := ⟨_, rfl⟩
    have exq : xq G (vC M) r u (gz G r).toNat x ((gz G r).toNat - (c + (-1) + 1).toNat) = Y / V := by
      rw [ek]
      show _ / vC M (gs G r (((gz G r).toNat - (((gz G r).toNat - (c + 1).toNat) + 1) : Nat) : Int)) (u ((gz G r).toNat - (((gz G r).toNat - (c + 1).toNat) + 1))) (u ((gz G r).toNat - (((gz G r).toNat - (c + 1).toNat) + 1) + 1)) = _
      rw [ed, ecn, ← hV, ← hY]
    have esh : shr G (vC M) r u (gz G r).toNat x c.toNat = Y % V := by
      unfold shr
      rw [ecn, ← ek2, ← hY, ← hV]
    have hVn : V ≠ 0 := by
      have := hbn c.toNat (by omega)
      rw [ecn, ← hV] at this
      exact this
    have hcn : aT_count M1 ((gs G r c * 11 + u c.toNat) * 11 + u (c.toNat + 1)).toNat = (V : Int) := by
      show M1.2 21 _ = _
      rw [hf1.2 21 (by decide), hV]
      exact vC_at hR hsy h1 h2
    have hVle : V ≤ 1000000000 := by
      have := hR ((gs G r c * 11 + u c.toNat) * 11 + u (c.toNat + 1)).toNat (by omega)
      have h3 := vC_at hR hsy h1 h2
      rw [← hV] at h3
      omega
    rw [← hY] at hX hXc
    have hmod : Y % V < V := Nat.mod_lt _ (Nat.pos_of_ne_zero hVn)
    have hdiv : Y / V ≤ Y := Nat.div_le_self Y V
    -- the writes
    have fin : ∀ t X' : Int, t = ((Y % V : Nat) : Int) → X' = ((Y / V : Nat) : Int) → c57_101 r c X' (ev_sA M1 27 c.toNat t) Q := by
      intro t X' ht hX'
      refine b57_101 ⟨⟨by omega, by omega⟩, ih (X', _) ⟨by omega, hf1.sA (by decide), by rw [exq]; exact hX', by rw [exq]; omega, fun d a1 a2 => ?_⟩⟩
      show (ev_sA M1 27 c.toNat t).2 27 d = _
      by_cases e : d = c.toNat
      · rw [e, sA_same, esh]; exact ht
      · rw [sA_ne e]
        exact hsh d (by omega) a2
    refine b57_16 ⟨fun g => absurd g (by omega), fun _ => g_m4 ⟨hr.1, by omega⟩ ⟨c0, by omega⟩ ⟨⟨c0, by omega⟩, ⟨by omega, by omega⟩, ⟨by omega, by omega⟩, ?_⟩⟩
    rw [esd, ec1, ec2]
    refine g_m46 hsy h1 h2 ⟨⟨by omega, by omega⟩, ?_⟩
    rw [hcn, hX]
    refine ⟨fun hle => ?_, fun hgt => ⟨⟨by omega, by omega⟩, ⟨by omega, by omega⟩, ?_, ?_⟩⟩
    · have hV1 : V = 1 := by omega
      refine b57_83 ⟨⟨c0, by omega⟩, fun _ => fin 0 _ ?_ ?_, fun g => absurd hle g⟩
      · rw [hV1, Nat.mod_one]; rfl
      · rw [hV1, Nat.div_one]
    · rw [← Int.natCast_emod]; exact ⟨by omega, by omega⟩
    · refine b57_83 ⟨⟨c0, by omega⟩, fun g => absurd g hgt, fun _ => ⟨⟨by omega, by omega⟩, ⟨by omega, by omega⟩, fin _ _ (Int.natCast_emod Y V).symm (Int.natCast_ediv Y V).symm⟩⟩
  · rintro ⟨X, M1⟩ ⟨-, hf1, hX, hXc, hsh⟩
    dsimp only at hf1 hsh ⊢
    exact b57_16 ⟨fun _ => h M1 hf1 (fun d hd => hsh d (by omega) hd), fun g => absurd (by omega) g⟩
/-- choosing the family of a tree -/
theorem g_m58 {Q : Int → ev_M → Prop} {k : Nat} {nd : Int} (hG : okG G) (hT : okT n w) (hD : isD G n w T) (hC : isC G M) (hF : FI G n T (usd G n T) ρ M) (hu : usd G n T m i j) (hnd : nd = (m * 11 + i) * 11 + j) (hk : k < 1000000000) (hr : 0 ≤ r ∧ r < gn G) (hl : gl G r = m) (hc : cuts G T r i j u) (hS1 : sumN (wt G (vC M) m i j) (cdu G r j u).toNat ≤ k) (hS2 : k < sumN (wt G (vC M) m i j) (cdu G r j u).toNat + rkB G (vC M) r u (gz G r).toNat)
    (h : ∀ M' : ev_M, fr [] [23, 24, 26, 27] M M' → (∀ d : Nat, d ≤ (gz G r).toNat → aW_cut M' d = u d) → (∀ d : Nat, d < (gz G r).toNat → aW_share M' d = ((shr G (vC M) r u (gz G r).toNat (k - sumN (wt G (vC M) m i j) (cdu G r j u).toNat) d : Nat) : Int)) → Q r M') : m58 nd (k : Int) M Q := by
  have hn := hT.1
  have gc := hG.1
  have hrg := hu.rng hG hT hD
  have hft : 0 ≤ i ∧ i ≤ j ∧ j ≤ 10 := by omega
  have hon := hF.ont hG hT hD
  have hord := hF.ord hG hT hD
  have hw := wt_cdu (v := vC M) hG hT hD hft hr hl hc
  have hcr := cdu_rng hG hT hD hft hr hc
  have ern : ((r.toNat : Nat) : Int) = r := by omega
  have hmo := hc.mono hG hT hD
  have hrk := rk_code (m := m) (v := vC M) (q := r.toNat) hG hft hord (by rw [ern]; exact hr.2) (by rw [ern]; exact hl) (u := u) hc.1 (by rw [ern]; exact hc.2.1) (by
    rw [ern]
    intro d hd
    have := hmo d hd
    omega)
  rw [ern] at hrk
  -- the sum of the rule and all before
  have hR1 : sumN (wt G (vC M) m i j) ((cdu G r j u).toNat + 1) ≤ rsum G (vC M) m i j (r + 1).toNat := by
    have e1 : rsum G (vC M) m i j (r + 1).toNat = sumN (wt G (vC M) m i j) ((r.toNat + 1) * 1331) := by
      rw [node_sum hG hft hord (r.toNat + 1), show (r + 1).toNat = r.toNat + 1 by omega]
      rfl
    rw [e1]
    refine sumN_mono ?_
    have hb : cdu G r j u < 1331 * (r + 1) := by
      obtain ⟨hFm, -⟩ := isF_of (m := m) hG hT hD hr hl hc
      have := hFm.1.rng hG hft
      clear hFm
      unfold cdu
      omega
    omega
  have hR2 : sumN (wt G (vC M) m i j) ((cdu G r j u).toNat + 1) = sumN (wt G (vC M) m i j) (cdu G r j u).toNat + wt G (vC M) m i j (cdu G r j u).toNat := rfl
  have hstep := rsum_step (G := G) (v := vC M) (m := m) (f := i) (t := j) hr.1 hr.2
  rw [if_pos hl] at hstep
  refine b58 ?_
  have eM : nd / 121 = m := by omega
  have eI : nd / 11 % 11 = i := by omega
  have eJ : nd % 11 = j := by omega
  refine lp (σ := Int × ev_M) (n := r) (c := fun q s => c58_6 nd s.1 q s.2 Q) (P := fun q s => fr [] [23, 24] M s.2 ∧ rsum G (vC M) m i j q.toNat ≤ k ∧ s.1 = ((k - rsum G (vC M) m i j q.toNat : Nat) : Int)) ?_ ?_ (r := 0) (s := ((k : Int), M)) (by omega) hr.1 ⟨fr.refl, Nat.zero_le _, rfl⟩
  · rintro q ⟨X, M1⟩ q0 q1 ⟨hf1, hle, hX⟩ ih
    dsimp only at hf1 hX ih ⊢
    have hC1 : isC G M1 := hC.of (hf1.1 3 (by decide)) (hf1.2 2 (by decide)) (hf1.2 3 (by decide)) (hf1.2 4 (by decide))
    have e3 := hC1.1
    have el : aG_left M1 q.toNat = gl G q := (hC1.2 q q0 (by omega)).1
    have hF1 : FI G n T (usd G n T) ρ M1 := hF.mem (hf1.2 21 (by decide)) (hf1.2 22 (by decide))
    have ev : vC M1 = vC M := vC.of (hf1.2 21 (by decide))
    have hst := rsum_step (G := G) (v := vC M) (m := m) (f := i) (t := j) (r := q) q0 (by omega)
    have hmon : rsum G (vC M) m i j (q + 1).toNat ≤ rsum G (vC M) m i j r.toNat := sumN_mono (by omega)
    refine b58_6 ⟨fun g => absurd g (by omega), fun _ => ⟨⟨q0, by omega⟩, b36 ⟨⟨by omega, by omega⟩, ?_⟩⟩⟩
    rw [el, eM]
    refine ⟨fun hne => b58_83 ⟨⟨by omega, by omega⟩, ih (X, M1) ⟨hf1, ?_, ?_⟩⟩, fun heq => b37 ⟨⟨by omega, by omega⟩, ⟨by omega, by omega⟩, b38 ⟨⟨by omega, by omega⟩, ?_⟩⟩⟩
    · rw [hst, if_neg hne]; omega
    · rw [hst, if_neg hne, Nat.add_zero]; exact hX
    · rw [eI, eJ]
      refine g_m50 hG hC1 hF1.1 (by rw [ev]; exact hord) (hF1.hfl hG hT hD) ⟨q0, by omega⟩ hft (fun M2 hf2 hW => ?_)
      rw [ev]
      rw [if_pos (Decidable.of_not_not heq)] at hst
      obtain ⟨R, hR⟩ : ∃ R : Nat, R = rw' G (vC M) q j (gz G q).toNat (gz G q).toNat i := ⟨_, rfl⟩
      rw [← hR] at hst ⊢
      have hRk : rsum G (vC M) m i j q.toNat + R ≤ k := by omega
      refine ⟨fun hle2 => ⟨⟨by omega, by omega⟩, b58_83 ⟨⟨by omega, by omega⟩, ih (X - ((min R 1000000000 : Nat) : Int), M2) ⟨hf1.trans hf2, ?_, ?_⟩⟩⟩, fun hgt => absurd (by omega) hgt⟩
      · rw [hst]; omega
      · rw [hst]; show X - ((min R 1000000000 : Nat) : Int) = _; omega
  · rintro ⟨X, M1⟩ ⟨hf1, hle, hX⟩
    dsimp only at hf1 hX ⊢
    have hC1 : isC G M1 := hC.of (hf1.1 3 (by decide)) (hf1.2 2 (by decide)) (hf1.2 3 (by decide)) (hf1.2 4 (by decide))
    have e3 := hC1.1
    have el : aG_left M1 r.toNat = gl G r := (hC1.2 r hr.1 hr.2).1
    have hF1 : FI G n T (usd G n T) ρ M1 := hF.mem (hf1.2 21 (by decide)) (hf1.2 22 (by decide))
    have ev : vC M1 = vC M := vC.of (hf1.2 21 (by decide))
    refine b58_6 ⟨fun g => absurd g (by omega), fun _ => ⟨⟨hr.1, by omega⟩, b36 ⟨⟨by omega, by omega⟩, ?_⟩⟩⟩
    rw [el, eM]
    refine ⟨fun hne => absurd hl hne, fun _ => b37 ⟨⟨by omega, by omega⟩, ⟨by omega, by omega⟩, b38 ⟨⟨by omega, by omega⟩, ?_⟩⟩⟩
    rw [eI, eJ]
    refine g_m50 hG hC1 hF1.1 (by rw [ev]; exact hord) (hF1.hfl hG hT hD) hr hft (fun M2 hf2 hW => ?_)
    have ev2 : vC M2 = vC M := (vC.of (hf2.2 21 (by decide))).trans ev
    rw [ev] at hW ⊢
    have hk1 : k - rsum G (vC M) m i j r.toNat < rw' G (vC M) r j (gz G r).toNat (gz G r).toNat i := by omega
    refine ⟨fun hle2 => absurd hle2 (by omega), fun _ => ?_⟩
    rw [hX]
    have hC2 : isC G M2 := hC1.of (hf2.1 3 (by decide)) (hf2.2 2 (by decide)) (hf2.2 3 (by decide)) (hf2.2 4 (by decide))
    have hR2' : tR' M2 := (hF1.mem (hf2.2 21 (by decide)) (hf2.2 22 (by decide))).1
    refine g_m56 (x := 0) (fl := fC' M1) hG hC2 hR2' (by rw [ev2]; exact hon) (by rw [ev2]; exact hord) hr hft hrg.1 hnd (by rw [ev2]; exact hW) (by rw [ev2]; exact hk1) (by omega) (fun M3 u3 hf3 hc3 g1 g2 hcut => ?_)
    rw [ev2] at g1 g2 ⊢
    -- the cuts are the tree's
    have hmo3 := hc3.mono hG hT hD
    have hrk3 := rk_code (m := m) (v := vC M) (q := r.toNat) hG hft hord (by rw [ern]; exact hr.2) (by rw [ern]; exact hl) (u := u3) hc3.1 (by rw [ern]; exact hc3.2.1) (by
      rw [ern]
      intro d hd
      have := hmo3 d hd
      omega)
    rw [ern] at hrk3
    have hw3 := wt_cdu (v := vC M) hG hT hD hft hr hl hc3
    have hcr3 := cdu_rng hG hT hD hft hr hc3
    have ecd := pos_uniq (F := wt G (vC M) m i j) (k := k) (q := (cdu G r j u).toNat) (q' := (cdu G r j u3).toNat) (by omega) (by omega) (by omega) (by omega)
    obtain ⟨-, e2⟩ := cdu_inj hG hT hD hft hr hr hc hc3 (by omega)
    have erk : rk G (vC M) r j (gz G r).toNat u3 (gz G r).toNat = rk G (vC M) r j (gz G r).toNat u (gz G r).toNat := rk_ext _ (fun d hd => (e2 d hd).symm)
    have erkB : rkB G (vC M) r u3 (gz G r).toNat = rkB G (vC M) r u (gz G r).toNat := rkB_ext _ (fun d hd => (e2 d hd).symm)
    have ev3 : vC M3 = vC M := (vC.of (hf3.2 21 (by decide))).trans ev2
    have hC3 : isC G M3 := hC2.of (hf3.1 3 (by decide)) (hf3.2 2 (by decide)) (hf3.2 3 (by decide)) (hf3.2 4 (by decide))
    have hR3' : tR' M3 := by
      intro q hq
      show 0 ≤ M3.2 21 q ∧ M3.2 21 q ≤ 1000000000
      rw [hf3.2 21 (by decide)]; exact hR2' q hq
    have enum : k - rsum G (vC M) m i j r.toNat - rk G (vC M) r j (gz G r).toNat u3 (gz G r).toNat = k - sumN (wt G (vC M) m i j) (cdu G r j u).toNat := by omega
    rw [enum]
    refine g_m57 (u := u) hG hC3 hR3' hr (fun d hd => (hcut d hd).trans (e2 d hd).symm) (fun d hd => by have := hmo d hd; omega) (by rw [ev3]; omega) (by omega) (fun M4 hf4 hsh => ?_)
    rw [ev3] at hsh
    refine h M4 (((hf1.trans hf2).mono (by decide) (by decide)).trans ((hf3.mono (by decide) (by decide)).trans (hf4.mono (by decide) (by decide)))) (fun d hd => ?_) hsh
    exact (congrFun (hf4.2 26 (by decide)) d).trans ((hcut d hd).trans (e2 d hd).symm)
end CH2

/-! reduces -/
def sufE (G : gT) (r d : Int) : Prop := ∀ k : Int, d ≤ k → k < gz G r → gs G r k < 6 ∧ nul G (gs G r k)
/-- the items of one rule -/
def rdR (G : gT) (W : Int → Int → Bool) (r : Int) (N : Nat) : Nat := sumN (fun d => (W r (d : Int)).toNat) N
def rdT (G : gT) (W : Int → Int → Bool) (N : Nat) : Nat := sumN (fun r => rdR G W (r : Int) ((gz G (r : Int)).toNat + 1)) N
section RDU
variable {G : gT} {n c : Int} {w go : Int → Int} {T : Int → Int → Int → Bool} {W : Int → Int → Bool} {K s : Int} {M M' : ev_M}
theorem rdR_le (r : Int) (N : Nat) : rdR G W r N ≤ N := by
  induction N with
  | zero => exact Nat.le_refl _
  | succ N ih =>
    have : (W r (N : Int)).toNat ≤ 1 := Bool.toNat_le _
    show rdR G W r N + (W r (N : Int)).toNat ≤ N + 1
    omega
theorem rdT_step {r : Int} (r0 : 0 ≤ r) : rdT G W (r + 1).toNat = rdT G W r.toNat + rdR G W r ((gz G r).toNat + 1) := by
  unfold rdT
  rw [show (r + 1).toNat = r.toNat + 1 by omega]
  show sumN _ r.toNat + rdR G W ((r.toNat : Nat) : Int) ((gz G ((r.toNat : Nat) : Int)).toNat + 1) = _
  rw [show ((r.toNat : Nat) : Int) = r by omega]
theorem g_m21 {Q : Int → ev_M → Prop} (hG : okG G) (hT : okT n w) (hC : isC G M) (hc : CHT G n w M) (hs : 0 ≤ s ∧ s < 60) (hk : kOK G (aA_kernel M s.toNat)) (ha : awq G (aA_kernel M s.toNat) (aA_awaited M s.toNat)) (hW : ∀ r d : Int, W r d = true ↔ (ith G (aA_kernel M s.toNat) r d ∧ sufE G r d)) (h : Q ((rdT G W (gn G).toNat : Nat) : Int) M) : m21 s M Q := by
  have gc := hG.1
  have e3 := hC.1
  refine b21 ?_
  refine lp (σ := Int) (n := gn G) (c := fun r a => c21_5 s a r M Q) (P := fun r a => a = ((rdT G W r.toNat : Nat) : Int) ∧ a ≤ 5 * r) ?_ ?_ (by omega) gc.1 ⟨rfl, by omega⟩
  · rintro r a r0 r1 ⟨ha1, hle⟩ ih
    have hg := hG.2 r r0 r1
    obtain ⟨el, esz, esy⟩ := hC.2 r r0 r1
    have hst := rdT_step (G := G) (W := W) r0
    have hfull := rdR_le (G := G) (W := W) r ((gz G r).toNat + 1)
    have hl6 : 0 ≤ aG_left M r.toNat ∧ aG_left M r.toNat < 6 := by rw [el]; exact hg.1
    -- the rule's end
    have out : ∀ a' : Int, a' = a + ((rdR G W r ((gz G r).toNat + 1) : Nat) : Int) → c21_100 s a' r M Q := fun a' ha' => b21_100 ⟨⟨by omega, by omega⟩, ih a' ⟨by rw [hst]; omega, by omega⟩⟩
    refine b21_5 ⟨fun g => absurd g (by omega), fun _ => ⟨⟨r0, by omega⟩, ?_⟩⟩
    rw [esz]
    refine lpd (σ := Int × Int) (c := fun d σ => c21_32 s σ.1 r σ.2 d M Q) (P := fun d σ => d ≤ gz G r ∧ σ.1 + ((rdR G W r (d + 1).toNat : Nat) : Int) = a + ((rdR G W r ((gz G r).toNat + 1) : Nat) : Int) ∧ 0 ≤ σ.1 ∧ ((σ.2 = 1 ∧ sufE G r d) ∨ (σ.2 = 0 ∧ rdR G W r (d + 1).toNat = 0))) ?_ ?_ (r := gz G r) (s := (a, 1)) (by omega) ⟨Int.le_refl _, by rw [show (gz G r + 1).toNat = (gz G r).toNat + 1 by omega], by omega, Or.inl ⟨rfl, fun k k0 k1 => by omega⟩⟩
    · rintro d ⟨b, e⟩ d0 ⟨d1, hb, hb0, he⟩ ihd
      dsimp only at hb hb0 he ihd ⊢
      refine b21_32 ⟨fun g => absurd g (by omega), fun _ => ⟨fun he0 => out b ?_, fun he1 => ?_⟩⟩
      · rcases he with ⟨e1, -⟩ | ⟨-, hz⟩
        · omega
        · rw [hz] at hb; omega
      · have hsuf : sufE G r d := by
          rcases he with ⟨-, h2⟩ | ⟨e1, -⟩
          · exact h2
          · exact absurd e1 he1
        have hih := hC_iff (q := s) (d := d) hG hC ha r0 r1
        have hd1 : rdR G W r (d + 1).toNat = rdR G W r d.toNat + (W r d).toNat := by
          rw [show (d + 1).toNat = d.toNat + 1 by omega]
          show rdR G W r d.toNat + (W r ((d.toNat : Nat) : Int)).toNat = _
          rw [show ((d.toNat : Nat) : Int) = d by omega]
        -- on, with the item counted
        have on : ∀ t : Int, t = (((W r d).toNat : Nat) : Int) → c21_60 s r d b t M Q := by
          intro t ht
          have hW1 : (W r d).toNat ≤ 1 := Bool.toNat_le _
          have e0 : b + t + ((rdR G W r d.toNat : Nat) : Int) = a + ((rdR G W r ((gz G r).toNat + 1) : Nat) : Int) := by omega
          have stop : rdR G W r d.toNat = 0 → c21_91 s (b + t) r d M Q := fun hz => b21_91 (b21_92 ⟨⟨by omega, by omega⟩, ihd (b + t, 0) ⟨by omega, by rw [show (d + (-1) + 1).toNat = d.toNat by omega]; exact e0, by show 0 ≤ b + t; omega, Or.inr ⟨rfl, by rw [show (d + (-1) + 1).toNat = d.toNat by omega]; exact hz⟩⟩⟩)
          refine b21_60 ⟨⟨by omega, by omega⟩, fun hd0 => stop (by rw [show d.toNat = 0 by omega]; rfl), fun hd0 => ⟨⟨by omega, by omega⟩, g_m4 ⟨r0, by omega⟩ ⟨by omega, by omega⟩ ?_⟩⟩
          have hsy := hg.2.2 (d - 1) (by omega) (by omega)
          rw [esy (d - 1) (by omega) (by omega)]
          refine g_m20 hG hT hc hsy (fun h6 hn => ⟨fun g => absurd g (by decide), fun _ => b21_92 ⟨⟨by omega, by omega⟩, ihd (b + t, 1) ⟨by omega, by rw [show (d + (-1) + 1).toNat = d.toNat by omega]; exact e0, by show 0 ≤ b + t; omega, Or.inl ⟨rfl, fun k k0 k1 => ?_⟩⟩⟩⟩) (fun hn => ⟨fun _ => stop (sumN_zero (fun q hq => ?_)), fun g => absurd rfl g⟩)
          · by_cases e : k = d - 1
            · rw [e]; exact ⟨h6, hn⟩
            · exact hsuf k (by omega) k1
          · cases hw : W r (q : Int) with
            | false => rfl
            | true => exact absurd (((hW r q).mp hw).2 (d - 1) (by omega) (by omega)) hn
        refine g_m15 hs ⟨r0, by omega⟩ ⟨d0, by omega⟩ ⟨hk.1.1, by have := hk.1.2; omega⟩ ha.1 hl6 (fun hb2 => ⟨fun g => absurd g (by decide), fun _ => on 1 ?_⟩) (fun hb2 => ⟨fun _ => on 0 ?_, fun g => absurd rfl g⟩)
        · rw [(hW r d).mpr ⟨hih.mp hb2, hsuf⟩]; rfl
        · have : W r d = false := Bool.eq_false_iff.mpr (fun hw => by
            rw [hih.mpr ((hW r d).mp hw).1] at hb2
            exact absurd hb2 (by decide))
          rw [this]; rfl
    · rintro ⟨b, e⟩ ⟨-, hb, hb0, he⟩
      dsimp only at hb ⊢
      have hz : rdR G W r ((-1 : Int) + 1).toNat = 0 := rfl
      rw [hz] at hb
      exact b21_32 ⟨fun _ => out b (by omega), fun g => absurd (by omega) g⟩
  · rintro a ⟨ha1, -⟩
    refine b21_5 ⟨fun _ => ?_, fun g => absurd (by omega) g⟩
    rw [ha1]
    exact h
theorem g_m126l {Q : Int → ev_M → Prop} (hG : okG G) (hM : isM G M) (hE : EMP G M) (hs : 0 ≤ s ∧ s < 60) (hr : rep G K (aM_low M s.toNat) (aM_high M s.toNat)) (hW : ∀ r d : Int, W r d = true ↔ (ith G K r d ∧ sufE G r d)) (h : Q ((rdT G W (gn G).toNat : Nat) : Int) M) : c126_18 s 0 0 M Q := by
  have gc := hG.1
  have e11 := hM.1
  have hER : eR M := by
    intro k hk
    rcases hE (k : Int) (by omega) (by omega) with ⟨e, -⟩ | ⟨e, -⟩
    · rw [show ((k : Int)).toNat = k by omega] at e; exact Or.inl e
    · rw [show ((k : Int)).toNat = k by omega] at e; exact Or.inr e
  refine lp (σ := Int) (n := gn G) (c := fun r a => c126_18 s a r M Q) (P := fun r a => a = ((rdT G W r.toNat : Nat) : Int) ∧ a ≤ 5 * r) ?_ ?_ (by omega) gc.1 ⟨rfl, by omega⟩
  · rintro r a r0 r1 ⟨ha1, hle⟩ ih
    have hg := hG.2 r r0 r1
    obtain ⟨el, esz, esy⟩ := hM.2 r r0 r1
    have hst := rdT_step (G := G) (W := W) r0
    have hfull := rdR_le (G := G) (W := W) r ((gz G r).toNat + 1)
    have heF : ∀ d : Int, 0 ≤ d → (eF G M r d ↔ sufE G r d) := by
      intro d d0
      constructor
      · intro h2 k k0 k1
        have h3 := h2 k k0 k1
        have hsy := hg.2.2 k (by omega) k1
        rcases hE (gs G r k) hsy.1 h3.1 with ⟨e, -⟩ | ⟨-, hn⟩
        · omega
        · exact ⟨h3.1, hn⟩
      · intro h2 k k0 k1
        have h3 := h2 k k0 k1
        have hsy := hg.2.2 k (by omega) k1
        rcases hE (gs G r k) hsy.1 h3.1 with ⟨-, hn⟩ | ⟨e, -⟩
        · exact absurd h3.2 hn
        · exact ⟨h3.1, e⟩
    have hith : ∀ d : Int, 0 ≤ d → d ≤ gz G r → (it2 (aM_low M s.toNat) (aM_high M s.toNat) r d = true ↔ ith G K r d) := by
      intro d d0 d1
      unfold ith
      by_cases e : d = 0
      · subst e
        rw [hr.2.2 r r0 r1]
        exact ⟨fun h => ⟨fun _ => h, fun h2 => absurd rfl h2⟩, fun h => h.1 rfl⟩
      · rw [hr.2.1.2.2 r d r0 r1 (by omega) (by omega)]
        exact ⟨fun h => ⟨fun h2 => absurd h2 e, fun _ => h⟩, fun h => h.2 e⟩
    refine b126_18 ⟨fun g => absurd g (by omega), fun _ => ?_⟩
    refine lp (σ := Int) (n := gz G r + 1) (c := fun d b => c126_29 s b r d M Q) (P := fun d b => b = a + ((rdR G W r d.toNat : Nat) : Int)) ?_ ?_ (by omega) (by omega) (by show a = a + ((0 : Nat) : Int); omega)
    · rintro d b d0 d1 hb ihd
      have hle2 := rdR_le (G := G) (W := W) r d.toNat
      have hd1 : rdR G W r (d + 1).toNat = rdR G W r d.toNat + (W r d).toNat := by
        rw [show (d + 1).toNat = d.toNat + 1 by omega]
        show rdR G W r d.toNat + (W r ((d.toNat : Nat) : Int)).toNat = _
        rw [show ((d.toNat : Nat) : Int) = d by omega]
      have skip : W r d = false → c126_67 s b r d M Q := fun hw => b126_67 (b126_68 ⟨⟨by omega, by omega⟩, ihd b (by rw [hd1, hw]; show b = a + ((_ + 0 : Nat) : Int); omega)⟩)
      refine b126_29 ⟨⟨r0, by omega⟩, fun g => absurd g (by rw [esz]; omega), fun _ => g_m89 ⟨hs.1, by omega⟩ ⟨r0, by omega⟩ ⟨d0, by omega⟩ hr.1.1 hr.1.2.1 (fun hi => ⟨fun g => absurd g (by decide), fun _ => g_m104 hG hM hER ⟨r0, r1⟩ ⟨d0, by omega⟩ (fun hf => ⟨fun g => absurd g (by decide), fun _ => ⟨⟨by omega, by omega⟩, b126_68 ⟨⟨by omega, by omega⟩, ihd (b + 1) ?_⟩⟩⟩) (fun hf => ⟨fun _ => skip ?_, fun g => absurd rfl g⟩)⟩) (fun hi => ⟨fun _ => skip ?_, fun g => absurd rfl g⟩)⟩
      · rw [hd1, (hW r d).mpr ⟨(hith d d0 (by omega)).mp hi, (heF d d0).mp hf⟩]
        show b + 1 = a + ((_ + 1 : Nat) : Int)
        omega
      · exact Bool.eq_false_iff.mpr (fun hw => hf ((heF d d0).mpr ((hW r d).mp hw).2))
      · exact Bool.eq_false_iff.mpr (fun hw => by
          rw [(hith d d0 (by omega)).mpr ((hW r d).mp hw).1] at hi
          exact absurd hi (by decide))
    · rintro b hb
      refine b126_29 ⟨⟨r0, by omega⟩, fun _ => ⟨⟨by omega, by omega⟩, ih b ⟨by rw [hst, hb, show (gz G r + 1).toNat = (gz G r).toNat + 1 by omega]; omega, ?_⟩⟩, fun g => absurd (by rw [esz]; omega) g⟩
      rw [hb, show (gz G r + 1).toNat = (gz G r).toNat + 1 by omega]
      omega
  · rintro a ⟨ha1, -⟩
    refine b126_18 ⟨fun _ => ?_, fun g => absurd (by omega) g⟩
    rw [ha1]
    exact h
theorem st_reduces {s : Int} (h : INV M) : m73 s M (fun w' M1 => m126 s M1 (fun w'' M2 => w' = w'' ∧ INV M2)) := by
  obtain ⟨G, n, w, T, c, go, hA, hT, hD, hR, hC, hM⟩ := h
  have hG := hA.1
  have hcr := hR.1
  refine b73 (g_m71' hC.2.2.1 (fun hs => ⟨fun _ => g_m68 hG hT hC (fun M1 f1 c1 ch1 => ?_), fun g => absurd (by decide) g⟩) (fun hs => ⟨fun g => absurd rfl g, fun _ => ?_⟩))
  · have f1' : fr cS cA M M1 := f1.mono (by decide) (by decide)
    have hA1 := hA.fr f1' (by decide) (by decide)
    obtain ⟨-, -, -, hE1, hw1, hs1, hr1, -⟩ := hA1
    have ec : sA_count M1 = c := c1.2.2.1.1
    rw [ec] at hE1 hw1 hr1
    obtain ⟨cn, hp, hcn, -, -⟩ := hE1
    have hk := hp.2.2.1 s hs.1 (by omega)
    obtain ⟨W, hW⟩ : ∃ W : Int → Int → Bool, ∀ r d : Int, W r d = true ↔ (ith G (aA_kernel M1 s.toNat) r d ∧ sufE G r d) := ⟨fun r d => @decide _ (Classical.propDecidable (ith G (aA_kernel M1 s.toNat) r d ∧ sufE G r d)), fun r d => @decide_eq_true_iff _ (Classical.propDecidable _)⟩
    refine g_m21 hG hT c1.1 ch1 ⟨hs.1, by omega⟩ hk (hw1 s hs.1 (by omega)) hW ?_
    refine b126 (g_m121 hG hT hD hR (MDL_byC hM f1') (fun M2 f2 m2 _ kn => ?_))
    have hI := INV.mk hA hT hD hR f1' c1 f2 m2
    refine g_m124' m2.2.2.1 (fun _ => ⟨fun _ => ?_, fun g => absurd (by decide) g⟩) (fun h2 => absurd hs h2)
    have hrep : rep G (aA_kernel M1 s.toNat) (aM_low M2 s.toNat) (aM_high M2 s.toNat) := by
      have h3 := hr1 s hs.1 hs.2
      simp only [aM_low, aM_high] at h3 ⊢
      rw [f2.2 35 (by decide), f2.2 36 (by decide)]
      exact h3
    exact g_m126l hG m2.1 kn.2.1 ⟨hs.1, by omega⟩ hrep hW ⟨rfl, hI⟩
  · refine b126 (g_m121 hG hT hD hR hM (fun M2 f2 m2 _ kn => ?_))
    have hI := INV.mk hA hT hD hR (fr.refl) hC f2 m2
    exact g_m124' m2.2.2.1 (fun h2 => absurd h2 hs) (fun _ => ⟨fun g => absurd rfl g, fun _ => ⟨rfl, hI⟩⟩)
end RDU

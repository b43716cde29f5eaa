/-! The invariant, and the questions about symbols, states and places -/
def INV (M : ev_M) : Prop := ∃ (G : gT) (n : Int) (w : Int → Int) (T : Int → Int → Int → Bool) (c : Int) (go : Int → Int), AUT G M ∧ okT n w ∧ isD G n w T ∧ goR c go ∧ CLS G n w T c go M ∧ MDL G n w T c go M
section QS1
variable {G : gT} {n c : Int} {w go : Int → Int} {T : Int → Int → Int → Bool} {M M1 M2 : ev_M}
theorem INV.mk (hA : AUT G M) (hT : okT n w) (hD : isD G n w T) (hR : goR c go) (f1 : fr cS cA M M1) (c1 : CLS G n w T c go M1) (f2 : fr mS mA M1 M2) (m2 : MDL G n w T c go M2) : INV M2 :=
  ⟨G, n, w, T, c, go, (hA.fr f1 (by decide) (by decide)).fr f2 (by decide) (by decide), hT, hD, hR, c1.fr f2 (by decide) (by decide), m2⟩
theorem MDL_byC (h : MDL G n w T c go M) (f : fr cS cA M M1) : MDL G n w T c go M1 := h.fr f (by decide) (by decide)
theorem st_nullable {x : Int} (h : INV M) : m69 x M (fun w' M1 => m122 x M1 (fun w'' M2 => w' = w'' ∧ INV M2)) := by
  obtain ⟨G, n, w, T, c, go, hA, hT, hD, hR, hC, hM⟩ := h
  have hG := hA.1
  -- the model's word
  have mod : ∀ (v : Int) (M1 : ev_M), fr cS cA M M1 → CLS G n w T c go M1 → ((v = 1 ∧ 0 ≤ x ∧ x < 6 ∧ nul G x) ∨ (v = 0 ∧ ¬ (0 ≤ x ∧ x < 6 ∧ nul G x))) → m122 x M1 (fun w'' M2 => v = w'' ∧ INV M2) := by
    intro v M1 f1 c1 hv
    refine b122 (g_m121 hG hT hD hR (MDL_byC hM f1) (fun M2 f2 m2 _ kn => ?_))
    have hI := INV.mk hA hT hD hR f1 c1 f2 m2
    have no : v = 0 → c122_24 M2 (fun w'' M2 => v = w'' ∧ INV M2) := fun e => b122_24 (b122_25 ⟨Or.inl rfl, e, hI⟩)
    refine g_m95 (fun hx => ⟨fun g => absurd g (by decide), fun _ => ⟨hx, fun he => no ?_, fun he => b122_25 ⟨Or.inr rfl, ?_, hI⟩⟩⟩) (fun hx => ⟨fun _ => no ?_, fun g => absurd rfl g⟩)
    · rcases hv with ⟨-, -, -, hn⟩ | ⟨e, -⟩
      · rcases kn.2.1 x hx.1 hx.2 with ⟨-, h2⟩ | ⟨h2, -⟩
        · exact absurd hn h2
        · omega
      · exact e
    · rcases hv with ⟨e, -⟩ | ⟨-, hn⟩
      · exact e
      · rcases kn.2.1 x hx.1 hx.2 with ⟨h2, -⟩ | ⟨-, h2⟩
        · exact absurd h2 he
        · exact absurd ⟨hx.1, hx.2, h2⟩ hn
    · rcases hv with ⟨-, h1, h2, -⟩ | ⟨e, -⟩
      · exact absurd ⟨h1, h2⟩ hx
      · exact e
  refine b69 (g_m5 (fun hx => ⟨fun _ => g_m68 hG hT hC (fun M1 f1 c1 ch1 => ?_), fun g => absurd (by decide) g⟩) (fun hx => ⟨fun g => absurd rfl g, fun _ => mod 0 M fr.refl hC (Or.inr ⟨rfl, fun h => hx ⟨h.1, h.2.1⟩⟩)⟩))
  have f1' : fr cS cA M M1 := f1.mono (by decide) (by decide)
  exact g_m20 hG hT ch1 (by omega) (fun h6 hn => ⟨Or.inr rfl, mod 1 M1 f1' c1 (Or.inl ⟨rfl, hx.1, hx.2, hn⟩)⟩) (fun hn => ⟨Or.inl rfl, mod 0 M1 f1' c1 (Or.inr ⟨rfl, fun h => hn ⟨h.2.1, h.2.2⟩⟩)⟩)
theorem g_m127' {p : Int} {Q : Int → ev_M → Prop} (hY : isY n w M) (h1 : 0 ≤ p ∧ p ≤ n → Q 1 M) (h0 : ¬ (0 ≤ p ∧ p ≤ n) → Q 0 M) : m127 p M Q := g_m127 (fun h => h1 (by rw [hY.1] at h; exact h)) (fun h => h0 (by rw [hY.1] at h; exact h))
theorem g_m74' {p : Int} {Q : Int → ev_M → Prop} (hX : isX n w M) (h1 : 0 ≤ p ∧ p ≤ n → Q 1 M) (h0 : ¬ (0 ≤ p ∧ p ≤ n) → Q 0 M) : m74 p M Q := g_m74 (fun h => h1 (by rw [hX.1] at h; exact h)) (fun h => h0 (by rw [hX.1] at h; exact h))
theorem g_m124' {s : Int} {Q : Int → ev_M → Prop} (hW : isW c go M) (h1 : 0 ≤ s ∧ s < c → Q 1 M) (h0 : ¬ (0 ≤ s ∧ s < c) → Q 0 M) : m124 s M Q := g_m124 (fun h => h1 (by rw [hW.1] at h; exact h)) (fun h => h0 (by rw [hW.1] at h; exact h))
theorem g_m71' {s : Int} {Q : Int → ev_M → Prop} (hA : isG c go M) (h1 : 0 ≤ s ∧ s < c → Q 1 M) (h0 : ¬ (0 ≤ s ∧ s < c) → Q 0 M) : m71 s M Q := g_m71 (fun h => h1 (by rw [hA.1] at h; exact h)) (fun h => h0 (by rw [hA.1] at h; exact h))
theorem g_m131' {x i j : Int} {Q : Int → ev_M → Prop} (hY : isY n w M) (h1 : (0 ≤ x ∧ x < 6) ∧ 0 ≤ i ∧ i ≤ j ∧ j ≤ n → Q 1 M) (h0 : ¬ ((0 ≤ x ∧ x < 6) ∧ 0 ≤ i ∧ i ≤ j ∧ j ≤ n) → Q 0 M) : m131 x i j M Q := g_m131 (fun h => h1 (by rw [hY.1] at h; exact h)) (fun h => h0 (by rw [hY.1] at h; exact h))
theorem g_m79' {x i j : Int} {Q : Int → ev_M → Prop} (hX : isX n w M) (h1 : (0 ≤ x ∧ x < 6) ∧ 0 ≤ i ∧ i ≤ j ∧ j ≤ n → Q 1 M) (h0 : ¬ ((0 ≤ x ∧ x < 6) ∧ 0 ≤ i ∧ i ≤ j ∧ j ≤ n) → Q 0 M) : m79 x i j M Q := g_m79 (fun h => h1 (by rw [hX.1] at h; exact h)) (fun h => h0 (by rw [hX.1] at h; exact h))
theorem st_stands {p s : Int} (h : INV M) : m76 p s M (fun w' M1 => m128 p s M1 (fun w'' M2 => w' = w'' ∧ INV M2)) := by
  obtain ⟨G, n, w, T, c, go, hA, hT, hD, hR, hC, hM⟩ := h
  have hG := hA.1
  have hn := hT.1
  have hcr := hR.1
  have mod : ∀ (v : Int) (M1 : ev_M), fr cS cA M M1 → CLS G n w T c go M1 → ((v = 1 ∧ (0 ≤ p ∧ p ≤ n) ∧ (0 ≤ s ∧ s < c) ∧ fro G n w go p s) ∨ (v = 0 ∧ ¬ ((0 ≤ p ∧ p ≤ n) ∧ (0 ≤ s ∧ s < c) ∧ fro G n w go p s))) → m128 p s M1 (fun w'' M2 => v = w'' ∧ INV M2) := by
    intro v M1 f1 c1 hv
    refine b128 (g_m121 hG hT hD hR (MDL_byC hM f1) (fun M2 f2 m2 _ kn => ?_))
    have hI := INV.mk hA hT hD hR f1 c1 f2 m2
    have no : ¬ ((0 ≤ p ∧ p ≤ n) ∧ (0 ≤ s ∧ s < c) ∧ fro G n w go p s) → c128_38 M2 (fun w'' M2 => v = w'' ∧ INV M2) := by
      intro hno
      refine b128_38 (b128_39 ⟨Or.inl rfl, ?_, hI⟩)
      rcases hv with ⟨-, h2⟩ | ⟨e, -⟩
      · exact absurd h2 hno
      · exact e
    refine g_m127' m2.2.1 (fun hp => ⟨fun g => absurd g (by decide), fun _ => g_m124' m2.2.2.1 (fun hs => ⟨fun g => absurd g (by decide), fun _ => ⟨⟨by omega, by omega⟩, ⟨by omega, by omega⟩, ⟨by omega, by omega⟩, fun he => no (fun h2 => ?_), fun he => b128_39 ⟨Or.inr rfl, ?_, hI⟩⟩⟩) (fun hs => ⟨fun _ => no (fun h2 => hs h2.2.1), fun g => absurd rfl g⟩)⟩) (fun hp => ⟨fun _ => no (fun h2 => hp h2.1), fun g => absurd rfl g⟩)
    · have := ((kn.2.2.2.2.2 p s).mpr h2.2.2).2.2
      omega
    · have hf : fm M2 p s := by
        refine ⟨by omega, by omega, ?_⟩
        rcases kn.2.2.2.2.1 (60 * p + s).toNat (by omega) with e | e
        · exact absurd e he
        · exact e
      rcases hv with ⟨e, -⟩ | ⟨-, hno⟩
      · exact e
      · exact absurd ⟨hp, hs, (kn.2.2.2.2.2 p s).mp hf⟩ hno
  have no : ¬ ((0 ≤ p ∧ p ≤ n) ∧ (0 ≤ s ∧ s < c)) → c76_16 M (fun w' M1 => m128 p s M1 (fun w'' M2 => w' = w'' ∧ INV M2)) := fun hno => b76_16 (mod 0 M fr.refl hC (Or.inr ⟨rfl, fun h => hno ⟨h.1, h.2.1⟩⟩))
  refine b76 (g_m74' hC.2.1 (fun hp => ⟨fun g => absurd g (by decide), fun _ => g_m71' hC.2.2.1 (fun hs => ⟨fun _ => g_m75 hG hT hR hC (fun M1 f1 c1 fc1 => ⟨⟨hp.1, by omega⟩, ?_⟩), fun g => absurd (by decide) g⟩) (fun hs => ⟨fun g => absurd rfl g, fun _ => no (fun h2 => hs h2.2)⟩)⟩) (fun hp => ⟨fun _ => no (fun h2 => hp h2.1), fun g => absurd rfl g⟩))
  have f1' : fr cS cA M M1 := f1.mono (by decide) (by decide)
  have hk := fc1.1 p.toNat (by omega)
  refine ⟨⟨hk.1, by omega⟩, ⟨hs.1, by omega⟩, sr_rng (by omega), fun g => b76_45 ⟨Or.inl rfl, mod 0 M1 f1' c1 (Or.inr ⟨rfl, fun h2 => ?_⟩)⟩, fun g => b76_45 ⟨Or.inr rfl, mod 1 M1 f1' c1 (Or.inl ⟨rfl, hp, hs, (fc1.2 p s).mp ⟨by omega, by omega, ?_⟩⟩)⟩⟩
  · have := ((fc1.2 p s).mpr h2.2.2).2.2
    rw [bt_sr.mp g] at this
    exact absurd this (by decide)
  · cases hb : bt (aF_at M1 p.toNat) s.toNat with
    | true => rfl
    | false => exact absurd (bt_sr.mpr hb) g
theorem st_frontier {p : Int} (h : INV M) : m77 p M (fun w' M1 => m129 p M1 (fun w'' M2 => w' = w'' ∧ INV M2)) := by
  obtain ⟨G, n, w, T, c, go, hA, hT, hD, hR, hC, hM⟩ := h
  have hG := hA.1
  have hn := hT.1
  have hcr := hR.1
  refine b77 (g_m74' hC.2.1 (fun hp => ⟨fun _ => g_m75 hG hT hR hC (fun M1 f1 c1 fc1 => ⟨⟨hp.1, by omega⟩, g_m0 (fc1.1 p.toNat (by omega)) ?_⟩), fun g => absurd (by decide) g⟩) (fun hp => ⟨fun g => absurd rfl g, fun _ => ?_⟩))
  · have f1' : fr cS cA M M1 := f1.mono (by decide) (by decide)
    refine b129 (g_m121 hG hT hD hR (MDL_byC hM f1') (fun M2 f2 m2 _ kn => ?_))
    have hI := INV.mk hA hT hD hR f1' c1 f2 m2
    have e13 := m2.2.2.1.1
    refine g_m127' m2.2.1 (fun _ => ⟨fun _ => ?_, fun g => absurd (by decide) g⟩) (fun hp2 => absurd hp hp2)
    have hfm : ∀ q : Nat, q < 60 → (aM_front M2 (60 * p + q).toNat = 0 ∧ bt (aF_at M1 p.toNat) q = false) ∨ (aM_front M2 (60 * p + q).toNat = 1 ∧ bt (aF_at M1 p.toNat) q = true) := by
      intro q hq
      have e1 := (fc1.2 p (q : Int)).trans (kn.2.2.2.2.2 p (q : Int)).symm
      rcases kn.2.2.2.2.1 (60 * p + q).toNat (by omega) with e | e
      · refine Or.inl ⟨e, Bool.eq_false_iff.mpr (fun hb => ?_)⟩
        have := (e1.mp ⟨by omega, by omega, by rw [show ((q : Int)).toNat = q by omega]; exact hb⟩).2.2
        omega
      · refine Or.inr ⟨e, ?_⟩
        have := (e1.mpr ⟨by omega, by omega, e⟩).2.2
        rw [show ((q : Int)).toNat = q by omega] at this
        exact this
    refine lp (σ := Int) (n := c) (c := fun s a => c129_18 p a s M2 (fun w'' M3 => ((cntB (fun k => bt (aF_at M1 p.toNat) k) 60 : Nat) : Int) = w'' ∧ INV M3)) (P := fun s a => a = ((cntB (fun k => bt (aF_at M1 p.toNat) k) s.toNat : Nat) : Int) ∧ a ≤ s) ?_ ?_ (by omega) (by omega) ⟨rfl, Int.le_refl _⟩
    · rintro s a s0 s1 ⟨ha, hle⟩ ih
      have enx : cntB (fun k => bt (aF_at M1 p.toNat) k) (s + 1).toNat = cntB (fun k => bt (aF_at M1 p.toNat) k) s.toNat + (bt (aF_at M1 p.toNat) s.toNat).toNat := by
        rw [show (s + 1).toNat = s.toNat + 1 by omega]; rfl
      have hs := hfm s.toNat (by omega)
      rw [show ((s.toNat : Nat) : Int) = s by omega] at hs
      refine b129_18 ⟨fun g => absurd g (by omega), fun _ => ⟨⟨by omega, by omega⟩, ⟨by omega, by omega⟩, ⟨by omega, by omega⟩, fun he => b129_47 ⟨⟨by omega, by omega⟩, ih a ⟨?_, by omega⟩⟩, fun he => ⟨⟨by omega, by omega⟩, b129_47 ⟨⟨by omega, by omega⟩, ih (a + 1) ⟨?_, by omega⟩⟩⟩⟩⟩
      · rcases hs with ⟨-, hb⟩ | ⟨e, -⟩
        · rw [enx, hb]; show a = ((_ + 0 : Nat) : Int); omega
        · omega
      · rcases hs with ⟨e, -⟩ | ⟨-, hb⟩
        · exact absurd e he
        · rw [enx, hb]; show a + 1 = ((_ + 1 : Nat) : Int); omega
    · rintro a ⟨ha, -⟩
      refine b129_18 ⟨fun _ => ⟨?_, hI⟩, fun g => absurd (by omega) g⟩
      rw [ha]
      have : cntB (fun k => bt (aF_at M1 p.toNat) k) 60 = cntB (fun k => bt (aF_at M1 p.toNat) k) c.toNat := by
        rw [cntB_sum, cntB_sum]
        refine sumN_skip (by omega) (fun q q0 q1 => ?_)
        cases hb : bt (aF_at M1 p.toNat) q with
        | false => rfl
        | true =>
          have hf := (fc1.2 p (q : Int)).mp ⟨by omega, by omega, by rw [show ((q : Int)).toNat = q by omega]; exact hb⟩
          have := hf.rng hG hT hR
          omega
      rw [this]
  · refine b129 (g_m121 hG hT hD hR hM (fun M2 f2 m2 _ kn => ?_))
    have hI := INV.mk hA hT hD hR (fr.refl) hC f2 m2
    exact g_m127' m2.2.1 (fun hp2 => absurd hp2 hp) (fun _ => ⟨fun g => absurd rfl g, fun _ => ⟨rfl, hI⟩⟩)
theorem st_accepted (h : INV M) : m78 M (fun w' M1 => m130 M1 (fun w'' M2 => w' = w'' ∧ INV M2)) := by
  obtain ⟨G, n, w, T, c, go, hA, hT, hD, hR, hC, hM⟩ := h
  have hG := hA.1
  have hn := hT.1
  refine b78 (g_m68 hG hT hC (fun M1 f1 c1 ch1 => ?_))
  have f1' : fr cS cA M M1 := f1.mono (by decide) (by decide)
  have mod : ∀ v : Int, ((v = 1 ∧ der G n w 0 0 n) ∨ (v = 0 ∧ ¬ der G n w 0 0 n)) → m130 M1 (fun w'' M2 => v = w'' ∧ INV M2) := by
    intro v hv
    refine b130 (g_m121 hG hT hD hR (MDL_byC hM f1') (fun M2 f2 m2 _ kn => ?_))
    have hI := INV.mk hA hT hD hR f1' c1 f2 m2
    rw [m2.2.1.1]
    have hu := kn.2.2.1
    refine ⟨⟨hn.1, by omega⟩, hu.1 n.toNat (by omega), ?_, hI⟩
    have e1 : us M2 0 0 n ↔ der G n w 0 0 n := by
      rw [hu.2 0 0 n]
      exact ⟨fun h2 => (hD _ _ _).mp (h2.rng hG hT hD).2.2, fun h2 => usd.root ((hD _ _ _).mpr h2)⟩
    have ei : (121 * 0 + 11 * 0 + n).toNat = n.toNat := by omega
    rcases hv with ⟨e, hd⟩ | ⟨e, hd⟩
    · have := (e1.mpr hd).2.2.2
      rw [ei] at this
      rw [e, this]
    · rcases hu.1 n.toNat (by omega) with e2 | e2
      · rw [e, e2]
      · exact absurd (e1.mp ⟨by omega, by omega, by omega, by rw [ei]; exact e2⟩) hd
  have e5 := c1.2.1.1
  rw [e5]
  exact g_m24 hG hT ch1 (by omega) (by omega) (by omega) (fun hd => ⟨Or.inr rfl, mod 1 (Or.inl ⟨rfl, hd⟩)⟩) (fun hd => ⟨Or.inl rfl, mod 0 (Or.inr ⟨rfl, hd⟩)⟩)
theorem st_used {x i j : Int} (h : INV M) : m81 x i j M (fun w' M1 => m132 x i j M1 (fun w'' M2 => w' = w'' ∧ INV M2)) := by
  obtain ⟨G, n, w, T, c, go, hA, hT, hD, hR, hC, hM⟩ := h
  have hG := hA.1
  have hn := hT.1
  have mod : ∀ (v : Int) (M1 : ev_M), fr cS cA M M1 → CLS G n w T c go M1 → ((v = 1 ∧ usd G n T x i j) ∨ (v = 0 ∧ ¬ usd G n T x i j)) → m132 x i j M1 (fun w'' M2 => v = w'' ∧ INV M2) := by
    intro v M1 f1 c1 hv
    refine b132 (g_m121 hG hT hD hR (MDL_byC hM f1) (fun M2 f2 m2 _ kn => ?_))
    have hI := INV.mk hA hT hD hR f1 c1 f2 m2
    have hu := kn.2.2.1
    have no : ¬ usd G n T x i j → c132_37 M2 (fun w'' M2 => v = w'' ∧ INV M2) := by
      intro hno
      refine b132_37 (b132_38 ⟨Or.inl rfl, ?_, hI⟩)
      rcases hv with ⟨-, h2⟩ | ⟨e, -⟩
      · exact absurd h2 hno
      · exact e
    refine g_m131' m2.2.1 (fun hp => ⟨fun g => absurd g (by decide), fun _ => ⟨⟨by omega, by omega⟩, ⟨by omega, by omega⟩, ⟨by omega, by omega⟩, ⟨by omega, by omega⟩, ⟨by omega, by omega⟩, fun he => no (fun h2 => ?_), fun he => b132_38 ⟨Or.inr rfl, ?_, hI⟩⟩⟩) (fun hp => ⟨fun _ => no (fun h2 => hp ?_), fun g => absurd rfl g⟩)
    · have := ((hu.2 x i j).mpr h2).2.2.2
      omega
    · rcases hv with ⟨e, -⟩ | ⟨-, hno⟩
      · exact e
      · refine absurd ((hu.2 x i j).mp ⟨hp.1, by omega, by omega, ?_⟩) hno
        rcases hu.1 (121 * x + 11 * i + j).toNat (by omega) with e | e
        · exact absurd e he
        · exact e
    · have := h2.rng hG hT hD
      exact ⟨this.1, this.2.1⟩
  refine b81 (g_m79' hC.2.1 (fun hp => ⟨fun _ => g_m80 hG hT hD hC (fun M1 f1 c1 ch1 u1 fo1 => ?_), fun g => absurd (by decide) g⟩) (fun hp => ⟨fun g => absurd rfl g, fun _ => mod 0 M fr.refl hC (Or.inr ⟨rfl, fun h2 => hp ?_⟩)⟩))
  · have f1' : fr cS cA M M1 := f1.mono (by decide) (by decide)
    exact g_m34 u1 hp.1 (by omega) (by omega) (fun hu => ⟨Or.inr rfl, mod 1 M1 f1' c1 (Or.inl ⟨rfl, hu⟩)⟩) (fun hu => ⟨Or.inl rfl, mod 0 M1 f1' c1 (Or.inr ⟨rfl, hu⟩)⟩)
  · have := h2.rng hG hT hD
    exact ⟨this.1, this.2.1⟩
theorem st_families {x i j : Int} (h : INV M) : m82 x i j M (fun w' M1 => m133 x i j M1 (fun w'' M2 => w' = w'' ∧ INV M2)) := by
  obtain ⟨G, n, w, T, c, go, hA, hT, hD, hR, hC, hM⟩ := h
  have hG := hA.1
  have hn := hT.1
  have mod : ∀ (v : Int) (M1 : ev_M), fr cS cA M M1 → CLS G n w T c go M1 → ((usd G n T x i j ∧ v = ((nfam G T x i j : Nat) : Int)) ∨ (v = 0 ∧ ¬ usd G n T x i j)) → m133 x i j M1 (fun w'' M2 => v = w'' ∧ INV M2) := by
    intro v M1 f1 c1 hv
    refine b133 (g_m121 hG hT hD hR (MDL_byC hM f1) (fun M2 f2 m2 _ kn => ?_))
    have hu := kn.2.2.1
    have no : ¬ usd G n T x i j → c133_73 0 M2 (fun w'' M2 => v = w'' ∧ INV M2) := by
      intro hno
      refine b133_73 ⟨?_, INV.mk hA hT hD hR f1 c1 f2 m2⟩
      rcases hv with ⟨h2, -⟩ | ⟨e, -⟩
      · exact absurd h2 hno
      · exact e
    refine g_m131' m2.2.1 (fun hp => ⟨fun g => absurd g (by decide), fun _ => ⟨⟨by omega, by omega⟩, ⟨by omega, by omega⟩, ⟨by omega, by omega⟩, ⟨by omega, by omega⟩, ⟨by omega, by omega⟩, fun he => no (fun h2 => ?_), fun he => ⟨⟨by omega, by omega⟩, ⟨by omega, by omega⟩, ⟨by omega, by omega⟩, ⟨by omega, by omega⟩, ?_⟩⟩⟩) (fun hp => ⟨fun _ => no (fun h2 => hp ?_), fun g => absurd rfl g⟩)
    · have := ((hu.2 x i j).mpr h2).2.2.2
      omega
    · refine g_fam (m := x) (f := i) (t := j) hG m2.1 kn.1 hD hp.1 (by omega) rfl (fun M3 f3 => ⟨?_, INV.mk hA hT hD hR f1 c1 (f2.trans (f3.mono (by decide) (by decide))) (m2.fr f3 (by decide) (by decide))⟩)
      rcases hv with ⟨-, e⟩ | ⟨-, hno⟩
      · exact e
      · refine absurd ((hu.2 x i j).mp ⟨hp.1, by omega, by omega, ?_⟩) hno
        rcases hu.1 (121 * x + 11 * i + j).toNat (by omega) with e | e
        · exact absurd e he
        · exact e
    · have := h2.rng hG hT hD
      exact ⟨this.1, this.2.1⟩
  refine b82 (g_m79' hC.2.1 (fun hp => ⟨fun _ => g_m80 hG hT hD hC (fun M1 f1 c1 ch1 u1 fo1 => ?_), fun g => absurd (by decide) g⟩) (fun hp => ⟨fun g => absurd rfl g, fun _ => mod 0 M fr.refl hC (Or.inr ⟨rfl, fun h2 => hp ?_⟩)⟩))
  · have f1' : fr cS cA M M1 := f1.mono (by decide) (by decide)
    refine g_m34 u1 hp.1 (by omega) (by omega) (fun hu => ⟨fun g => absurd g (by decide), fun _ => g_m43 (m := x) hG hT hD c1.1 ch1 ⟨by omega, by omega, by omega⟩ (fun M2 f2 => b82_43 (mod _ M2 (f1'.trans (f2.mono (by decide) (by decide))) (c1.fr f2 (by decide) (by decide)) (Or.inl ⟨hu, rfl⟩)))⟩) (fun hu => ⟨fun _ => b82_43 (mod 0 M1 f1' c1 (Or.inr ⟨rfl, hu⟩)), fun g => absurd rfl g⟩)
  · have := h2.rng hG hT hD
    exact ⟨this.1, this.2.1⟩
end QS1

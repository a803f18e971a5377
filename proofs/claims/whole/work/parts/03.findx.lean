/-! the component's search -/
def kx_V (fc hr ct : Nat → Int32) : Prop := ∀ s, s < 96 → ∃ F, F ≤ 6 ∧ fc s = nI F ∧ ∀ f, f < F → hr (6 * s + f) = 0 ∨ ct (6 * s + f) = -1 ∨ ∃ t, t < 96 ∧ ct (6 * s + f) = nI t
theorem kx_52 (cap rc fl co ls : Int32) (rg ex sr kd fc hr ct ra rd fs : Nat → Int32) (hV : kx_V fc hr ct) : ∀ d i, i + d = 96 → ∀ c ra rd, kx_I (kg_M rg kd fc hr ct) c ra rd →
    (∀ j, j < i → j < c → ∀ s, s < 96 → rd j = nI s → ∀ t, kg_eg kd fc hr ct s t → ra t ≠ 0) →
    ∃ c' ra' rd', kx_I (kg_M rg kd fc hr ct) c' ra' rd' ∧ kx_E c ra rd c' ra' rd' ∧ (∀ s, s < 96 → ra' s ≠ 0 → ∀ t, kg_eg kd fc hr ct s t → ra' t ≠ 0) ∧
      ∀ post : SX → Prop, post (cap, nI c', fl, co, ls, rg, ex, sr, kd, fc, hr, ct, ra', rd', fs) → wX_findReachable_52 post (d + 1) (nI i) cap (nI c) fl co ls rg ex sr kd fc hr ct ra rd fs := by
  intro d
  induction d with
  | zero =>
    intro i hi c ra rd hI hd
    have hc : c ≤ 96 := by rw [← hI.2.2.2.1]; exact kc_le ra 96
    refine ⟨c, ra, rd, hI, kx_E0, fun s hs h t e => ?_, fun post h => br_t (nI_le (a := 96) (by omega) (by omega)) h⟩
    obtain ⟨j, j1, j2⟩ := hI.2.2.1 s hs h
    exact hd j (by omega) j1 s hs j2 t e
  | succ d ih =>
    intro i hi c ra rd hI hd
    have hc : c ≤ 96 := by rw [← hI.2.2.2.1]; exact kc_le ra 96
    have hg := nI_ge (a := i) (b := 96) (by omega) (by omega)
    have ec := nI_clamp (n := i) (by omega)
    have hin := vp_in_nI (n := i) (N := 96) (by omega) (by omega)
    by_cases z : c ≤ i
    · refine ⟨c, ra, rd, hI, kx_E0, fun s hs h t e => ?_, fun post h => br_f hg (br_t (nI_le z (by omega)) h)⟩
      obtain ⟨j, j1, j2⟩ := hI.2.2.1 s hs h
      exact hd j (by omega) j1 s hs j2 t e
    · obtain ⟨s, hs, es, hra⟩ := hI.2.1 i (by omega)
      obtain ⟨F, hF, eF, hcc⟩ := hV s hs
      obtain ⟨c1, ra1, rd1, i1, i2, i3, i4⟩ := kx_ff cap rc fl co ls rg ex sr kd fc hr ct ra rd fs hs hF eF hcc hI (hI.2.2.2.2 s hs hra)
      have hd1 : ∀ j, j < i + 1 → j < c1 → ∀ s, s < 96 → rd1 j = nI s → ∀ t, kg_eg kd fc hr ct s t → ra1 t ≠ 0 := by
        intro j g1 g2 s' hs' g3 t g4
        rw [i2.2.2 j (by omega)] at g3
        by_cases y : j = i
        · subst y
          rw [es] at g3
          have := kb_inj g3 (by omega) (by omega)
          subst this
          exact i3 t g4
        · exact i2.2.1 t g4.1 (hd j (by omega) (by omega) s' hs' g3 t g4)
      obtain ⟨c', ra', rd', h1, h2, h3, h4⟩ := ih (i + 1) (by omega) c1 ra1 rd1 i1 hd1
      refine ⟨c', ra', rd', h1, kx_Et i2 h2, h3, fun post h => br_f hg (br_f (nI_ge (by omega) (by omega)) ⟨hin, ?_⟩)⟩
      rw [ec, es]
      exact i4 _ (nm_r (nI_1 i) (h4 post h))
theorem kx_28 (cap rc fl co ls : Int32) (rg ex sr kd fc hr ct ra rd fs : Nat → Int32) (hR : ∀ r, r < 8 → rg r = -1 ∨ ∃ t, t < 96 ∧ rg r = nI t) : ∀ d i, i + d = 8 → ∀ c ra rd, kx_I (kg_M rg kd fc hr ct) c ra rd →
    (∀ j, j < i → ∀ t, t < 96 → rg j = nI t → ra t ≠ 0) →
    ∃ c' ra' rd', kx_I (kg_M rg kd fc hr ct) c' ra' rd' ∧ (∀ t, kg_rt rg t → ra' t ≠ 0) ∧
      ∀ post : SX → Prop, (∃ n52, wX_findReachable_52 post n52 0 cap (nI c') fl co ls rg ex sr kd fc hr ct ra' rd' fs) → wX_findReachable_28 post (d + 1) (nI i) cap (nI c) fl co ls rg ex sr kd fc hr ct ra rd fs := by
  intro d
  induction d with
  | zero =>
    intro i hi c ra rd hI hd
    refine ⟨c, ra, rd, hI, fun t ⟨h1, r, h2, h3⟩ => hd r (by omega) t h1 h3, fun post h => br_t (nI_le (a := 8) (by omega) (by omega)) h⟩
  | succ d ih =>
    intro i hi c ra rd hI hd
    have hg := nI_ge (a := i) (b := 8) (by omega) (by omega)
    have ec := nI_clamp (n := i) (by omega)
    have hin := vp_in_nI (n := i) (N := 8) (by omega) (by omega)
    have hp : rg i = -1 ∨ ∃ t, t < 96 ∧ rg i = nI t ∧ kg_M rg kd fc hr ct t := by
      rcases hR i (by omega) with g | ⟨t, g1, g2⟩
      · exact Or.inl g
      · exact Or.inr ⟨t, g1, g2, kg_r ⟨g1, i, by omega, g2⟩⟩
    obtain ⟨c1, ra1, rd1, i1, i2, i3, i4⟩ := kx_reach cap rc fl co ls rg ex sr kd fc hr ct ra rd fs (rg i) hI hp
    obtain ⟨c', ra', rd', h1, h2, h3⟩ := ih (i + 1) (by omega) c1 ra1 rd1 i1 (fun j g1 t g2 g3 => by
      by_cases y : j = i
      · subst y; exact i3 t g2 g3
      · exact i2.2.1 t g2 (hd j (by omega) t g2 g3))
    refine ⟨c', ra', rd', h1, h2, fun post h => br_f hg ⟨hin, ?_⟩⟩
    rw [ec]
    exact i4 _ (nm_r (nI_1 i) (h3 post h))
theorem kx_2 (cap rc fl co ls : Int32) (rg ex sr kd fc hr ct ra rd fs : Nat → Int32) : ∀ d i, i + d = 96 → ∀ ra, (∀ j, j < i → ra j = 0) → ∃ ra', (∀ j, j < 96 → ra' j = 0) ∧
      ∀ post : SX → Prop, (∃ n28, wX_findReachable_28 post n28 0 cap 0 fl co ls rg ex sr kd fc hr ct ra' rd fs) → wX_findReachable_2 post cap rc fl co ls (d + 1) (nI i) rg ex sr kd fc hr ct ra rd fs := by
  intro d
  induction d with
  | zero =>
    intro i hi ra hd
    exact ⟨ra, fun j hj => hd j (by omega), fun post h => br_t (nI_le (a := 96) (by omega) (by omega)) h⟩
  | succ d ih =>
    intro i hi ra hd
    have ec := nI_clamp (n := i) (by omega)
    obtain ⟨ra', h1, h2⟩ := ih (i + 1) (by omega) (upd ra i 0) (fun j hj => by
      by_cases y : j = i
      · subst y; exact pk_us
      · rw [pk_un y]; exact hd j (by omega))
    refine ⟨ra', h1, fun post h => br_f (nI_ge (b := 96) (by omega) (by omega)) ⟨vp_in_nI (by omega) (by omega), nm_r (by rw [ec, kb_n0]) (nm_r (nI_1 i) (h2 post h))⟩⟩
theorem kx_find (cap rc fl co ls : Int32) (rg ex sr kd fc hr ct ra rd fs : Nat → Int32) (hV : kx_V fc hr ct) (hR : ∀ r, r < 8 → rg r = -1 ∨ ∃ t, t < 96 ∧ rg r = nI t) :
    ∃ rc' ra' rd', (∀ s, s < 96 → ra' s = 0 ∨ ra' s = 1) ∧ (∀ s, s < 96 → (ra' s ≠ 0 ↔ kg_M rg kd fc hr ct s)) ∧
      ∀ post : SX → Prop, post (cap, rc', fl, co, ls, rg, ex, sr, kd, fc, hr, ct, ra', rd', fs) → wpX_findReachable post (cap, rc, fl, co, ls, rg, ex, sr, kd, fc, hr, ct, ra, rd, fs) := by
  obtain ⟨ra0, z0, w0⟩ := kx_2 cap rc fl co ls rg ex sr kd fc hr ct ra rd fs 96 0 rfl ra (fun j hj => by omega)
  have I0 : kx_I (kg_M rg kd fc hr ct) 0 ra0 rd := ⟨fun s hs => Or.inl (z0 s hs), fun j hj => by omega, fun s hs h => absurd (z0 s hs) h, kc_0 96 z0, fun s hs h => absurd (z0 s hs) h⟩
  obtain ⟨c1, ra1, rd1, I1, r1, w1⟩ := kx_28 cap rc fl co ls rg ex sr kd fc hr ct ra rd fs hR 8 0 rfl 0 ra0 rd I0 (fun j hj => by omega)
  obtain ⟨c2, ra2, rd2, I2, E2, k2, w2⟩ := kx_52 cap rc fl co ls rg ex sr kd fc hr ct ra rd fs hV 96 0 rfl c1 ra1 rd1 I1 (fun j hj => by omega)
  refine ⟨nI c2, ra2, rd2, I2.1, fun s hs => ⟨I2.2.2.2.2 s hs, fun h => ?_⟩, fun post h => ⟨97, w0 post ⟨9, w1 post ⟨97, w2 post h⟩⟩⟩⟩
  exact (h (fun s => s < 96 ∧ ra2 s ≠ 0) (fun t ht => ⟨ht.1, E2.2.1 t ht.1 (r1 t ht)⟩) (fun s t hs e => ⟨e.1, k2 s hs.1 hs.2 t e⟩)).2
theorem kx_words (cap rc fl co ls : Int32) (rg ex sr kd fc hr ct ra rd fs : Nat → Int32) {post : Int32 → SX → Prop} (hp : post (kb_sum ra fc 96) (cap, rc, fl, co, ls, rg, ex, sr, kd, fc, hr, ct, ra, rd, fs)) : ∃ n8, wX_reachableWords_8 post cap rc fl co ls rg ex sr kd fc hr ct ra rd fs n8 0 0 := by
  have h : ∀ d i, i + d = 96 → wX_reachableWords_8 post cap rc fl co ls rg ex sr kd fc hr ct ra rd fs (d + 1) (kb_sum ra fc i) (nI i) := by
    intro d
    induction d with
    | zero => intro i hi; obtain rfl : i = 96 := by omega
              exact br_t (nI_le (a := 96) (b := 96) (by omega) (by omega)) hp
    | succ d ih =>
      intro i hi
      have e := nI_clamp (n := i) (by omega)
      have hin := vp_in_nI (n := i) (N := 96) (by omega) (by omega)
      have hs := ih (i + 1) (by omega)
      unfold kb_sum at hs
      refine br_f (nI_ge (b := 96) (by omega) (by omega)) ⟨hin, ?_⟩
      rw [e]
      by_cases z : ra i = 0
      · rw [if_pos z] at hs
        exact br_t z (nm_r (nI_1 i) hs)
      · rw [if_neg z] at hs
        exact br_f z ⟨hin, nm_e (nm_r (nI_1 i) hs)⟩
  exact ⟨97, h 96 0 rfl⟩

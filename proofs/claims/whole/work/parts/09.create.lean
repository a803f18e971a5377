/-! newObject and create, side by side -/
def kn_New (S F : Nat) (K : Int32) (WX : (Int32 → SX → Prop) → Prop) (WY : (Int32 → SY → Prop) → Prop) : Prop :=
  (∃ u' v', kr_R S u' v' ∧ (∀ post : Int32 → SX → Prop, post (-1) u' → WX post) ∧ (∀ post : Int32 → SY → Prop, post 0 v' → WY post)) ∨
  (∃ (s : Nat) (cap rc fl co : Int32) (rg ex sr kd fc hr ct ra rd fs so ko fo fd ir re yg hr' ct' fd' ir' : Nat → Int32), s < 96 ∧ (∃ C, 16 ≤ C ∧ C ≤ 96 ∧ cap = nI C) ∧
    kr_H rg ex sr kd fc hr ct so ko fo fd ir yg ∧ ex s = 0 ∧ kn_O s hr hr' ∧ kn_O s ct ct' ∧ kn_Y s fd fd' ∧ kn_Y s ir ir' ∧
    (∀ f, f < F → hr' (6 * s + f) = 0 ∧ ct' (6 * s + f) = 0) ∧ (∀ f, f < 6 → fd' (6 * (s + 1) + f) = 0 ∧ ir' (6 * (s + 1) + f) = 0) ∧
    (∀ post : Int32 → SX → Prop, post (nI s) (cap, rc, fl, co, nI (S + 1), rg, upd ex s 1, upd sr s (nI (S + 1)), upd kd s K, upd fc s (nI F), hr', ct', ra, rd, fs) → WX post) ∧
    (∀ post : Int32 → SY → Prop, post (nI (s + 1)) (cap, nI (S + 1), co, fl, upd so (s + 1) (nI (S + 1)), upd ko (s + 1) K, upd fo (s + 1) (nI F), fd', ir', re, yg, fs) → WY post))
theorem kn_mono {S F : Nat} {K : Int32} {WX WX' : (Int32 → SX → Prop) → Prop} {WY WY' : (Int32 → SY → Prop) → Prop} (h : kn_New S F K WX WY) (hx : ∀ post, WX post → WX' post) (hy : ∀ post, WY post → WY' post) : kn_New S F K WX' WY' := by
  rcases h with ⟨u', v', h1, h2, h3⟩ | ⟨s, cap, rc, fl, co, rg, ex, sr, kd, fc, hr, ct, ra, rd, fs, so, ko, fo, fd, ir, re, yg, hr', ct', fd', ir', h1, h2, h3, h4, h5, h6, h7, h8, h9, h10, h11, h12⟩
  · exact Or.inl ⟨u', v', h1, fun post g => hx _ (h2 _ g), fun post g => hy _ (h3 _ g)⟩
  · exact Or.inr ⟨s, cap, rc, fl, co, rg, ex, sr, kd, fc, hr, ct, ra, rd, fs, so, ko, fo, fd, ir, re, yg, hr', ct', fd', ir', h1, h2, h3, h4, h5, h6, h7, h8, h9, h10, fun post g => hx _ (h11 _ g), fun post g => hy _ (h12 _ g)⟩
theorem kn_x3 {C F : Nat} (hC : 16 ≤ C) (hF : F ≤ 6) : (nI C - 1) - nI F = nI (C - 1 - F) := by
  rw [show (1 : Int32) = nI 1 from rfl, pk_sub (by omega), pk_sub (by omega)]
theorem kn_y3 (W F : Nat) : (nI W + 1) + nI F = nI (W + 1 + F) := by
  rw [nI_1, nI_add]
theorem kn_half {S F C : Nat} {K : Int32} (cap rc fl co ls : Int32) (rg ex sr kd fc hr ct ra rd fs : Nat → Int32) (so ko fo fd ir re yg : Nat → Int32) (hC : 16 ≤ C) (hC2 : C ≤ 96) (ec : cap = nI C) (el : ls = nI S) (hF : F ≤ 6) (H : kr_H rg ex sr kd fc hr ct so ko fo fd ir yg) :
    kn_New S F K (fun post => wX_newObject_21 post K (nI F) (nI (C - 1 - F)) cap rc fl co ls rg ex sr kd fc hr ct ra rd fs) (fun post => wY_create_20 post (nI F) K cap ls co fl so ko fo fd ir re yg fs) := by
  obtain ⟨W, hW, eW, hW2⟩ := kb_sum_n (e := ex) (c := fc) 96 (fun s hs => by
    obtain ⟨F, h1, h2, -⟩ := kr_F H s hs
    exact ⟨F, h1, h2⟩)
  have eY := kr_words H
  rw [eW] at eY
  by_cases c : W ≤ C - 1 - F
  · have hfree : ∃ s, s < 96 ∧ ex s = 0 := by
      refine Classical.byContradiction (fun n => ?_)
      have := hW2 (fun s hs z => n ⟨s, hs, z⟩)
      omega
    obtain ⟨s0, hs0, hz0⟩ := hfree
    obtain ⟨s, h1, h2, h3⟩ := kn_least (fun s => ex s = 0) s0 hz0
    have hs : s < 96 := by omega
    have es := nI_clamp (n := s) (by omega)
    have hin := vp_in_nI (n := s) (N := 96) (by omega) (by omega)
    obtain ⟨hr', ct', a1, a2, a3, a4⟩ := kn_93 cap rc fl co (nI (S + 1)) rg (upd ex s 1) (upd sr s (nI (S + 1))) (upd kd s K) (upd fc s (nI F)) hr ct ra rd fs hs hF
    obtain ⟨fd', ir', b1, b2, b3, b4⟩ := kn_94 cap (nI (S + 1)) co fl (upd so (s + 1) (nI (S + 1))) (upd ko (s + 1) K) (upd fo (s + 1) (nI F)) fd ir re yg fs hs
    refine Or.inr ⟨s, cap, rc, fl, co, rg, ex, sr, kd, fc, hr, ct, ra, rd, fs, so, ko, fo, fd, ir, re, yg, hr', ct', fd', ir', hs, ⟨C, hC, hC2, ec⟩, H, h2, a1, a2, b1, b2, a3, b3, fun post hp => ?_, fun post hp => ?_⟩
    · unfold wX_newObject_21
      refine kb_xw _ _ _ _ _ _ _ _ _ _ _ _ _ _ _ ?_
      rw [eW]
      refine br_t (nI_le c (by omega)) (kn_free _ _ _ _ _ _ _ _ _ _ _ _ _ _ _ hs h2 h3 (br_f (kb_m1 (by omega)) ?_))
      refine nm_r (by rw [el, nI_1]) ⟨hin, nm_r (by rw [es, kb_n1]) ⟨hin, nm_r (by rw [es]) ⟨hin, nm_r (by rw [es]) ⟨hin, nm_r (by rw [es]) ?_⟩⟩⟩⟩
      exact a4 post hp
    · unfold wY_create_20
      refine kb_yw _ _ _ _ _ _ _ _ _ _ _ _ ?_
      rw [eY, kn_y3, ec]
      refine br_t (nI_le (by omega) (by omega)) (kn_39 _ _ _ _ _ _ _ _ _ _ _ _ hs ((kr_O H s hs).1.mp h2) (fun j hj z => h3 j hj ((kr_O H j (by omega)).1.mpr z)) ?_)
      rw [el, nI_1, ← ec]
      exact b4 post hp
  · refine Or.inl ⟨(cap, rc, fl, co, ls, rg, ex, sr, kd, fc, hr, ct, ra, rd, fs), (cap, ls, co, fl, so, ko, fo, fd, ir, re, yg, fs), ⟨rfl, rfl, rfl, rfl, el, el, ⟨C, hC, hC2, ec⟩, H⟩, fun post hp => ?_, fun post hp => ?_⟩
    · unfold wX_newObject_21
      refine kb_xw _ _ _ _ _ _ _ _ _ _ _ _ _ _ _ ?_
      rw [eW]
      exact br_f (nI_ge (by omega) (by omega)) hp
    · unfold wY_create_20
      refine kb_yw _ _ _ _ _ _ _ _ _ _ _ _ ?_
      rw [eY, kn_y3]
      refine br_f ?_ hp
      rw [ec]
      exact nI_ge (by omega) (by omega)
theorem kn_new {S F : Nat} {K : Int32} {u : SX} {v : SY} (h : kr_R S u v) (hF : F ≤ 6) : kn_New S F K (fun post => wpX_newObject post u K (nI F)) (fun post => wpY_create post v (nI F) K) := by
  have h0 := h
  obtain ⟨cap, rc, fl, co, ls, rg, ex, sr, kd, fc, hr, ct, ra, rd, fs⟩ := u
  obtain ⟨cp, sn, cl, fn, so, ko, fo, fd, ir, re, yg, la⟩ := v
  obtain ⟨h1, h2, h3, h4, h5, h6, ⟨C, hC, hC2, eC⟩, H⟩ := h
  have e56 : sn = ls := h6.trans h5.symm
  subst h1 h2 h3 h4 e56
  obtain ⟨W, hW, eW, hW2⟩ := kb_sum_n (e := ex) (c := fc) 96 (fun s hs => by
    obtain ⟨F, h1, h2, -⟩ := kr_F H s hs
    exact ⟨F, h1, h2⟩)
  have eY := kr_words H
  rw [eW] at eY
  by_cases c : W ≤ C - 1 - F
  · refine kn_mono (kn_half cp rc fn cl sn rg ex sr kd fc hr ct ra rd la so ko fo fd ir re yg hC hC2 eC h6 hF H) (fun post hp => ?_) (fun post hp => ?_)
    · unfold wpX_newObject
      refine nm_r (e' := nI (C - 1 - F)) (by rw [eC]; exact kn_x3 hC hF) (kb_xw _ _ _ _ _ _ _ _ _ _ _ _ _ _ _ ?_)
      rw [eW]
      exact br_t (nI_le c (by omega)) hp
    · unfold wpY_create
      refine kb_yw _ _ _ _ _ _ _ _ _ _ _ _ ?_
      rw [eY, kn_y3]
      refine br_t ?_ hp
      rw [eC]
      exact nI_le (by omega) (by omega)
  · obtain ⟨u', v', r, g1, g0, g2, g3, g4⟩ := kr_coll h0
    obtain ⟨cap', rc', fl', co', ls', rg', ex', sr', kd', fc', hr', ct', ra', rd', fs'⟩ := u'
    obtain ⟨cp', sn', cl', fn', so', ko', fo', fd', ir', re', yg', la'⟩ := v'
    obtain ⟨k1, k2, k3, k4, k5, k6, -, H'⟩ := g1
    have e56' : sn' = ls' := k6.trans k5.symm
    have g0' : cap' = cp := g0
    subst k1 k2 k3 k4 e56'
    refine kn_mono (kn_half cp' rc' fn' cl' sn' rg' ex' sr' kd' fc' hr' ct' ra' rd' la' so' ko' fo' fd' ir' re' yg' hC hC2 (g0'.trans eC) k6 hF H') (fun post hp => ?_) (fun post hp => ?_)
    · unfold wpX_newObject
      refine nm_r (e' := nI (C - 1 - F)) (by rw [eC]; exact kn_x3 hC hF) (kb_xw _ _ _ _ _ _ _ _ _ _ _ _ _ _ _ ?_)
      rw [eW]
      exact br_f (nI_ge (by omega) (by omega)) (g2 _ hp)
    · unfold wpY_create
      refine kb_yw _ _ _ _ _ _ _ _ _ _ _ _ ?_
      rw [eY, kn_y3]
      refine br_f ?_ (g3 _ hp)
      rw [eC]
      exact nI_ge (by omega) (by omega)

/-! a collection on both sides -/
section
variable {rg ex sr kd fc hr ct so ko fo fd ir yg : Nat → Int32}
theorem kr_V (H : kr_H rg ex sr kd fc hr ct so ko fo fd ir yg) : kx_V fc hr ct := by
  intro s hs
  obtain ⟨F, hF, eF, -, -, -, -, -, -, hc⟩ := H.2 s hs
  refine ⟨F, hF, eF, fun f hf => ?_⟩
  rcases hc f hf with ⟨a, -, -⟩ | ⟨-, -, ⟨b, -⟩ | ⟨t, t1, t2, -, -⟩⟩
  · exact Or.inl a
  · exact Or.inr (Or.inl b)
  · exact Or.inr (Or.inr ⟨t, t1, t2⟩)
theorem kr_G (H : kr_H rg ex sr kd fc hr ct so ko fo fd ir yg) : ∀ r, r < 8 → rg r = -1 ∨ ∃ t, t < 96 ∧ rg r = nI t := by
  intro r hr
  rcases H.1 r hr with ⟨b, -⟩ | ⟨t, t1, t2, -, -⟩
  · exact Or.inl b
  · exact Or.inr ⟨t, t1, t2⟩
theorem kr_W (H : kr_H rg ex sr kd fc hr ct so ko fo fd ir yg) : ∀ s, s < 96 → kd s = 2 → kr_p (fun _ => True) (ct (6 * s)) (fd (6 * (s + 1))) := by
  intro s hs k2
  obtain ⟨F, hF, eF, -, -, -, -, -, hw, hc⟩ := H.2 s hs
  obtain ⟨w1, w2⟩ := hw k2
  rcases hc 0 (by omega) with ⟨a, -, -⟩ | ⟨-, -, ⟨b, c⟩ | ⟨t, t1, t2, t3, -⟩⟩
  · exact absurd (w2.symm.trans a) kb_10
  · exact Or.inl ⟨b, c⟩
  · exact Or.inr ⟨t, t1, t2, t3, trivial⟩
theorem kr_K (H : kr_H rg ex sr kd fc hr ct so ko fo fd ir yg) : ∀ s, s < 96 → ko (s + 1) = kd s := by
  intro s hs
  obtain ⟨F, hF, -, -, e, -⟩ := H.2 s hs
  exact e
theorem kr_F (H : kr_H rg ex sr kd fc hr ct so ko fo fd ir yg) : ∀ s, s < 96 → ∃ F, F ≤ 6 ∧ fc s = nI F ∧ fo (s + 1) = nI F := by
  intro s hs
  obtain ⟨F, hF, e1, e2, -⟩ := H.2 s hs
  exact ⟨F, hF, e1, e2⟩
theorem kr_O (H : kr_H rg ex sr kd fc hr ct so ko fo fd ir yg) : ∀ s, s < 96 → (ex s = 0 ↔ so (s + 1) = 0) ∧ (ex s ≠ 0 → so (s + 1) = sr s) := by
  intro s hs
  obtain ⟨F, hF, -, -, -, -, e, n, -⟩ := H.2 s hs
  by_cases z : ex s = 0
  · rw [if_pos z] at e
    exact ⟨⟨fun _ => e, fun _ => z⟩, fun h => absurd z h⟩
  · rw [if_neg z] at e
    exact ⟨⟨fun h => absurd h z, fun h => absurd (e.symm.trans h) (n z)⟩, fun _ => e⟩
theorem kr_words (H : kr_H rg ex sr kd fc hr ct so ko fo fd ir yg) : kb_sum (fun s => so (s + 1)) (fun s => fo (s + 1)) 96 = kb_sum ex fc 96 := by
  refine kb_sum_c 96 (fun s hs => ⟨((kr_O H s hs).1).symm, ?_⟩)
  obtain ⟨F, hF, e1, e2⟩ := kr_F H s hs
  exact e2.trans e1.symm
theorem kr_ME (H : kr_H rg ex sr kd fc hr ct so ko fo fd ir yg) {s : Nat} (h : kg_M rg kd fc hr ct s) : s < 96 ∧ ex s ≠ 0 := by
  refine h (fun s => s < 96 ∧ ex s ≠ 0) (fun t ⟨h1, r, h2, h3⟩ => ⟨h1, ?_⟩) (fun s t ⟨g1, g2⟩ ⟨e1, e2, f, f1, f2, f3, f4⟩ => ⟨e1, ?_⟩)
  · rcases H.1 r h2 with ⟨b, -⟩ | ⟨t', t1, t2, -, t3⟩
    · exact absurd (h3.symm.trans b) (kb_m1 (by omega))
    · have := kb_inj (h3.symm.trans t2) (by omega) (by omega)
      subst this
      exact t3
  · obtain ⟨F, hF, eF, -, -, -, -, -, -, hc⟩ := H.2 s g1
    rw [eF, nI_ltI (by omega) (by omega)] at f2
    rcases hc f f2 with ⟨a, -, -⟩ | ⟨-, -, ⟨b, -⟩ | ⟨t', t1, t2, -, t3⟩⟩
    · exact absurd a f3
    · exact absurd (f4.symm.trans b) (kb_m1 (by omega))
    · have := kb_inj (f4.symm.trans t2) (by omega) (by omega)
      subst this
      exact t3 g2
theorem kr_collH {ra re ex' ct' so' fd' : Nat → Int32} (H : kr_H rg ex sr kd fc hr ct so ko fo fd ir yg) (hb : ∀ s, s < 96 → ra s = 0 ∨ ra s = 1)
    (hm : ∀ s, s < 96 → (ra s ≠ 0 ↔ kg_M rg kd fc hr ct s)) (hp : kw_P 96 (kg_M rg kd fc hr ct) kd ct ct') (hq : kw_Q 96 (kg_M rg kd fc hr ct) kd ct fd fd')
    (hx : ∀ s, s < 96 → ex' s = ra s) (hre : ∀ s, s < 96 → (re (s + 1) ≠ 0 ↔ kg_M rg kd fc hr ct s)) (hso : ∀ s, s < 96 → so' (s + 1) = if re (s + 1) = 0 then 0 else so (s + 1)) :
    kr_H rg ex' sr kd fc hr ct' so' ko fo fd' ir yg := by
  have hxM : ∀ s, s < 96 → (ex' s ≠ 0 ↔ kg_M rg kd fc hr ct s) := fun s hs => by rw [hx s hs]; exact hm s hs
  constructor
  · intro r hr
    rcases H.1 r hr with ⟨b, c⟩ | ⟨t, t1, t2, t3, -⟩
    · exact Or.inl ⟨b, c⟩
    · exact Or.inr ⟨t, t1, t2, t3, (hxM t t1).mpr (kg_r ⟨t1, r, hr, t2⟩)⟩
  · intro s hs
    have hO := kr_O H s hs
    obtain ⟨F, hF, e1, e2, e3, e4, e5, e6, e7, hc⟩ := H.2 s hs
    refine ⟨F, hF, e1, e2, e3, by rw [hx s hs]; exact hb s hs, ?_, fun h => e6 (kr_ME H ((hxM s hs).mp h)).2, e7, fun f hf => ?_⟩
    · rw [hso s hs]
      by_cases z : ex' s = 0
      · rw [if_pos z]
        by_cases y : re (s + 1) = 0
        · rw [if_pos y]
        · exact absurd z ((hxM s hs).mpr ((hre s hs).mp y))
      · rw [if_neg z]
        have hM := (hxM s hs).mp z
        rw [if_neg ((hre s hs).mpr hM)]
        exact hO.2 (kr_ME H hM).2
    · by_cases c : f = 0 ∧ s < 96 ∧ kw_d (kg_M rg kd fc hr ct) kd ct s
      · rw [(hp s hs f (by omega)).1 c, (hq s hs f (by omega)).1 c]
        obtain ⟨c1, -, -, c2, -⟩ := c
        subst c1
        rcases hc 0 hf with ⟨a, -, -⟩ | ⟨a, b, -⟩
        · exact absurd ((e7 c2).2.symm.trans a) kb_10
        · exact Or.inr ⟨a, b, Or.inl ⟨rfl, rfl⟩⟩
      · rw [(hp s hs f (by omega)).2 c, (hq s hs f (by omega)).2 c]
        rcases hc f hf with ⟨a, b, d⟩ | ⟨a, b, ⟨d, e⟩ | ⟨t, t1, t2, t3, -⟩⟩
        · exact Or.inl ⟨a, b, d⟩
        · exact Or.inr ⟨a, b, Or.inl ⟨d, e⟩⟩
        · refine Or.inr ⟨a, b, Or.inr ⟨t, t1, t2, t3, fun g => (hxM t t1).mpr ?_⟩⟩
          have hM := (hxM s hs).mp g
          by_cases k2 : kd s = 2
          · have hF1 := (e7 k2).1
            have f0 : f = 0 := by omega
            subst f0
            refine Classical.byContradiction (fun n => c ⟨rfl, hs, hM, k2, t, t1, t2, n⟩)
          · exact kg_e hM ⟨t1, k2, f, by omega, by rw [e1]; exact nI_lt (by omega) (by omega), by rw [a]; exact kb_10, t2⟩
end
theorem kr_coll {S : Nat} {u : SX} {v : SY} (h : kr_R S u v) : ∃ u' v' r, kr_R S u' v' ∧ u'.1 = u.1 ∧ (∀ post : SX → Prop, post u' → wpX_runCollection post u) ∧
    (∀ post : Int32 → SY → Prop, post r v' → wpY_collect post v) ∧ ∀ post : Int32 → Prop, post r → wpX_existingWords post u' := by
  obtain ⟨cap, rc, fl, co, ls, rg, ex, sr, kd, fc, hr, ct, ra, rd, fs⟩ := u
  obtain ⟨cp, sn, cl, fn, so, ko, fo, fd, ir, re, yg, la⟩ := v
  obtain ⟨h1, h2, h3, h4, h5, h6, h7, H⟩ := h
  subst h1 h2 h3 h4
  obtain ⟨rc1, ra1, rd1, b1, m1, w1⟩ := kx_find cp rc fn cl ls rg ex sr kd fc hr ct ra rd la (kr_V H) (kr_G H)
  obtain ⟨ct1, p1, w2⟩ := kw_x cp rc1 fn cl ls rg ex sr kd fc hr ct ra1 rd1 la m1 (fun s hs k2 => by
    rcases kr_W H s hs k2 with ⟨b, -⟩ | ⟨t, t1, t2, -, -⟩
    · exact Or.inl b
    · exact Or.inr ⟨t, t1, t2⟩)
  obtain ⟨ex1, w3⟩ := kf_rec cp rc1 fn cl ls rg ex sr kd fc hr ct1 ra1 rd1 la
  obtain ⟨ex2, e2, w4⟩ := kf_rem cp rc1 (kf_run sr 96 (kf_D ex ra1 kd) fn la).1 cl ls rg ex1 sr kd fc hr ct1 ra1 rd1 (kf_run sr 96 (kf_D ex ra1 kd) fn la).2 b1
  obtain ⟨re1, z1, n1, y1⟩ := ky_find rg ex sr kd fc hr ct cp sn cl fn so ko fo fd ir re yg la H
  obtain ⟨fd1, q1, y2⟩ := kw_y kd ct cp sn (cl + 1) fn so ko fo fd ir re1 yg la (kb_sum (fun s => re1 (s + 1)) (fun s => fo (s + 1)) 96) z1 n1 (kr_K H) (kr_W H)
  have hD : ∀ s, s < 96 → (kf_D ex ra1 kd s ≠ 0 ↔ kf_E so re1 s ≠ 0 ∧ kd s = 1) := by
    intro s hs
    have a1 := (kr_O H s hs).1
    have a2 := m1 s hs
    have a3 := n1 s hs
    rw [kf_E1]
    unfold kf_D
    by_cases c : ex s ≠ 0 ∧ ra1 s = 0 ∧ kd s = 1
    · rw [if_pos c]
      refine ⟨fun _ => ⟨⟨fun g => c.1 (a1.mpr g), ?_⟩, c.2.2⟩, fun _ => kb_10⟩
      by_cases y : re1 (s + 1) = 0
      · exact y
      · exact absurd c.2.1 (a2.mpr (a3.mp y))
    · rw [if_neg c]
      refine ⟨fun g => absurd rfl g, fun ⟨⟨g1, g2⟩, g3⟩ => absurd ⟨fun g => g1 (a1.mp g), ?_, g3⟩ c⟩
      by_cases y : ra1 s = 0
      · exact y
      · exact absurd g2 (a3.mpr (a2.mp y))
  obtain ⟨so1, s1, y3⟩ := kf_80 sr kd cp sn (cl + 1) fn so ko fo fd1 ir re1 yg la (kb_sum (fun s => re1 (s + 1)) (fun s => fo (s + 1)) 96) (kr_K H) 96 so (kf_D ex ra1 kd) fn la 96 (kc_le _ _) (kc_le _ _) hD
    (fun s hs g => (kr_O H s hs).2 (fun z => g ((kr_O H s hs).1.mp z)))
  have H2 := kr_collH H b1 m1 p1 q1 e2 n1 s1
  refine ⟨(cp, rc1, (kf_run sr 96 (kf_D ex ra1 kd) fn la).1, cl + 1, ls, rg, ex2, sr, kd, fc, hr, ct1, ra1, rd1, (kf_run sr 96 (kf_D ex ra1 kd) fn la).2),
    (cp, sn, cl + 1, (kf_run sr 96 (kf_D ex ra1 kd) fn la).1, so1, ko, fo, fd1, ir, re1, yg, (kf_run sr 96 (kf_D ex ra1 kd) fn la).2),
    kb_sum (fun s => re1 (s + 1)) (fun s => fo (s + 1)) 96, ⟨rfl, rfl, rfl, rfl, h5, h6, h7, H2⟩, rfl, fun post hp => ?_, fun post hp => ?_, fun post hp => ?_⟩
  · unfold wpX_runCollection
    exact w1 _ (w2 _ (w3 _ (w4 _ (nm_e hp))))
  · unfold wpY_collect
    exact y1 _ (nm_e (y2 _ (kf_y _ _ _ _ _ _ _ _ _ _ _ _ (y3 _ hp))))
  · refine kb_xw _ _ _ _ _ _ _ _ _ _ _ _ _ _ _ ?_
    have e : kb_sum ex2 fc 96 = kb_sum (fun s => re1 (s + 1)) (fun s => fo (s + 1)) 96 := by
      refine kb_sum_c 96 (fun s hs => ⟨?_, ?_⟩)
      · have a2 := m1 s hs
        have a3 := n1 s hs
        rw [e2 s hs]
        constructor
        · intro g
          by_cases y : re1 (s + 1) = 0
          · exact y
          · exact absurd g (a2.mpr (a3.mp y))
        · intro g
          by_cases y : ra1 s = 0
          · exact y
          · exact absurd g (a3.mpr (a2.mp y))
      · obtain ⟨F, hF, e1, e2⟩ := kr_F H s hs
        exact e1.trans e2.symm
    rw [e]
    exact hp
theorem kr_reach {S : Nat} {u : SX} {v : SY} (h : kr_R S u v) : ∃ u' v' r, kr_R S u' v' ∧ (∀ post : Int32 → SX → Prop, post r u' → wpX_reachableWords post u) ∧
    (∀ post : Int32 → SY → Prop, post r v' → wpY_reachableWords post v) := by
  obtain ⟨cap, rc, fl, co, ls, rg, ex, sr, kd, fc, hr, ct, ra, rd, fs⟩ := u
  obtain ⟨cp, sn, cl, fn, so, ko, fo, fd, ir, re, yg, la⟩ := v
  obtain ⟨h1, h2, h3, h4, h5, h6, h7, H⟩ := h
  subst h1 h2 h3 h4
  obtain ⟨rc1, ra1, rd1, b1, m1, w1⟩ := kx_find cp rc fn cl ls rg ex sr kd fc hr ct ra rd la (kr_V H) (kr_G H)
  obtain ⟨re1, z1, n1, y1⟩ := ky_find rg ex sr kd fc hr ct cp sn cl fn so ko fo fd ir re yg la H
  have e : kb_sum ra1 fc 96 = kb_sum (fun s => re1 (s + 1)) (fun s => fo (s + 1)) 96 := by
    refine kb_sum_c 96 (fun s hs => ⟨?_, ?_⟩)
    · have a2 := m1 s hs
      have a3 := n1 s hs
      constructor
      · intro g
        by_cases y : re1 (s + 1) = 0
        · exact y
        · exact absurd g (a2.mpr (a3.mp y))
      · intro g
        by_cases y : ra1 s = 0
        · exact y
        · exact absurd g (a3.mpr (a2.mp y))
    · obtain ⟨F, hF, e1, e2⟩ := kr_F H s hs
      exact e1.trans e2.symm
  refine ⟨(cp, rc1, fn, cl, ls, rg, ex, sr, kd, fc, hr, ct, ra1, rd1, la), (cp, sn, cl, fn, so, ko, fo, fd, ir, re1, yg, la), kb_sum ra1 fc 96, ⟨rfl, rfl, rfl, rfl, h5, h6, h7, H⟩, fun post hp => ?_, fun post hp => ?_⟩
  · unfold wpX_reachableWords
    exact w1 _ (kx_words _ _ _ _ _ _ _ _ _ _ _ _ _ _ _ hp)
  · rw [e] at hp
    exact y1 post hp

/-! what the short methods look at first -/
theorem km_reg (p : Int32) : ((∀ (u : SX) (post : Int32 → Prop), post 0 → wpX_isRegister post u p) ∧ (∀ post : Int32 → Prop, post 1 → wpY_bad post p)) ∨
    ∃ r, r < 8 ∧ p = nI r ∧ (∀ (u : SX) (post : Int32 → Prop), post 1 → wpX_isRegister post u p) ∧ (∀ post : Int32 → Prop, post 0 → wpY_bad post p) := by
  rcases pk_ix p (n := 8) (by decide) with h | h | ⟨r, h, e⟩
  · refine Or.inl ⟨fun u post hp => ?_, fun post hp => br_t h hp⟩
    obtain ⟨cap, rc, fl, co, ls, rg, ex, sr, kd, fc, hr, ct, ra, rd, fs⟩ := u
    exact br_t h hp
  · have h0 : ¬ p < 0 := by
      rw [Int32.lt_iff_toInt_lt]
      rw [Int32.le_iff_toInt_le, nI_toInt (by omega)] at h
      have : (0 : Int32).toInt = 0 := by decide
      omega
    have h7 : ¬ p ≤ 7 := by
      rw [Int32.le_iff_toInt_le]
      rw [Int32.le_iff_toInt_le, nI_toInt (by omega)] at h
      have : (7 : Int32).toInt = 7 := by decide
      omega
    refine Or.inl ⟨fun u post hp => ?_, fun post hp => br_f h0 (br_f h7 hp)⟩
    obtain ⟨cap, rc, fl, co, ls, rg, ex, sr, kd, fc, hr, ct, ra, rd, fs⟩ := u
    exact br_f h0 (br_t h hp)
  · subst e
    refine Or.inr ⟨r, h, rfl, fun u post hp => ?_, fun post hp => br_f (nI_pos (by omega)) (br_t (nI_le (b := 7) (by omega) (by omega)) hp)⟩
    obtain ⟨cap, rc, fl, co, ls, rg, ex, sr, kd, fc, hr, ct, ra, rd, fs⟩ := u
    exact br_f (nI_pos (by omega)) (br_f (nI_ge (b := 8) (by omega) (by omega)) hp)
section
variable (cap rc fl co ls : Int32) {rg ex sr kd fc hr ct : Nat → Int32} (ra rd fs : Nat → Int32)
variable (cp sn cl fn : Int32) {so ko fo fd ir yg : Nat → Int32} (re la : Nat → Int32)
theorem km_fr (H : kr_H rg ex sr kd fc hr ct so ko fo fd ir yg) (p : Int32) :
    ((∀ post : Int32 → Prop, post (-1) → wpX_faultOfReference post (cap, rc, fl, co, ls, rg, ex, sr, kd, fc, hr, ct, ra, rd, fs) p) ∧ (∀ post : Int32 → Prop, post 1 → wpY_bad post p)) ∨
    ∃ r, r < 8 ∧ p = nI r ∧ (∀ post : Int32 → Prop, post 0 → wpY_bad post p) ∧ ((rg r = -1 ∧ yg r = 0 ∧ ∀ post : Int32 → Prop, post (-2) → wpX_faultOfReference post (cap, rc, fl, co, ls, rg, ex, sr, kd, fc, hr, ct, ra, rd, fs) p) ∨
      ∃ s, s < 96 ∧ rg r = nI s ∧ yg r = nI (s + 1) ∧ ex s ≠ 0 ∧ ∀ post : Int32 → Prop, post 0 → wpX_faultOfReference post (cap, rc, fl, co, ls, rg, ex, sr, kd, fc, hr, ct, ra, rd, fs) p) := by
  rcases km_reg p with ⟨h1, h2⟩ | ⟨r, hr, e, h1, h2⟩
  · refine Or.inl ⟨fun post hp => ?_, h2⟩
    unfold wpX_faultOfReference
    exact h1 _ _ (br_t rfl hp)
  · subst e
    have ec := nI_clamp (n := r) (by omega)
    have hin := vp_in_nI (n := r) (N := 8) (by omega) (by omega)
    refine Or.inr ⟨r, hr, rfl, h2, ?_⟩
    rcases H.1 r hr with ⟨b, c⟩ | ⟨s, t1, t2, t3, t4⟩
    · refine Or.inl ⟨b, c, fun post hp => ?_⟩
      unfold wpX_faultOfReference
      refine h1 _ _ (br_f kb_10 ⟨hin, ?_⟩)
      rw [ec]
      exact br_t b hp
    · refine Or.inr ⟨s, t1, t2, t3, t4, fun post hp => ?_⟩
      unfold wpX_faultOfReference
      refine h1 _ _ (br_f kb_10 ⟨hin, ?_⟩)
      rw [ec, t2]
      exact br_f (kb_m1 (by omega)) hp
theorem km_ff (H : kr_H rg ex sr kd fc hr ct so ko fo fd ir yg) (p q : Int32) :
    (∃ e : Int32, ¬ e = 0 ∧ (∀ post : Int32 → Prop, post e → wpX_faultOfField post (cap, rc, fl, co, ls, rg, ex, sr, kd, fc, hr, ct, ra, rd, fs) p q) ∧ (∀ post : Int32 → Prop, post e → wpY_check post (cp, sn, cl, fn, so, ko, fo, fd, ir, re, yg, la) p q)) ∨
    ∃ r s f F, r < 8 ∧ p = nI r ∧ s < 96 ∧ rg r = nI s ∧ yg r = nI (s + 1) ∧ ex s ≠ 0 ∧ F ≤ 6 ∧ f < F ∧ q = nI f ∧ (kd s = 2 → F = 1) ∧
      kr_c (fun t => ex s ≠ 0 → ex t ≠ 0) (hr (6 * s + f)) (ct (6 * s + f)) (ir (6 * (s + 1) + f)) (fd (6 * (s + 1) + f)) ∧
      (∀ post : Int32 → Prop, post 0 → wpX_faultOfField post (cap, rc, fl, co, ls, rg, ex, sr, kd, fc, hr, ct, ra, rd, fs) p q) ∧ (∀ post : Int32 → Prop, post 0 → wpY_check post (cp, sn, cl, fn, so, ko, fo, fd, ir, re, yg, la) p q) := by
  rcases km_fr cap rc fl co ls ra rd fs H p with ⟨h1, h2⟩ | ⟨r, hr, e, h2, ⟨b, c, h1⟩ | ⟨s, t1, t2, t3, t4, h1⟩⟩
  · refine Or.inl ⟨-1, by decide, fun post hp => ?_, fun post hp => ?_⟩
    · unfold wpX_faultOfField
      exact h1 _ (br_f (by decide) hp)
    · unfold wpY_check
      exact h2 _ (br_f kb_10 hp)
  · subst e
    have ec := nI_clamp (n := r) (by omega)
    have hin := vp_in_nI (n := r) (N := 8) (by omega) (by omega)
    refine Or.inl ⟨-2, by decide, fun post hp => ?_, fun post hp => ?_⟩
    · unfold wpX_faultOfField
      exact h1 _ (br_f (by decide) hp)
    · unfold wpY_check
      exact h2 _ (br_t rfl ⟨hin, nm_r (by rw [ec, c]) (br_t rfl hp)⟩)
  · subst e
    have ec := nI_clamp (n := r) (by omega)
    have hin := vp_in_nI (n := r) (N := 8) (by omega) (by omega)
    have es := nI_clamp (n := s) (by omega)
    have es1 := nI_clamp (n := s + 1) (by omega)
    have hins := vp_in_nI (n := s) (N := 96) (by omega) (by omega)
    have hins1 := vp_in_nI (n := s + 1) (N := 97) (by omega) (by omega)
    have hne : ¬ nI (s + 1) = 0 := nI_ne0 (by omega) (by omega)
    obtain ⟨F, hF, e1, e2, e3, e4, e5, e6, e7, hc⟩ := H.2 s t1
    by_cases q0 : q < 0
    · refine Or.inl ⟨-1, by decide, fun post hp => ?_, fun post hp => ?_⟩
      · unfold wpX_faultOfField
        refine h1 _ (br_t rfl ⟨hin, ?_⟩)
        rw [ec, t2]
        exact ⟨hins, nm_e (br_t q0 hp)⟩
      · unfold wpY_check
        exact h2 _ (br_t rfl ⟨hin, nm_r (e' := nI (s + 1)) (by rw [ec, t3]) (br_f hne (br_t q0 hp))⟩)
    · obtain ⟨f, hf, ef⟩ := nI_of q0
      subst ef
      by_cases c : f < F
      · have hlt : nI f < nI F := nI_lt c (by omega)
        refine Or.inr ⟨r, s, f, F, hr, rfl, t1, t2, t3, t4, hF, c, rfl, fun k => (e7 k).1, hc f c, fun post hp => ?_, fun post hp => ?_⟩
        · unfold wpX_faultOfField
          refine h1 _ (br_t rfl ⟨hin, ?_⟩)
          rw [ec, t2, es, e1]
          exact ⟨hins, nm_e (br_f q0 (br_t hlt hp))⟩
        · unfold wpY_check
          refine h2 _ (br_t rfl ⟨hin, nm_r (e' := nI (s + 1)) (by rw [ec, t3]) (br_f hne (br_f q0 ⟨hins1, ?_⟩))⟩)
          rw [es1, e2]
          exact br_t hlt hp
      · have hlt : ¬ nI f < nI F := nI_nlt (by omega) (by omega)
        refine Or.inl ⟨-1, by decide, fun post hp => ?_, fun post hp => ?_⟩
        · unfold wpX_faultOfField
          refine h1 _ (br_t rfl ⟨hin, ?_⟩)
          rw [ec, t2, es, e1]
          exact ⟨hins, nm_e (br_f q0 (br_f hlt hp))⟩
        · unfold wpY_check
          refine h2 _ (br_t rfl ⟨hin, nm_r (e' := nI (s + 1)) (by rw [ec, t3]) (br_f hne (br_f q0 ⟨hins1, ?_⟩))⟩)
          rw [es1, e2]
          exact br_f hlt hp
theorem km_fw {e p q : Int32} (he : ¬ e = 0) (h : ∀ post : Int32 → Prop, post e → wpX_faultOfField post (cap, rc, fl, co, ls, rg, ex, sr, kd, fc, hr, ct, ra, rd, fs) p q) : ∀ post : Int32 → Prop, post e → wpX_faultOfWrite post (cap, rc, fl, co, ls, rg, ex, sr, kd, fc, hr, ct, ra, rd, fs) p q := by
  intro post hp
  unfold wpX_faultOfWrite
  exact h _ (br_f he hp)
theorem km_f2 {r s : Nat} {q : Int32} (h8 : r < 8) (hs : s < 96) (eg : rg r = nI s) (h : ∀ post : Int32 → Prop, post 0 → wpX_faultOfField post (cap, rc, fl, co, ls, rg, ex, sr, kd, fc, hr, ct, ra, rd, fs) (nI r) q) :
    (kd s = 2 → ∀ post : Int32 → Prop, post (-1) → wpX_faultOfWrite post (cap, rc, fl, co, ls, rg, ex, sr, kd, fc, hr, ct, ra, rd, fs) (nI r) q) ∧ (¬ kd s = 2 → ∀ post : Int32 → Prop, post 0 → wpX_faultOfWrite post (cap, rc, fl, co, ls, rg, ex, sr, kd, fc, hr, ct, ra, rd, fs) (nI r) q) := by
  have ec := nI_clamp (n := r) (by omega)
  have hin := vp_in_nI (n := r) (N := 8) (by omega) (by omega)
  have es := nI_clamp (n := s) (by omega)
  have hins := vp_in_nI (n := s) (N := 96) (by omega) (by omega)
  constructor
  · intro k post hp
    unfold wpX_faultOfWrite
    refine h _ (br_t rfl ⟨hin, ?_⟩)
    rw [ec, eg, es]
    exact ⟨hins, br_t k hp⟩
  · intro k post hp
    unfold wpX_faultOfWrite
    refine h _ (br_t rfl ⟨hin, ?_⟩)
    rw [ec, eg, es]
    exact ⟨hins, br_f k hp⟩
end

/-! the reference's search -/
def ky_I (M : Nat → Prop) (re : Nat → Int32) : Prop := re 0 = 0 ∧ ∀ s, s < 96 → re (s + 1) ≠ 0 → M s
def ky_n (re : Nat → Int32) : Nat := kc_n (fun s => re (s + 1)) 96
theorem ky_n_up {re : Nat → Int32} {t : Nat} (ht : t < 96) (z : re (t + 1) = 0) : ky_n (upd re (t + 1) 1) = ky_n re + 1 := by
  have e : (fun s => upd re (t + 1) 1 (s + 1)) = upd (fun s => re (s + 1)) t 1 := by
    funext s
    by_cases y : s = t
    · subst y; rw [pk_us, pk_us]
    · rw [pk_un y, pk_un (by omega)]
  unfold ky_n
  rw [e]
  exact kc_up (a := fun s => re (s + 1)) z kb_10 96 ht
theorem ky_n_mono {re re' : Nat → Int32} (h : ∀ s, s < 96 → re (s + 1) ≠ 0 → re' (s + 1) ≠ 0) : ky_n re ≤ ky_n re' := kc_mono 96 h
theorem ky_n_le (re : Nat → Int32) : ky_n re ≤ 96 := kc_le _ 96
section
variable (cap rc fl co ls : Int32) (rg ex sr kd fc hr ct ra rd fs : Nat → Int32)
variable (cp sn cl fn : Int32) (so ko fo fd ir re yg la : Nat → Int32)
theorem ky_spread (H : kr_H rg ex sr kd fc hr ct so ko fo fd ir yg) {s : Nat} (hs : s < 96) (hM : kg_M rg kd fc hr ct s) (hk : kd s ≠ 2) (hI : ky_I (kg_M rg kd fc hr ct) re) :
    ∃ x re', ky_I (kg_M rg kd fc hr ct) re' ∧ (x = 0 ∨ x = 1) ∧ (∀ t, t < 96 → re (t + 1) ≠ 0 → re' (t + 1) ≠ 0) ∧ (∀ t, kg_eg kd fc hr ct s t → re' (t + 1) ≠ 0) ∧
      (x = 0 → re' = re) ∧ (x ≠ 0 → ky_n re < ky_n re') ∧
      ∀ post : Int32 → SY → Prop, post x (cp, sn, cl, fn, so, ko, fo, fd, ir, re', yg, la) → wpY_spread post (cp, sn, cl, fn, so, ko, fo, fd, ir, re, yg, la) (nI (s + 1)) := by
  obtain ⟨F, hF, eF, eF', -, -, -, -, -, hc⟩ := H.2 s hs
  have ec := nI_clamp (n := s + 1) (by omega)
  have hin := vp_in_nI (n := s + 1) (N := 97) (by omega) (by omega)
  have L : ∀ d f, f + d = F → ∀ x re, (x = 0 ∨ x = 1) → ky_I (kg_M rg kd fc hr ct) re → ∃ x' re', ky_I (kg_M rg kd fc hr ct) re' ∧ (x' = 0 ∨ x' = 1) ∧
      (∀ t, t < 96 → re (t + 1) ≠ 0 → re' (t + 1) ≠ 0) ∧ (∀ f', f ≤ f' → f' < F → hr (6 * s + f') ≠ 0 → ∀ t, t < 96 → ct (6 * s + f') = nI t → re' (t + 1) ≠ 0) ∧
      (x' = 0 → x = 0 ∧ re' = re) ∧ (x' ≠ 0 → x ≠ 0 ∨ ky_n re < ky_n re') ∧
      ∀ post : Int32 → SY → Prop, post x' (cp, sn, cl, fn, so, ko, fo, fd, ir, re', yg, la) → wY_spread_7 post (nI (s + 1)) cp sn cl fn (d + 1) x (nI (6 * (s + 1) + f)) so ko fo fd ir re yg la := by
    intro d
    induction d with
    | zero =>
      intro f hf x re hx hI
      refine ⟨x, re, hI, hx, fun t _ h => h, fun f' _ _ => by omega, fun h => ⟨h, rfl⟩, fun h => Or.inl h, fun post h => ⟨hin, ?_⟩⟩
      rw [ec, eF', kb_cy]
      exact br_t (nI_le (by omega) (by omega)) ⟨kb_narrow hx, h⟩
    | succ d ih =>
      intro f hf x re hx hI
      have hcell : 6 * (s + 1) + f < 582 := by omega
      have ecc := nI_clamp (n := 6 * (s + 1) + f) (by omega)
      have hinc := vp_in_nI (n := 6 * (s + 1) + f) (N := 582) hcell (by omega)
      have hlt : ¬ nI (6 * (s + 1) + F) ≤ nI (6 * (s + 1) + f) := nI_ge (by omega) (by omega)
      rcases hc f (by omega) with ⟨a1, a2, a3⟩ | ⟨a1, a2, a3⟩
      · obtain ⟨x', re', h1, h2, h3, h4, h5, h6, h7⟩ := ih (f + 1) (by omega) x re hx hI
        refine ⟨x', re', h1, h2, h3, fun f' g1 g2 g3 => ?_, h5, h6, fun post h => ⟨hin, ?_⟩⟩
        · by_cases y : f' = f
          · subst y; exact absurd a1 g3
          · exact h4 f' (by omega) g2 g3
        · rw [ec, eF', kb_cy, ecc]
          exact br_f hlt ⟨hinc, nm_e ⟨hinc, br_t a2 (nm_r (nI_1 _) (h7 post h))⟩⟩
      · have a2n : ¬ ir (6 * (s + 1) + f) = 0 := by rw [a2]; exact kb_10
        have a1n : ¬ hr (6 * s + f) = 0 := by rw [a1]; exact kb_10
        rcases a3 with ⟨b1, b2⟩ | ⟨t, t1, t2, t3, -⟩
        · obtain ⟨x', re', h1, h2, h3, h4, h5, h6, h7⟩ := ih (f + 1) (by omega) x re hx hI
          refine ⟨x', re', h1, h2, h3, fun f' g1 g2 g3 t g4 g5 => ?_, h5, h6, fun post h => ⟨hin, ?_⟩⟩
          · by_cases y : f' = f
            · subst y; rw [b1] at g5; exact absurd g5.symm (kb_m1 (by omega))
            · exact h4 f' (by omega) g2 g3 t g4 g5
          · rw [ec, eF', kb_cy, ecc]
            exact br_f hlt ⟨hinc, nm_r b2 ⟨hinc, br_f a2n (br_t rfl (nm_r (nI_1 _) (h7 post h)))⟩⟩
        · have etc := nI_clamp (n := t + 1) (by omega)
          have hint := vp_in_nI (n := t + 1) (N := 97) (by omega) (by omega)
          have hne : ¬ nI (t + 1) = 0 := nI_ne0 (by omega) (by omega)
          by_cases z : re (t + 1) = 0
          · have hMt : kg_M rg kd fc hr ct t := kg_e hM ⟨t1, hk, f, by omega, by rw [eF]; exact nI_lt (by omega) (by omega), a1n, t2⟩
            have hI1 : ky_I (kg_M rg kd fc hr ct) (upd re (t + 1) 1) := by
              refine ⟨by rw [pk_un (by omega)]; exact hI.1, fun s' hs' h => ?_⟩
              by_cases y : s' = t
              · subst y; exact hMt
              · rw [pk_un (by omega)] at h; exact hI.2 s' hs' h
            have hm1 : ∀ t', t' < 96 → re (t' + 1) ≠ 0 → upd re (t + 1) 1 (t' + 1) ≠ 0 := by
              intro t' _ h
              by_cases y : t' = t
              · subst y; rw [pk_us]; exact kb_10
              · rw [pk_un (by omega)]; exact h
            obtain ⟨x', re', h1, h2, h3, h4, h5, h6, h7⟩ := ih (f + 1) (by omega) 1 (upd re (t + 1) 1) (Or.inr rfl) hI1
            refine ⟨x', re', h1, h2, fun t' g1 g2 => h3 t' g1 (hm1 t' g1 g2), fun f' g1 g2 g3 t' g4 g5 => ?_, fun h => absurd (h5 h).1 kb_10, fun h => Or.inr ?_, fun post h => ⟨hin, ?_⟩⟩
            · by_cases y : f' = f
              · subst y
                rw [t2] at g5
                have := kb_inj g5 (by omega) (by omega)
                subst this
                exact h3 t t1 (by rw [pk_us]; exact kb_10)
              · exact h4 f' (by omega) g2 g3 t' g4 g5
            · have n1 := ky_n_up t1 z
              have n2 := ky_n_mono h3
              omega
            · rw [ec, eF', kb_cy, ecc]
              refine br_f hlt ⟨hinc, nm_r t3 ⟨hinc, br_f a2n (br_f hne ⟨hint, ?_⟩)⟩⟩
              rw [etc]
              exact br_t z ⟨hint, nm_r (by rw [kb_n1]) (nm_r (nI_1 _) (h7 post h))⟩
          · obtain ⟨x', re', h1, h2, h3, h4, h5, h6, h7⟩ := ih (f + 1) (by omega) x re hx hI
            refine ⟨x', re', h1, h2, h3, fun f' g1 g2 g3 t' g4 g5 => ?_, h5, h6, fun post h => ⟨hin, ?_⟩⟩
            · by_cases y : f' = f
              · subst y
                rw [t2] at g5
                have := kb_inj g5 (by omega) (by omega)
                subst this
                exact h3 t t1 z
              · exact h4 f' (by omega) g2 g3 t' g4 g5
            · rw [ec, eF', kb_cy, ecc]
              refine br_f hlt ⟨hinc, nm_r t3 ⟨hinc, br_f a2n (br_f hne ⟨hint, ?_⟩)⟩⟩
              rw [etc]
              exact br_f z (nm_r (nI_1 _) (h7 post h))
  obtain ⟨x', re', h1, h2, h3, h4, h5, h6, h7⟩ := L F 0 (by omega) 0 re (Or.inl rfl) hI
  refine ⟨x', re', h1, h2, h3, fun t e => ?_, fun h => (h5 h).2, fun h => ?_, fun post h => ?_⟩
  · obtain ⟨e1, e2, f, f1, f2, f3, f4⟩ := e
    rw [eF, nI_ltI (by omega) (by omega)] at f2
    exact h4 f (by omega) f2 f3 t e1 f4
  · rcases h6 h with g | g
    · exact absurd rfl g
    · exact g
  · exact nm_r (kb_cy0 (s + 1)) ⟨F + 1, h7 post h⟩
theorem ky_64 (H : kr_H rg ex sr kd fc hr ct so ko fo fd ir yg) : ∀ d i, i + d = 96 → ∀ x re, (x = 0 ∨ x = 1) → ky_I (kg_M rg kd fc hr ct) re → ∃ x' re', ky_I (kg_M rg kd fc hr ct) re' ∧ (x' = 0 ∨ x' = 1) ∧
      (∀ t, t < 96 → re (t + 1) ≠ 0 → re' (t + 1) ≠ 0) ∧
      (x' = 0 → x = 0 ∧ re' = re ∧ ∀ s, i ≤ s → s < 96 → re (s + 1) ≠ 0 → ∀ t, kg_eg kd fc hr ct s t → re (t + 1) ≠ 0) ∧ (x' ≠ 0 → x ≠ 0 ∨ ky_n re < ky_n re') ∧
      ∀ (post : Int32 → SY → Prop) J, J x' cp sn cl fn so ko fo fd ir re' yg la → wY_reachableWords_64 post J (d + 1) x (nI (i + 1)) cp sn cl fn so ko fo fd ir re yg la := by
  intro d
  induction d with
  | zero =>
    intro i hi x re hx hI
    exact ⟨x, re, hI, hx, fun t _ h => h, fun h => ⟨h, rfl, fun s _ _ => by omega⟩, fun h => Or.inl h, fun post J h => br_t (nI_le (a := 97) (by omega) (by omega)) h⟩
  | succ d ih =>
    intro i hi x re hx hI
    have hg := nI_ge (a := i + 1) (b := 97) (by omega) (by omega)
    have ec := nI_clamp (n := i + 1) (by omega)
    have hin := vp_in_nI (n := i + 1) (N := 97) (by omega) (by omega)
    have hk : ko (i + 1) = kd i := by obtain ⟨F, hF, eF, eF', ek, -⟩ := H.2 i (by omega); exact ek
    by_cases z : re (i + 1) = 0
    · obtain ⟨x', re', h1, h2, h3, h4, h5, h6⟩ := ih (i + 1) (by omega) x re hx hI
      refine ⟨x', re', h1, h2, h3, fun h => ⟨(h4 h).1, (h4 h).2.1, fun s g1 g2 g3 => ?_⟩, h5, fun post J h => br_f hg ⟨hin, ?_⟩⟩
      · by_cases y : s = i
        · subst y; exact absurd z g3
        · exact (h4 h).2.2 s (by omega) g2 g3
      · rw [ec]; exact br_t z (nm_r (nI_1 _) (h6 post J h))
    · by_cases k2 : kd i = 2
      · obtain ⟨x', re', h1, h2, h3, h4, h5, h6⟩ := ih (i + 1) (by omega) x re hx hI
        refine ⟨x', re', h1, h2, h3, fun h => ⟨(h4 h).1, (h4 h).2.1, fun s g1 g2 g3 t g4 => ?_⟩, h5, fun post J h => br_f hg ⟨hin, ?_⟩⟩
        · by_cases y : s = i
          · subst y; exact absurd k2 g4.2.1
          · exact (h4 h).2.2 s (by omega) g2 g3 t g4
        · rw [ec]; exact br_f z ⟨hin, br_t (hk.trans k2) (nm_r (nI_1 _) (h6 post J h))⟩
      · have k2' : ¬ ko (i + 1) = 2 := by rw [hk]; exact k2
        obtain ⟨y, re1, j1, j2, j3, j4, j5, j6, j7⟩ := ky_spread rg ex sr kd fc hr ct cp sn cl fn so ko fo fd ir re yg la H (s := i) (by omega) (hI.2 i (by omega) z) k2 hI
        by_cases yz : y = 0
        · subst yz
          have er := j5 rfl
          subst er
          obtain ⟨x', re', h1, h2, h3, h4, h5, h6⟩ := ih (i + 1) (by omega) x re1 hx hI
          refine ⟨x', re', h1, h2, h3, fun h => ⟨(h4 h).1, (h4 h).2.1, fun s g1 g2 g3 t g4 => ?_⟩, h5, fun post J h => br_f hg ⟨hin, ?_⟩⟩
          · by_cases y : s = i
            · subst y; exact j4 t g4
            · exact (h4 h).2.2 s (by omega) g2 g3 t g4
          · rw [ec]; exact br_f z ⟨hin, br_f k2' (j7 _ (br_t rfl (nm_r (nI_1 _) (h6 post J h))))⟩
        · obtain ⟨x', re', h1, h2, h3, h4, h5, h6⟩ := ih (i + 1) (by omega) 1 re1 (Or.inr rfl) j1
          refine ⟨x', re', h1, h2, fun t g1 g2 => h3 t g1 (j3 t g1 g2), fun h => absurd (h4 h).1 kb_10, fun h => Or.inr ?_, fun post J h => br_f hg ⟨hin, ?_⟩⟩
          · have := j6 yz
            have := ky_n_mono h3
            omega
          · rw [ec]; exact br_f z ⟨hin, br_f k2' (j7 _ (br_f yz (nm_r (nI_1 _) (h6 post J h))))⟩
theorem ky_56 (H : kr_H rg ex sr kd fc hr ct so ko fo fd ir yg) : ∀ m re, 96 - ky_n re ≤ m → ky_I (kg_M rg kd fc hr ct) re → (∀ t, kg_rt rg t → re (t + 1) ≠ 0) →
    ∃ re', ky_I (kg_M rg kd fc hr ct) re' ∧ (∀ s, s < 96 → (re' (s + 1) ≠ 0 ↔ kg_M rg kd fc hr ct s)) ∧
      ∀ post : Int32 → SY → Prop, (∃ n112, wY_reachableWords_112 post cp sn cl fn so ko fo fd ir re' yg la n112 0 1) → ∃ n, wY_reachableWords_56 post n 1 cp sn cl fn so ko fo fd ir re yg la := by
  intro m
  induction m with
  | zero =>
    intro re hm hI hr0
    obtain ⟨x', re', h1, h2, h3, h4, h5, h6⟩ := ky_64 rg ex sr kd fc hr ct cp sn cl fn so ko fo fd ir yg la H 96 0 rfl 0 re (Or.inl rfl) hI
    by_cases z : x' = 0
    · subst z
      obtain ⟨-, e, hcl⟩ := h4 rfl
      subst e
      refine ⟨re', hI, fun s hs => ⟨hI.2 s hs, fun h => ?_⟩, fun post h => ⟨2, br_f kb_10 ⟨97, h6 post _ (br_t rfl h)⟩⟩⟩
      exact (h (fun s => s < 96 ∧ re' (s + 1) ≠ 0) (fun t ht => ⟨ht.1, hr0 t ht⟩) (fun s t g e => ⟨e.1, hcl s (by omega) g.1 g.2 t e⟩)).2
    · rcases h5 z with g | g
      · exact absurd rfl g
      · have := ky_n_le re'
        omega
  | succ m ih =>
    intro re hm hI hr0
    obtain ⟨x', re', h1, h2, h3, h4, h5, h6⟩ := ky_64 rg ex sr kd fc hr ct cp sn cl fn so ko fo fd ir yg la H 96 0 rfl 0 re (Or.inl rfl) hI
    by_cases z : x' = 0
    · subst z
      obtain ⟨-, e, hcl⟩ := h4 rfl
      subst e
      refine ⟨re', hI, fun s hs => ⟨hI.2 s hs, fun h => ?_⟩, fun post h => ⟨2, br_f kb_10 ⟨97, h6 post _ (br_t rfl h)⟩⟩⟩
      exact (h (fun s => s < 96 ∧ re' (s + 1) ≠ 0) (fun t ht => ⟨ht.1, hr0 t ht⟩) (fun s t g e => ⟨e.1, hcl s (by omega) g.1 g.2 t e⟩)).2
    · have z1 : x' = 1 := by rcases h2 with g | g; exact absurd g z; exact g
      subst z1
      have hlt : ky_n re < ky_n re' := by
        rcases h5 z with g | g
        · exact absurd rfl g
        · exact g
      have := ky_n_le re'
      obtain ⟨re2, i1, i2, i3⟩ := ih re' (by omega) h1 (fun t ht => h3 t ht.1 (hr0 t ht))
      refine ⟨re2, i1, i2, fun post h => ?_⟩
      obtain ⟨n, hn⟩ := i3 post h
      exact ⟨n + 1, br_f kb_10 ⟨97, h6 post _ hn⟩⟩
theorem ky_23 (H : kr_H rg ex sr kd fc hr ct so ko fo fd ir yg) : ∀ d i, i + d = 8 → ∀ re, (∀ s, s < 96 → re (s + 1) ≠ 0 → kg_M rg kd fc hr ct s) →
    (∀ j, j < i → ∀ t, t < 96 → rg j = nI t → re (t + 1) ≠ 0) → ∃ re', ky_I (kg_M rg kd fc hr ct) re' ∧ (∀ t, kg_rt rg t → re' (t + 1) ≠ 0) ∧
      ∀ post : Int32 → SY → Prop, (∃ n56, wY_reachableWords_56 post n56 1 cp sn cl fn so ko fo fd ir re' yg la) → wY_reachableWords_23 post cp sn cl fn (d + 1) (nI i) so ko fo fd ir re yg la := by
  intro d
  induction d with
  | zero =>
    intro i hi re hs hd
    refine ⟨upd re 0 0, ⟨pk_us, fun s h1 h2 => hs s h1 (by rw [pk_un (by omega)] at h2; exact h2)⟩, fun t ⟨h1, r, h2, h3⟩ => ?_, fun post h => br_t (nI_le (a := 8) (by omega) (by omega)) (nm_r (by rw [kb_n0]) h)⟩
    rw [pk_un (by omega)]
    exact hd r (by omega) t h1 h3
  | succ d ih =>
    intro i hi re hs hd
    have hg := nI_ge (a := i) (b := 8) (by omega) (by omega)
    have ec := nI_clamp (n := i) (by omega)
    have hin := vp_in_nI (n := i) (N := 8) (by omega) (by omega)
    rcases H.1 i (by omega) with ⟨b1, b2⟩ | ⟨t, t1, t2, t3, -⟩
    · obtain ⟨re', h1, h2, h3⟩ := ih (i + 1) (by omega) (upd re 0 1) (fun s g1 g2 => hs s g1 (by rw [pk_un (by omega)] at g2; exact g2)) (fun j g1 t g2 g3 => by
        rw [pk_un (by omega)]
        by_cases y : j = i
        · subst y; rw [b1] at g3; exact absurd g3.symm (kb_m1 (by omega))
        · exact hd j (by omega) t g2 g3)
      refine ⟨re', h1, h2, fun post h => br_f hg ⟨hin, ?_⟩⟩
      rw [ec, b2]
      exact ⟨vp_in_nI (n := 0) (N := 97) (by omega) (by omega), nm_r (by rw [kb_n1]; rfl) (nm_r (nI_1 _) (h3 post h))⟩
    · have etc := nI_clamp (n := t + 1) (by omega)
      obtain ⟨re', h1, h2, h3⟩ := ih (i + 1) (by omega) (upd re (t + 1) 1) (fun s g1 g2 => by
        by_cases y : s = t
        · subst y; exact kg_r ⟨t1, i, by omega, t2⟩
        · rw [pk_un (by omega)] at g2; exact hs s g1 g2) (fun j g1 t' g2 g3 => by
        by_cases y : t' = t
        · subst y; rw [pk_us]; exact kb_10
        · rw [pk_un (by omega)]
          by_cases y2 : j = i
          · subst y2
            rw [t2] at g3
            exact absurd (kb_inj g3 (by omega) (by omega)).symm y
          · exact hd j (by omega) t' g2 g3)
      refine ⟨re', h1, h2, fun post h => br_f hg ⟨hin, ?_⟩⟩
      rw [ec, t3]
      exact ⟨vp_in_nI (n := t + 1) (N := 97) (by omega) (by omega), nm_r (by rw [kb_n1, etc]) (nm_r (nI_1 _) (h3 post h))⟩
theorem ky_2 : ∀ d i, i + d = 97 → ∀ re, (∀ j, j < i → re j = 0) → ∃ re', (∀ j, j < 97 → re' j = 0) ∧
      ∀ post : Int32 → SY → Prop, (∃ n23, wY_reachableWords_23 post cp sn cl fn n23 0 so ko fo fd ir re' yg la) → wY_reachableWords_2 post cp sn cl fn (d + 1) (nI i) so ko fo fd ir re yg la := by
  intro d
  induction d with
  | zero =>
    intro i hi re hd
    exact ⟨re, fun j hj => hd j (by omega), fun post h => br_t (nI_le (a := 97) (by omega) (by omega)) h⟩
  | succ d ih =>
    intro i hi re hd
    have ec := nI_clamp (n := i) (by omega)
    obtain ⟨re', h1, h2⟩ := ih (i + 1) (by omega) (upd re i 0) (fun j hj => by
      by_cases y : j = i
      · subst y; exact pk_us
      · rw [pk_un y]; exact hd j (by omega))
    refine ⟨re', h1, fun post h => br_f (nI_ge (b := 97) (by omega) (by omega)) ⟨vp_in_nI (by omega) (by omega), nm_r (by rw [ec, kb_n0]) (nm_r (nI_1 i) (h2 post h))⟩⟩
theorem ky_112 {post : Int32 → SY → Prop} (hp : post (kb_sum (fun s => re (s + 1)) (fun s => fo (s + 1)) 96) (cp, sn, cl, fn, so, ko, fo, fd, ir, re, yg, la)) : ∃ n112, wY_reachableWords_112 post cp sn cl fn so ko fo fd ir re yg la n112 0 1 := by
  have h : ∀ d i, i + d = 96 → wY_reachableWords_112 post cp sn cl fn so ko fo fd ir re yg la (d + 1) (kb_sum (fun s => re (s + 1)) (fun s => fo (s + 1)) i) (nI (i + 1)) := by
    intro d
    induction d with
    | zero => intro i hi; obtain rfl : i = 96 := by omega
              exact br_t (nI_le (a := 97) (b := 97) (by omega) (by omega)) hp
    | succ d ih =>
      intro i hi
      have e := nI_clamp (n := i + 1) (by omega)
      have hin := vp_in_nI (n := i + 1) (N := 97) (by omega) (by omega)
      have hs := ih (i + 1) (by omega)
      unfold kb_sum at hs
      refine br_f (nI_ge (b := 97) (by omega) (by omega)) ⟨hin, ?_⟩
      rw [e]
      by_cases z : re (i + 1) = 0
      · rw [if_pos z] at hs
        exact br_t z (nm_r (Int32.add_zero _) (nm_r (nI_1 (i + 1)) hs))
      · rw [if_neg z] at hs
        exact br_f z ⟨hin, nm_e (nm_r (nI_1 (i + 1)) hs)⟩
  exact ⟨97, h 96 0 rfl⟩
theorem ky_find (H : kr_H rg ex sr kd fc hr ct so ko fo fd ir yg) :
    ∃ re', re' 0 = 0 ∧ (∀ s, s < 96 → (re' (s + 1) ≠ 0 ↔ kg_M rg kd fc hr ct s)) ∧
      ∀ post : Int32 → SY → Prop, post (kb_sum (fun s => re' (s + 1)) (fun s => fo (s + 1)) 96) (cp, sn, cl, fn, so, ko, fo, fd, ir, re', yg, la) → wpY_reachableWords post (cp, sn, cl, fn, so, ko, fo, fd, ir, re, yg, la) := by
  obtain ⟨re0, z0, w0⟩ := ky_2 cp sn cl fn so ko fo fd ir yg la 97 0 rfl re (fun j hj => by omega)
  obtain ⟨re1, I1, r1, w1⟩ := ky_23 rg ex sr kd fc hr ct cp sn cl fn so ko fo fd ir yg la H 8 0 rfl re0 (fun s h1 h2 => absurd (z0 (s + 1) (by omega)) h2) (fun j hj => by omega)
  obtain ⟨re2, I2, r2, w2⟩ := ky_56 rg ex sr kd fc hr ct cp sn cl fn so ko fo fd ir yg la H 96 re1 (by omega) I1 r1
  exact ⟨re2, I2.1, r2, fun post h => ⟨98, w0 post ⟨9, w1 post (w2 post (ky_112 cp sn cl fn so ko fo fd ir re2 yg la h))⟩⟩⟩
end

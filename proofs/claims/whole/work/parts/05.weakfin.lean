/-! weak fields of both sides -/
def kw_d (M : Nat → Prop) (kd ct : Nat → Int32) (s : Nat) : Prop := M s ∧ kd s = 2 ∧ ∃ t, t < 96 ∧ ct (6 * s) = nI t ∧ ¬ M t
def kw_P (i : Nat) (M : Nat → Prop) (kd ct c1 : Nat → Int32) : Prop := ∀ s, s < 96 → ∀ f, f < 6 →
  (f = 0 ∧ s < i ∧ kw_d M kd ct s → c1 (6 * s + f) = -1) ∧ (¬ (f = 0 ∧ s < i ∧ kw_d M kd ct s) → c1 (6 * s + f) = ct (6 * s + f))
def kw_Q (i : Nat) (M : Nat → Prop) (kd ct fd f1 : Nat → Int32) : Prop := ∀ s, s < 96 → ∀ f, f < 6 →
  (f = 0 ∧ s < i ∧ kw_d M kd ct s → f1 (6 * (s + 1) + f) = 0) ∧ (¬ (f = 0 ∧ s < i ∧ kw_d M kd ct s) → f1 (6 * (s + 1) + f) = fd (6 * (s + 1) + f))
theorem kw_Pn {i : Nat} {M : Nat → Prop} {kd ct c1 : Nat → Int32} (h : kw_P i M kd ct c1) (n : ¬ kw_d M kd ct i) : kw_P (i + 1) M kd ct c1 := by
  intro s hs f hf
  refine ⟨fun ⟨a, b, c⟩ => ?_, fun z => (h s hs f hf).2 (fun ⟨a, b, c⟩ => z ⟨a, by omega, c⟩)⟩
  by_cases y : s = i
  · subst y; exact absurd c n
  · exact (h s hs f hf).1 ⟨a, by omega, c⟩
theorem kw_Qn {i : Nat} {M : Nat → Prop} {kd ct fd f1 : Nat → Int32} (h : kw_Q i M kd ct fd f1) (n : ¬ kw_d M kd ct i) : kw_Q (i + 1) M kd ct fd f1 := by
  intro s hs f hf
  refine ⟨fun ⟨a, b, c⟩ => ?_, fun z => (h s hs f hf).2 (fun ⟨a, b, c⟩ => z ⟨a, by omega, c⟩)⟩
  by_cases y : s = i
  · subst y; exact absurd c n
  · exact (h s hs f hf).1 ⟨a, by omega, c⟩
theorem kw_Pu {i : Nat} {M : Nat → Prop} {kd ct c1 : Nat → Int32} (h : kw_P i M kd ct c1) (n : kw_d M kd ct i) : kw_P (i + 1) M kd ct (upd c1 (6 * i) (-1)) := by
  intro s hs f hf
  by_cases y : s = i ∧ f = 0
  · obtain ⟨y1, y2⟩ := y
    subst y1; subst y2
    exact ⟨fun _ => pk_us, fun z => absurd ⟨rfl, by omega, n⟩ z⟩
  · rw [pk_un (by omega)]
    refine ⟨fun ⟨a, b, c⟩ => (h s hs f hf).1 ⟨a, by omega, c⟩, fun z => (h s hs f hf).2 (fun ⟨a, b, c⟩ => z ⟨a, by omega, c⟩)⟩
theorem kw_Qu {i : Nat} {M : Nat → Prop} {kd ct fd f1 : Nat → Int32} (h : kw_Q i M kd ct fd f1) (n : kw_d M kd ct i) : kw_Q (i + 1) M kd ct fd (upd f1 (6 * (i + 1)) 0) := by
  intro s hs f hf
  by_cases y : s = i ∧ f = 0
  · obtain ⟨y1, y2⟩ := y
    subst y1; subst y2
    exact ⟨fun _ => pk_us, fun z => absurd ⟨rfl, by omega, n⟩ z⟩
  · rw [pk_un (by omega)]
    refine ⟨fun ⟨a, b, c⟩ => (h s hs f hf).1 ⟨a, by omega, c⟩, fun z => (h s hs f hf).2 (fun ⟨a, b, c⟩ => z ⟨a, by omega, c⟩)⟩
theorem kw_Q0 {i : Nat} {M : Nat → Prop} {kd ct fd f1 : Nat → Int32} (h : kw_Q i M kd ct fd f1) (e : f1 (6 * (i + 1)) = 0) (n : ¬ kw_d M kd ct i) : kw_Q (i + 1) M kd ct fd (upd f1 (6 * (i + 1)) 0) := by
  have e2 : upd f1 (6 * (i + 1)) 0 = f1 := by
    funext j
    by_cases y : j = 6 * (i + 1)
    · subst y; rw [pk_us, e]
    · rw [pk_un y]
  rw [e2]
  exact kw_Qn h n
theorem kw_x {M : Nat → Prop} (cap rc fl co ls : Int32) (rg ex sr kd fc hr ct ra rd fs : Nat → Int32) (hM : ∀ s, s < 96 → (ra s ≠ 0 ↔ M s)) (hv : ∀ s, s < 96 → kd s = 2 → ct (6 * s) = -1 ∨ ∃ t, t < 96 ∧ ct (6 * s) = nI t) :
    ∃ ct', kw_P 96 M kd ct ct' ∧ ∀ post : SX → Prop, post (cap, rc, fl, co, ls, rg, ex, sr, kd, fc, hr, ct', ra, rd, fs) → wpX_clearWeakFields post (cap, rc, fl, co, ls, rg, ex, sr, kd, fc, hr, ct, ra, rd, fs) := by
  have L : ∀ d i, i + d = 96 → ∀ c1, kw_P i M kd ct c1 → ∃ ct', kw_P 96 M kd ct ct' ∧ ∀ post : SX → Prop, post (cap, rc, fl, co, ls, rg, ex, sr, kd, fc, hr, ct', ra, rd, fs) → wX_clearWeakFields_2 post cap rc fl co ls (d + 1) (nI i) rg ex sr kd fc hr c1 ra rd fs := by
    intro d
    induction d with
    | zero =>
      intro i hi c1 h1
      obtain rfl : i = 96 := by omega
      exact ⟨c1, h1, fun post h => br_t (nI_le (a := 96) (b := 96) (by omega) (by omega)) h⟩
    | succ d ih =>
      intro i hi c1 h1
      have hg := nI_ge (a := i) (b := 96) (by omega) (by omega)
      have ec := nI_clamp (n := i) (by omega)
      have hin := vp_in_nI (n := i) (N := 96) (by omega) (by omega)
      have ecc := nI_clamp (n := 6 * i) (by omega)
      have hinc := vp_in_nI (n := 6 * i) (N := 576) (by omega) (by omega)
      by_cases z : ra i = 0
      · obtain ⟨ct', j1, j2⟩ := ih (i + 1) (by omega) c1 (kw_Pn h1 (fun n => (hM i (by omega)).mpr n.1 z))
        refine ⟨ct', j1, fun post h => br_f hg ⟨hin, ?_⟩⟩
        rw [ec]
        exact br_t z (nm_r (nI_1 i) (j2 post h))
      · by_cases k2 : kd i = 2
        · have e1 : c1 (6 * i) = ct (6 * i) := (h1 i (by omega) 0 (by omega)).2 (fun y => by omega)
          rcases hv i (by omega) k2 with g | ⟨t, g1, g2⟩
          · obtain ⟨ct', j1, j2⟩ := ih (i + 1) (by omega) c1 (kw_Pn h1 (fun ⟨_, _, t, t1, t2, _⟩ => kb_m1 (a := t) (by omega) (t2.symm.trans g)))
            refine ⟨ct', j1, fun post h => br_f hg ⟨hin, ?_⟩⟩
            rw [ec]
            refine br_f z ⟨hin, br_t k2 (kb_cell _ _ _ _ _ _ _ _ _ _ _ _ _ _ _ (6 * i) (kb_cx0 i) ⟨hinc, ?_⟩)⟩
            rw [ecc]
            exact br_t (e1.trans g) (nm_r (nI_1 i) (j2 post h))
          · have etc := nI_clamp (n := t) (by omega)
            have hint := vp_in_nI (n := t) (N := 96) (by omega) (by omega)
            have hne : ¬ nI t = -1 := kb_m1 (by omega)
            by_cases y : ra t = 0
            · obtain ⟨ct', j1, j2⟩ := ih (i + 1) (by omega) (upd c1 (6 * i) (-1)) (kw_Pu h1 ⟨(hM i (by omega)).mp z, k2, t, g1, g2, fun m => (hM t g1).mpr m y⟩)
              refine ⟨ct', j1, fun post h => br_f hg ⟨hin, ?_⟩⟩
              rw [ec]
              refine br_f z ⟨hin, br_t k2 (kb_cell _ _ _ _ _ _ _ _ _ _ _ _ _ _ _ (6 * i) (kb_cx0 i) ⟨hinc, ?_⟩)⟩
              rw [ecc, e1, g2]
              refine br_f hne ⟨hinc, hint, ?_⟩
              rw [etc]
              exact br_t y ⟨hinc, nm_e (nm_r (nI_1 i) (j2 post h))⟩
            · obtain ⟨ct', j1, j2⟩ := ih (i + 1) (by omega) c1 (kw_Pn h1 (fun ⟨_, _, t', t1, t2, t3⟩ => by
                rw [g2] at t2
                have := kb_inj t2 (by omega) (by omega)
                subst this
                exact t3 ((hM t g1).mp y)))
              refine ⟨ct', j1, fun post h => br_f hg ⟨hin, ?_⟩⟩
              rw [ec]
              refine br_f z ⟨hin, br_t k2 (kb_cell _ _ _ _ _ _ _ _ _ _ _ _ _ _ _ (6 * i) (kb_cx0 i) ⟨hinc, ?_⟩)⟩
              rw [ecc, e1, g2]
              refine br_f hne ⟨hinc, hint, ?_⟩
              rw [etc]
              exact br_f y (nm_r (nI_1 i) (j2 post h))
        · obtain ⟨ct', j1, j2⟩ := ih (i + 1) (by omega) c1 (kw_Pn h1 (fun n => k2 n.2.1))
          refine ⟨ct', j1, fun post h => br_f hg ⟨hin, ?_⟩⟩
          rw [ec]
          exact br_f z ⟨hin, br_f k2 (nm_r (nI_1 i) (j2 post h))⟩
  obtain ⟨ct', j1, j2⟩ := L 96 0 rfl ct (fun s hs f hf => ⟨fun ⟨_, b, _⟩ => by omega, fun _ => rfl⟩)
  exact ⟨ct', j1, fun post h => ⟨97, j2 post h⟩⟩
theorem kw_y {M : Nat → Prop} (kd ct : Nat → Int32) (cp sn cl fn : Int32) (so ko fo fd ir re yg la : Nat → Int32) (x1 : Int32) (h0 : re 0 = 0) (hM : ∀ s, s < 96 → (re (s + 1) ≠ 0 ↔ M s)) (hk : ∀ s, s < 96 → ko (s + 1) = kd s)
    (hv : ∀ s, s < 96 → kd s = 2 → kr_p (fun _ => True) (ct (6 * s)) (fd (6 * (s + 1)))) :
    ∃ fd', kw_Q 96 M kd ct fd fd' ∧ ∀ post : Int32 → SY → Prop, wpY_leastDead (fun r => ∃ n80, wY_collect_80 post x1 cp sn cl n80 r fn so ko fo fd' ir re yg la) (cp, sn, cl, fn, so, ko, fo, fd', ir, re, yg, la) → ∃ n17, wY_collect_17 post x1 cp sn cl fn n17 1 so ko fo fd ir re yg la := by
  have L : ∀ d i, i + d = 96 → ∀ f1, kw_Q i M kd ct fd f1 → ∃ fd', kw_Q 96 M kd ct fd fd' ∧ ∀ post : Int32 → SY → Prop,
      wpY_leastDead (fun r => ∃ n80, wY_collect_80 post x1 cp sn cl n80 r fn so ko fo fd' ir re yg la) (cp, sn, cl, fn, so, ko, fo, fd', ir, re, yg, la) → wY_collect_17 post x1 cp sn cl fn (d + 1) (nI (i + 1)) so ko fo f1 ir re yg la := by
    intro d
    induction d with
    | zero =>
      intro i hi f1 h1
      obtain rfl : i = 96 := by omega
      exact ⟨f1, h1, fun post h => br_t (nI_le (a := 97) (b := 97) (by omega) (by omega)) h⟩
    | succ d ih =>
      intro i hi f1 h1
      have hg := nI_ge (a := i + 1) (b := 97) (by omega) (by omega)
      have ec := nI_clamp (n := i + 1) (by omega)
      have hin := vp_in_nI (n := i + 1) (N := 97) (by omega) (by omega)
      have ecc := nI_clamp (n := 6 * (i + 1)) (by omega)
      have hinc := vp_in_nI (n := 6 * (i + 1)) (N := 582) (by omega) (by omega)
      by_cases z : re (i + 1) = 0
      · obtain ⟨fd', j1, j2⟩ := ih (i + 1) (by omega) f1 (kw_Qn h1 (fun n => (hM i (by omega)).mpr n.1 z))
        refine ⟨fd', j1, fun post h => br_f hg ⟨hin, ?_⟩⟩
        rw [ec]
        exact br_t z (nm_r (nI_1 _) (j2 post h))
      · by_cases k2 : kd i = 2
        · have k2' : ko (i + 1) = 2 := (hk i (by omega)).trans k2
          have e1 : f1 (6 * (i + 1)) = fd (6 * (i + 1)) := (h1 i (by omega) 0 (by omega)).2 (fun y => by omega)
          rcases hv i (by omega) k2 with ⟨g, g'⟩ | ⟨t, g1, g2, g3, -⟩
          · obtain ⟨fd', j1, j2⟩ := ih (i + 1) (by omega) (upd f1 (6 * (i + 1)) 0) (kw_Q0 h1 (e1.trans g') (fun ⟨_, _, t, t1, t2, _⟩ => kb_m1 (a := t) (by omega) (t2.symm.trans g)))
            refine ⟨fd', j1, fun post h => br_f hg ⟨hin, ?_⟩⟩
            rw [ec, kb_cy0, ecc, e1, g']
            exact br_f z ⟨hin, br_t k2' ⟨hinc, vp_in_nI (n := 0) (N := 97) (by omega) (by omega), br_t h0 ⟨hinc, nm_e (nm_r (nI_1 _) (j2 post h))⟩⟩⟩
          · have etc := nI_clamp (n := t + 1) (by omega)
            have hint := vp_in_nI (n := t + 1) (N := 97) (by omega) (by omega)
            by_cases y : re (t + 1) = 0
            · obtain ⟨fd', j1, j2⟩ := ih (i + 1) (by omega) (upd f1 (6 * (i + 1)) 0) (kw_Qu h1 ⟨(hM i (by omega)).mp z, k2, t, g1, g2, fun m => (hM t g1).mpr m y⟩)
              refine ⟨fd', j1, fun post h => br_f hg ⟨hin, ?_⟩⟩
              rw [ec, kb_cy0, ecc, e1, g3, etc]
              exact br_f z ⟨hin, br_t k2' ⟨hinc, hint, br_t y ⟨hinc, nm_e (nm_r (nI_1 _) (j2 post h))⟩⟩⟩
            · obtain ⟨fd', j1, j2⟩ := ih (i + 1) (by omega) f1 (kw_Qn h1 (fun ⟨_, _, t', t1, t2, t3⟩ => by
                rw [g2] at t2
                have := kb_inj t2 (by omega) (by omega)
                subst this
                exact t3 ((hM t g1).mp y)))
              refine ⟨fd', j1, fun post h => br_f hg ⟨hin, ?_⟩⟩
              rw [ec, kb_cy0, ecc, e1, g3, etc]
              exact br_f z ⟨hin, br_t k2' ⟨hinc, hint, br_f y (nm_r (nI_1 _) (j2 post h))⟩⟩
        · have k2' : ¬ ko (i + 1) = 2 := by rw [hk i (by omega)]; exact k2
          obtain ⟨fd', j1, j2⟩ := ih (i + 1) (by omega) f1 (kw_Qn h1 (fun n => k2 n.2.1))
          refine ⟨fd', j1, fun post h => br_f hg ⟨hin, ?_⟩⟩
          rw [ec]
          exact br_f z ⟨hin, br_f k2' (nm_r (nI_1 _) (j2 post h))⟩
  obtain ⟨fd', j1, j2⟩ := L 96 0 rfl fd (fun s hs f hf => ⟨fun ⟨_, b, _⟩ => by omega, fun _ => rfl⟩)
  exact ⟨fd', j1, fun post h => ⟨97, j2 post h⟩⟩

/-! the relation -/
def kr_p (Q : Nat → Prop) (b d : Int32) : Prop := (b = -1 ∧ d = 0) ∨ ∃ t, t < 96 ∧ b = nI t ∧ d = nI (t + 1) ∧ Q t
def kr_c (Q : Nat → Prop) (a b c d : Int32) : Prop := (a = 0 ∧ c = 0 ∧ d = b) ∨ (a = 1 ∧ c = 1 ∧ kr_p Q b d)
def kr_s (ex sr kd fc hr ct so ko fo fd ir : Nat → Int32) (s : Nat) : Prop :=
  ∃ F, F ≤ 6 ∧ fc s = nI F ∧ fo (s + 1) = nI F ∧ ko (s + 1) = kd s ∧ (ex s = 0 ∨ ex s = 1) ∧ so (s + 1) = (if ex s = 0 then 0 else sr s) ∧
    (ex s ≠ 0 → sr s ≠ 0) ∧ (kd s = 2 → F = 1 ∧ hr (6 * s) = 1) ∧
    ∀ f, f < F → kr_c (fun t => ex s ≠ 0 → ex t ≠ 0) (hr (6 * s + f)) (ct (6 * s + f)) (ir (6 * (s + 1) + f)) (fd (6 * (s + 1) + f))
def kr_H (rg ex sr kd fc hr ct so ko fo fd ir yg : Nat → Int32) : Prop :=
  (∀ r, r < 8 → kr_p (fun t => ex t ≠ 0) (rg r) (yg r)) ∧ ∀ s, s < 96 → kr_s ex sr kd fc hr ct so ko fo fd ir s
/-- the two states are related, with S the last serial -/
def kr_R (S : Nat) (u : SX) (v : SY) : Prop :=
  match u with
  | (cap, rc, fl, co, ls, rg, ex, sr, kd, fc, hr, ct, ra, rd, fs) => match v with
    | (cp, sn, cl, fn, so, ko, fo, fd, ir, re, yg, la) => cp = cap ∧ cl = co ∧ fn = fl ∧ la = fs ∧ ls = nI S ∧ sn = nI S ∧ (∃ C, 16 ≤ C ∧ C ≤ 96 ∧ cap = nI C) ∧ kr_H rg ex sr kd fc hr ct so ko fo fd ir yg
def i_Rel (k : Nat) (u : SX) (v : SY) : Prop := ∃ S, S ≤ 5 * k ∧ kr_R S u v
theorem i_up {k : Nat} {u : SX} {v : SY} (h : i_Rel k u v) : i_Rel (k + 4) u v := by
  obtain ⟨S, hS, h⟩ := h
  exact ⟨S, by omega, h⟩
theorem kr_up {k S n : Nat} {u : SX} {v : SY} (hS : S ≤ 5 * k) (hn : n ≤ 20) (h : kr_R (S + n) u v) : i_Rel (k + 4) u v := ⟨S + n, by omega, h⟩
/-! the graph, its least set -/
def kg_rt (rg : Nat → Int32) (t : Nat) : Prop := t < 96 ∧ ∃ r, r < 8 ∧ rg r = nI t
def kg_eg (kd fc hr ct : Nat → Int32) (s t : Nat) : Prop := t < 96 ∧ kd s ≠ 2 ∧ ∃ f, f < 6 ∧ nI f < fc s ∧ hr (6 * s + f) ≠ 0 ∧ ct (6 * s + f) = nI t
def kg_M (rg kd fc hr ct : Nat → Int32) (t : Nat) : Prop :=
  ∀ Q : Nat → Prop, (∀ t, kg_rt rg t → Q t) → (∀ s t, Q s → kg_eg kd fc hr ct s t → Q t) → Q t
theorem kg_r {rg kd fc hr ct : Nat → Int32} {t : Nat} (h : kg_rt rg t) : kg_M rg kd fc hr ct t := fun _ h1 _ => h1 t h
theorem kg_e {rg kd fc hr ct : Nat → Int32} {s t : Nat} (h : kg_M rg kd fc hr ct s) (e : kg_eg kd fc hr ct s t) : kg_M rg kd fc hr ct t := fun Q h1 h2 => h2 s t (h Q h1 h2) e
/-! the component's reach -/
def kx_I (M : Nat → Prop) (c : Nat) (ra rd : Nat → Int32) : Prop :=
  (∀ s, s < 96 → ra s = 0 ∨ ra s = 1) ∧ (∀ j, j < c → ∃ t, t < 96 ∧ rd j = nI t ∧ ra t ≠ 0) ∧ (∀ s, s < 96 → ra s ≠ 0 → ∃ j, j < c ∧ rd j = nI s) ∧
  kc_n ra 96 = c ∧ ∀ s, s < 96 → ra s ≠ 0 → M s
def kx_E (c : Nat) (ra rd : Nat → Int32) (c' : Nat) (ra' rd' : Nat → Int32) : Prop :=
  c ≤ c' ∧ (∀ s, s < 96 → ra s ≠ 0 → ra' s ≠ 0) ∧ ∀ j, j < c → rd' j = rd j
theorem kx_E0 {c : Nat} {ra rd : Nat → Int32} : kx_E c ra rd c ra rd := ⟨Nat.le_refl _, fun _ _ h => h, fun _ _ => rfl⟩
theorem kx_Et {c c' c'' : Nat} {ra rd ra' rd' ra'' rd'' : Nat → Int32} (h : kx_E c ra rd c' ra' rd') (g : kx_E c' ra' rd' c'' ra'' rd'') : kx_E c ra rd c'' ra'' rd'' :=
  ⟨Nat.le_trans h.1 g.1, fun s hs z => g.2.1 s hs (h.2.1 s hs z), fun j hj => (g.2.2 j (Nat.lt_of_lt_of_le hj h.1)).trans (h.2.2 j hj)⟩
theorem kx_reach {M : Nat → Prop} (cap rc fl co ls : Int32) (rg ex sr kd fc hr ct ra rd fs : Nat → Int32) {c : Nat} (p : Int32) (hI : kx_I M c ra rd) (hp : p = -1 ∨ ∃ t, t < 96 ∧ p = nI t ∧ M t) :
    ∃ c' ra' rd', kx_I M c' ra' rd' ∧ kx_E c ra rd c' ra' rd' ∧ (∀ t, t < 96 → p = nI t → ra' t ≠ 0) ∧
      ∀ post : SX → Prop, post (cap, nI c', fl, co, ls, rg, ex, sr, kd, fc, hr, ct, ra', rd', fs) → wpX_reach post (cap, nI c, fl, co, ls, rg, ex, sr, kd, fc, hr, ct, ra, rd, fs) p := by
  rcases hp with e | ⟨t, ht, e, hM⟩
  · subst e
    exact ⟨c, ra, rd, hI, kx_E0, fun t ht e => absurd e.symm (kb_m1 (by omega)), fun post h => br_t rfl h⟩
  · subst e
    have en : ¬ nI t = -1 := kb_m1 (by omega)
    have ec := nI_clamp (n := t) (by omega)
    have hin := vp_in_nI (n := t) (N := 96) (by omega) (by omega)
    by_cases z : ra t = 0
    · have hc : c < 96 := by rw [← hI.2.2.2.1]; exact kc_lt z 96 ht
      have hcc := nI_clamp (n := c) (by omega)
      refine ⟨c + 1, upd ra t 1, upd rd c (nI t), ⟨?_, ?_, ?_, ?_, ?_⟩, ⟨by omega, ?_, ?_⟩, ?_, ?_⟩
      · intro s hs
        by_cases y : s = t
        · subst y; exact Or.inr pk_us
        · rw [pk_un y]; exact hI.1 s hs
      · intro j hj
        by_cases y : j = c
        · subst y; exact ⟨t, ht, pk_us, by rw [pk_us]; exact kb_10⟩
        · obtain ⟨t', h1, h2, h3⟩ := hI.2.1 j (by omega)
          refine ⟨t', h1, by rw [pk_un y]; exact h2, ?_⟩
          by_cases y2 : t' = t
          · subst y2; rw [pk_us]; exact kb_10
          · rw [pk_un y2]; exact h3
      · intro s hs h
        by_cases y : s = t
        · subst y; exact ⟨c, by omega, pk_us⟩
        · rw [pk_un y] at h
          obtain ⟨j, h1, h2⟩ := hI.2.2.1 s hs h
          exact ⟨j, by omega, by rw [pk_un (by omega)]; exact h2⟩
      · rw [kc_up z kb_10 96 ht, hI.2.2.2.1]
      · intro s hs h
        by_cases y : s = t
        · subst y; exact hM
        · rw [pk_un y] at h; exact hI.2.2.2.2 s hs h
      · intro s hs h
        by_cases y : s = t
        · subst y; rw [pk_us]; exact kb_10
        · rw [pk_un y]; exact h
      · intro j hj; rw [pk_un (by omega)]
      · intro t' ht' e
        have := kb_inj e (by omega) (by omega)
        subst this; rw [pk_us]; exact kb_10
      · intro post h
        refine br_f en ⟨hin, ?_⟩
        rw [ec]
        refine br_t z ⟨hin, nm_r (by rw [kb_n1]) ⟨vp_in_nI hc (by omega), nm_r (by rw [hcc]) (nm_r (nI_1 c) h)⟩⟩
    · refine ⟨c, ra, rd, hI, kx_E0, fun t' ht' e => ?_, fun post h => br_f en ⟨hin, ?_⟩⟩
      · have := kb_inj e (by omega) (by omega)
        subst this; exact z
      · rw [ec]; exact br_f z h
theorem kx_ff {rg0 : Nat → Int32} (cap rc fl co ls : Int32) (rg ex sr kd fc hr ct ra rd fs : Nat → Int32) {c s F : Nat} (hs : s < 96) (hF : F ≤ 6) (eF : fc s = nI F)
    (hc : ∀ f, f < F → hr (6 * s + f) = 0 ∨ ct (6 * s + f) = -1 ∨ ∃ t, t < 96 ∧ ct (6 * s + f) = nI t)
    (hI : kx_I (kg_M rg0 kd fc hr ct) c ra rd) (hM : kg_M rg0 kd fc hr ct s) :
    ∃ c' ra' rd', kx_I (kg_M rg0 kd fc hr ct) c' ra' rd' ∧ kx_E c ra rd c' ra' rd' ∧ (∀ t, kg_eg kd fc hr ct s t → ra' t ≠ 0) ∧
      ∀ post : SX → Prop, post (cap, nI c', fl, co, ls, rg, ex, sr, kd, fc, hr, ct, ra', rd', fs) → wpX_reachFromFields post (cap, nI c, fl, co, ls, rg, ex, sr, kd, fc, hr, ct, ra, rd, fs) (nI s) := by
  have ec := nI_clamp (n := s) (by omega)
  have hin := vp_in_nI (n := s) (N := 96) (by omega) (by omega)
  by_cases hk : kd s = 2
  · refine ⟨c, ra, rd, hI, kx_E0, fun t e => absurd hk e.2.1, fun post h => ⟨hin, ?_⟩⟩
    rw [ec]; exact br_t hk h
  · have H : ∀ d f, f + d = F → ∀ c ra rd, kx_I (kg_M rg0 kd fc hr ct) c ra rd → ∃ c' ra' rd', kx_I (kg_M rg0 kd fc hr ct) c' ra' rd' ∧ kx_E c ra rd c' ra' rd' ∧
        (∀ f', f ≤ f' → f' < F → hr (6 * s + f') ≠ 0 → ∀ t, t < 96 → ct (6 * s + f') = nI t → ra' t ≠ 0) ∧
        ∀ post : SX → Prop, post (cap, nI c', fl, co, ls, rg, ex, sr, kd, fc, hr, ct, ra', rd', fs) → wX_reachFromFields_13 post (nI s) (d + 1) (nI f) cap (nI c) fl co ls rg ex sr kd fc hr ct ra rd fs := by
      intro d
      induction d with
      | zero =>
        intro f hf c ra rd hI
        refine ⟨c, ra, rd, hI, kx_E0, fun f' h1 h2 => by omega, fun post h => ⟨hin, ?_⟩⟩
        rw [ec, eF]
        exact br_t (nI_le (by omega) (by omega)) h
      | succ d ih =>
        intro f hf c ra rd hI
        have hcell : 6 * s + f < 576 := by omega
        have ecc := nI_clamp (n := 6 * s + f) (by omega)
        have hinc := vp_in_nI (n := 6 * s + f) (N := 576) hcell (by omega)
        by_cases z : hr (6 * s + f) = 0
        · obtain ⟨c', ra', rd', h1, h2, h3, h4⟩ := ih (f + 1) (by omega) c ra rd hI
          refine ⟨c', ra', rd', h1, h2, fun f' g1 g2 g3 => ?_, fun post h => ⟨hin, ?_⟩⟩
          · by_cases y : f' = f
            · subst y; exact absurd z g3
            · exact h3 f' (by omega) g2 g3
          · rw [ec, eF]
            refine br_f (nI_ge (by omega) (by omega)) (kb_cell _ _ _ _ _ _ _ _ _ _ _ _ _ _ _ (6 * s + f) (kb_cx s f) ⟨hinc, ?_⟩)
            rw [ecc]
            exact br_t z (nm_r (nI_1 f) (h4 post h))
        · have hp : ct (6 * s + f) = -1 ∨ ∃ t, t < 96 ∧ ct (6 * s + f) = nI t ∧ kg_M rg0 kd fc hr ct t := by
            rcases hc f (by omega) with g | g | ⟨t, g1, g2⟩
            · exact absurd g z
            · exact Or.inl g
            · exact Or.inr ⟨t, g1, g2, kg_e hM ⟨g1, hk, f, by omega, by rw [eF]; exact nI_lt (by omega) (by omega), z, g2⟩⟩
          obtain ⟨c1, ra1, rd1, i1, i2, i3, i4⟩ := kx_reach cap rc fl co ls rg ex sr kd fc hr ct ra rd fs (ct (6 * s + f)) hI hp
          obtain ⟨c', ra', rd', h1, h2, h3, h4⟩ := ih (f + 1) (by omega) c1 ra1 rd1 i1
          refine ⟨c', ra', rd', h1, kx_Et i2 h2, fun f' g1 g2 g3 t ht g4 => ?_, fun post h => ⟨hin, ?_⟩⟩
          · by_cases y : f' = f
            · subst y; exact h2.2.1 t ht (i3 t ht g4)
            · exact h3 f' (by omega) g2 g3 t ht g4
          · rw [ec, eF]
            refine br_f (nI_ge (by omega) (by omega)) (kb_cell _ _ _ _ _ _ _ _ _ _ _ _ _ _ _ (6 * s + f) (kb_cx s f) ⟨hinc, ?_⟩)
            rw [ecc]
            refine br_f z ⟨hinc, ?_⟩
            exact i4 _ (nm_r (nI_1 f) (h4 post h))
    obtain ⟨c', ra', rd', h1, h2, h3, h4⟩ := H F 0 (by omega) c ra rd hI
    refine ⟨c', ra', rd', h1, h2, fun t e => ?_, fun post h => ⟨hin, ?_⟩⟩
    · obtain ⟨e1, e2, f, f1, f2, f3, f4⟩ := e
      rw [eF, nI_ltI (by omega) (by omega)] at f2
      exact h3 f (by omega) f2 f3 t e1 f4
    · rw [ec]
      exact br_f hk ⟨F + 1, h4 post h⟩

/-! a new object on both sides -/
def kn_O (s : Nat) (a b : Nat → Int32) : Prop := ∀ s', s' < 96 → s' ≠ s → ∀ f, f < 6 → b (6 * s' + f) = a (6 * s' + f)
def kn_Y (s : Nat) (a b : Nat → Int32) : Prop := ∀ s', s' < 96 → s' ≠ s → ∀ f, f < 6 → b (6 * (s' + 1) + f) = a (6 * (s' + 1) + f)
theorem kn_O0 {s : Nat} {a : Nat → Int32} : kn_O s a a := fun _ _ _ _ _ => rfl
theorem kn_Y0 {s : Nat} {a : Nat → Int32} : kn_Y s a a := fun _ _ _ _ _ => rfl
theorem kn_Ou {s f : Nat} {a b : Nat → Int32} {x : Int32} (h : kn_O s a b) (hf : f < 6) : kn_O s a (upd b (6 * s + f) x) := by
  intro s' hs' n f' hf'
  rw [pk_un (by omega)]
  exact h s' hs' n f' hf'
theorem kn_Yu {s f : Nat} {a b : Nat → Int32} {x : Int32} (h : kn_Y s a b) (hf : f < 6) : kn_Y s a (upd b (6 * (s + 1) + f) x) := by
  intro s' hs' n f' hf'
  rw [pk_un (by omega)]
  exact h s' hs' n f' hf'
theorem kb_si {post : SX → Prop} (cap rc fl co ls : Int32) (rg ex sr kd fc hr ct ra rd fs : Nat → Int32) {c : Nat} {x : Int32} (hc : c < 576) (h : post (cap, rc, fl, co, ls, rg, ex, sr, kd, fc, upd hr c 0, upd ct c x, ra, rd, fs)) : wpX_setInt post (cap, rc, fl, co, ls, rg, ex, sr, kd, fc, hr, ct, ra, rd, fs) (nI c) x := by
  have ec := nI_clamp (n := c) (by omega)
  have hin := vp_in_nI (n := c) (N := 576) hc (by omega)
  exact ⟨hin, nm_r (by rw [ec, kb_n0]) ⟨hin, nm_r (by rw [ec]) h⟩⟩
theorem kb_sr {post : SX → Prop} (cap rc fl co ls : Int32) (rg ex sr kd fc hr ct ra rd fs : Nat → Int32) {c : Nat} {x : Int32} (hc : c < 576) (h : post (cap, rc, fl, co, ls, rg, ex, sr, kd, fc, upd hr c 1, upd ct c x, ra, rd, fs)) : wpX_setReference post (cap, rc, fl, co, ls, rg, ex, sr, kd, fc, hr, ct, ra, rd, fs) (nI c) x := by
  have ec := nI_clamp (n := c) (by omega)
  have hin := vp_in_nI (n := c) (N := 576) hc (by omega)
  exact ⟨hin, nm_r (by rw [ec, kb_n1]) ⟨hin, nm_r (by rw [ec]) h⟩⟩
theorem kn_93 (cap rc fl co ls : Int32) (rg ex sr kd fc hr ct ra rd fs : Nat → Int32) {s F : Nat} (hs : s < 96) (hF : F ≤ 6) : ∃ hr' ct', kn_O s hr hr' ∧ kn_O s ct ct' ∧ (∀ f, f < F → hr' (6 * s + f) = 0 ∧ ct' (6 * s + f) = 0) ∧
    ∀ post : Int32 → SX → Prop, post (nI s) (cap, rc, fl, co, ls, rg, ex, sr, kd, fc, hr', ct', ra, rd, fs) → ∃ n93, wX_newObject_93 post (nI F) (nI s) n93 0 cap rc fl co ls rg ex sr kd fc hr ct ra rd fs := by
  have L : ∀ d f, f + d = F → ∀ h c, kn_O s hr h → kn_O s ct c → (∀ f', f' < f → h (6 * s + f') = 0 ∧ c (6 * s + f') = 0) →
      ∃ hr' ct', kn_O s hr hr' ∧ kn_O s ct ct' ∧ (∀ f, f < F → hr' (6 * s + f) = 0 ∧ ct' (6 * s + f) = 0) ∧
      ∀ post : Int32 → SX → Prop, post (nI s) (cap, rc, fl, co, ls, rg, ex, sr, kd, fc, hr', ct', ra, rd, fs) → wX_newObject_93 post (nI F) (nI s) (d + 1) (nI f) cap rc fl co ls rg ex sr kd fc h c ra rd fs := by
    intro d
    induction d with
    | zero =>
      intro f hf h c h1 h2 h3
      exact ⟨h, c, h1, h2, fun f' g => h3 f' (by omega), fun post hp => br_t (nI_le (by omega) (by omega)) hp⟩
    | succ d ih =>
      intro f hf h c h1 h2 h3
      obtain ⟨hr', ct', j1, j2, j3, j4⟩ := ih (f + 1) (by omega) (upd h (6 * s + f) 0) (upd c (6 * s + f) 0) (kn_Ou h1 (by omega)) (kn_Ou h2 (by omega)) (fun f' g => by
        by_cases y : f' = f
        · subst y; exact ⟨pk_us, pk_us⟩
        · rw [pk_un (by omega), pk_un (by omega)]; exact h3 f' (by omega))
      refine ⟨hr', ct', j1, j2, j3, fun post hp => br_f (nI_ge (by omega) (by omega)) (kb_cell _ _ _ _ _ _ _ _ _ _ _ _ _ _ _ (6 * s + f) (kb_cx s f) (kb_si _ _ _ _ _ _ _ _ _ _ _ _ _ _ _ (by omega) ?_))⟩
      exact nm_r (nI_1 f) (j4 post hp)
  obtain ⟨hr', ct', j1, j2, j3, j4⟩ := L F 0 (by omega) hr ct kn_O0 kn_O0 (fun f' g => by omega)
  exact ⟨hr', ct', j1, j2, j3, fun post hp => ⟨F + 1, j4 post hp⟩⟩
theorem kn_94 (cp sn cl fn : Int32) (so ko fo fd ir re yg la : Nat → Int32) {s : Nat} (hs : s < 96) : ∃ fd' ir', kn_Y s fd fd' ∧ kn_Y s ir ir' ∧ (∀ f, f < 6 → fd' (6 * (s + 1) + f) = 0 ∧ ir' (6 * (s + 1) + f) = 0) ∧
    ∀ post : Int32 → SY → Prop, post (nI (s + 1)) (cp, sn, cl, fn, so, ko, fo, fd', ir', re, yg, la) → ∃ n94, wY_create_94 post (nI (s + 1)) cp sn cl fn n94 (6 * nI (s + 1)) so ko fo fd ir re yg la := by
  have L : ∀ d f, f + d = 6 → ∀ h c, kn_Y s fd h → kn_Y s ir c → (∀ f', f' < f → h (6 * (s + 1) + f') = 0 ∧ c (6 * (s + 1) + f') = 0) →
      ∃ fd' ir', kn_Y s fd fd' ∧ kn_Y s ir ir' ∧ (∀ f, f < 6 → fd' (6 * (s + 1) + f) = 0 ∧ ir' (6 * (s + 1) + f) = 0) ∧
      ∀ post : Int32 → SY → Prop, post (nI (s + 1)) (cp, sn, cl, fn, so, ko, fo, fd', ir', re, yg, la) → wY_create_94 post (nI (s + 1)) cp sn cl fn (d + 1) (nI (6 * (s + 1) + f)) so ko fo h c re yg la := by
    have eb : 6 * nI (s + 1) + 6 = nI (6 * (s + 1) + 6) := kb_cy (s + 1) 6
    intro d
    induction d with
    | zero =>
      intro f hf h c h1 h2 h3
      refine ⟨h, c, h1, h2, fun f' g => h3 f' (by omega), fun post hp => br_t ?_ hp⟩
      rw [eb]
      exact nI_le (by omega) (by omega)
    | succ d ih =>
      intro f hf h c h1 h2 h3
      have ec := nI_clamp (n := 6 * (s + 1) + f) (by omega)
      have hin := vp_in_nI (n := 6 * (s + 1) + f) (N := 582) (by omega) (by omega)
      obtain ⟨fd', ir', j1, j2, j3, j4⟩ := ih (f + 1) (by omega) (upd h (6 * (s + 1) + f) 0) (upd c (6 * (s + 1) + f) 0) (kn_Yu h1 (by omega)) (kn_Yu h2 (by omega)) (fun f' g => by
        by_cases y : f' = f
        · subst y; exact ⟨pk_us, pk_us⟩
        · rw [pk_un (by omega), pk_un (by omega)]; exact h3 f' (by omega))
      refine ⟨fd', ir', j1, j2, j3, fun post hp => br_f ?_ ⟨hin, nm_r (by rw [ec]) ⟨hin, nm_r (by rw [ec, kb_n0]) (nm_r (nI_1 _) (j4 post hp))⟩⟩⟩
      rw [eb]
      exact nI_ge (by omega) (by omega)
  obtain ⟨fd', ir', j1, j2, j3, j4⟩ := L 6 0 (by omega) fd ir kn_Y0 kn_Y0 (fun f' g => by omega)
  refine ⟨fd', ir', j1, j2, j3, fun post hp => ⟨7, ?_⟩⟩
  rw [kb_cy0]
  exact j4 post hp
theorem kn_least (P : Nat → Prop) : ∀ n, P n → ∃ k, k ≤ n ∧ P k ∧ ∀ j, j < k → ¬ P j := by
  intro n
  induction n using Nat.strongRecOn with
  | _ n ih =>
    intro h
    by_cases c : ∃ j, j < n ∧ P j
    · obtain ⟨j, hj, hp⟩ := c
      obtain ⟨k, k1, k2, k3⟩ := ih j hj hp
      exact ⟨k, by omega, k2, k3⟩
    · exact ⟨n, Nat.le_refl n, h, fun j hj hp => c ⟨j, hj, hp⟩⟩
theorem kn_free {post : Int32 → Prop} (cap rc fl co ls : Int32) (rg ex sr kd fc hr ct ra rd fs : Nat → Int32) {s : Nat} (hs : s < 96) (hz : ex s = 0) (hl : ∀ j, j < s → ¬ ex j = 0) (hp : post (nI s)) : wpX_freeSlot post (cap, rc, fl, co, ls, rg, ex, sr, kd, fc, hr, ct, ra, rd, fs) := by
  have L : ∀ d i, i + d = s → wX_freeSlot_2 post cap rc fl co ls rg ex sr kd fc hr ct ra rd fs (d + 1) (nI i) := by
    intro d
    induction d with
    | zero =>
      intro i hi
      obtain rfl : i = s := by omega
      have ec := nI_clamp (n := i) (by omega)
      refine br_f (nI_ge (b := 96) (by omega) (by omega)) ⟨vp_in_nI (by omega) (by omega), ?_⟩
      rw [ec]
      exact br_t hz hp
    | succ d ih =>
      intro i hi
      have ec := nI_clamp (n := i) (by omega)
      refine br_f (nI_ge (b := 96) (by omega) (by omega)) ⟨vp_in_nI (by omega) (by omega), ?_⟩
      rw [ec]
      exact br_f (hl i (by omega)) (nm_r (nI_1 i) (ih (i + 1) (by omega)))
  exact ⟨s + 1, L s 0 (by omega)⟩
theorem kn_39 {post : Int32 → SY → Prop} (cp sn cl fn : Int32) (so ko fo fd ir re yg la : Nat → Int32) {x1 x2 : Int32} {s : Nat} (hs : s < 96) (hz : so (s + 1) = 0) (hl : ∀ j, j < s → ¬ so (j + 1) = 0)
    (hp : ∃ n94, wY_create_94 post (nI (s + 1)) cp (sn + 1) cl fn n94 (6 * nI (s + 1)) (upd so (s + 1) (sn + 1)) (upd ko (s + 1) x2) (upd fo (s + 1) x1) fd ir re yg la) : ∃ n39, wY_create_39 post x1 x2 cp sn cl fn so ko fo fd ir re yg la n39 1 := by
  have L : ∀ d i, i + d = s → wY_create_39 post x1 x2 cp sn cl fn so ko fo fd ir re yg la (d + 1) (nI (i + 1)) := by
    intro d
    induction d with
    | zero =>
      intro i hi
      obtain rfl : i = s := by omega
      have ec := nI_clamp (n := i + 1) (by omega)
      have hin := vp_in_nI (n := i + 1) (N := 97) (by omega) (by omega)
      refine ⟨hin, ?_⟩
      rw [ec]
      exact br_t hz (nm_e ⟨hin, nm_e ⟨hin, nm_e ⟨hin, nm_e (nm_e hp)⟩⟩⟩)
    | succ d ih =>
      intro i hi
      have ec := nI_clamp (n := i + 1) (by omega)
      refine ⟨vp_in_nI (by omega) (by omega), ?_⟩
      rw [ec]
      exact br_f (hl i (by omega)) (nm_r (nI_1 _) (ih (i + 1) (by omega)))
  exact ⟨s + 1, L s 0 (by omega)⟩
/-! the relation over a new object, over a register, over a cell -/
theorem kn_H {rg ex sr kd fc hr ct so ko fo fd ir yg hr2 ct2 fd2 ir2 : Nat → Int32} (H : kr_H rg ex sr kd fc hr ct so ko fo fd ir yg) {s F : Nat} {N K : Int32}
    (hs : s < 96) (hz : ex s = 0) (hN : N ≠ 0) (hF : F ≤ 6) (hK : K = 2 → F = 1 ∧ hr2 (6 * s) = 1)
    (o1 : kn_O s hr hr2) (o2 : kn_O s ct ct2) (o3 : kn_Y s fd fd2) (o4 : kn_Y s ir ir2)
    (hc : ∀ f, f < F → kr_c (fun t => ex t ≠ 0) (hr2 (6 * s + f)) (ct2 (6 * s + f)) (ir2 (6 * (s + 1) + f)) (fd2 (6 * (s + 1) + f))) :
    kr_H rg (upd ex s 1) (upd sr s N) (upd kd s K) (upd fc s (nI F)) hr2 ct2 (upd so (s + 1) N) (upd ko (s + 1) K) (upd fo (s + 1) (nI F)) fd2 ir2 yg := by
  have hx : ∀ t, ex t ≠ 0 → upd ex s 1 t ≠ 0 := by
    intro t h
    by_cases y : t = s
    · subst y; rw [pk_us]; exact kb_10
    · rw [pk_un y]; exact h
  constructor
  · intro r hr
    rcases H.1 r hr with ⟨b, c⟩ | ⟨t, t1, t2, t3, t4⟩
    · exact Or.inl ⟨b, c⟩
    · exact Or.inr ⟨t, t1, t2, t3, hx t t4⟩
  · intro s' hs'
    by_cases y : s' = s
    · subst y
      refine ⟨F, hF, pk_us, pk_us, by rw [pk_us, pk_us], Or.inr pk_us, by rw [pk_us, pk_us, pk_us, if_neg kb_10], fun _ => by rw [pk_us]; exact hN, fun k => by rw [pk_us] at k; exact hK k, fun f hf => ?_⟩
      rcases hc f hf with ⟨a, b, c⟩ | ⟨a, b, ⟨c, d⟩ | ⟨t, t1, t2, t3, t4⟩⟩
      · exact Or.inl ⟨a, b, c⟩
      · exact Or.inr ⟨a, b, Or.inl ⟨c, d⟩⟩
      · exact Or.inr ⟨a, b, Or.inr ⟨t, t1, t2, t3, fun _ => hx t t4⟩⟩
    · obtain ⟨G, hG, e1, e2, e3, e4, e5, e6, e7, hc'⟩ := H.2 s' hs'
      have e0 : hr2 (6 * s') = hr (6 * s') := o1 s' hs' y 0 (by omega)
      unfold kr_s
      rw [pk_un y, pk_un y, pk_un y, pk_un y, pk_un (by omega), pk_un (by omega), pk_un (by omega), e0]
      refine ⟨G, hG, e1, e2, e3, e4, e5, e6, e7, fun f hf => ?_⟩
      rw [o1 s' hs' y f (by omega), o2 s' hs' y f (by omega), o3 s' hs' y f (by omega), o4 s' hs' y f (by omega)]
      rcases hc' f hf with ⟨a, b, c⟩ | ⟨a, b, ⟨c, d⟩ | ⟨t, t1, t2, t3, t4⟩⟩
      · exact Or.inl ⟨a, b, c⟩
      · exact Or.inr ⟨a, b, Or.inl ⟨c, d⟩⟩
      · exact Or.inr ⟨a, b, Or.inr ⟨t, t1, t2, t3, fun g => hx t (t4 g)⟩⟩
theorem kn_R {rg ex sr kd fc hr ct so ko fo fd ir yg : Nat → Int32} (H : kr_H rg ex sr kd fc hr ct so ko fo fd ir yg) {r : Nat} {x y : Int32}
    (h : kr_p (fun t => ex t ≠ 0) x y) : kr_H (upd rg r x) ex sr kd fc hr ct so ko fo fd ir (upd yg r y) := by
  refine ⟨fun r' hr' => ?_, H.2⟩
  by_cases c : r' = r
  · subst c; rw [pk_us, pk_us]; exact h
  · rw [pk_un c, pk_un c]; exact H.1 r' hr'
theorem kn_C {rg ex sr kd fc hr ct so ko fo fd ir yg : Nat → Int32} (H : kr_H rg ex sr kd fc hr ct so ko fo fd ir yg) {s f : Nat} {a b c d : Int32} (hs : s < 96) (hf : f < 6) (hk : kd s ≠ 2)
    (h : kr_c (fun t => ex s ≠ 0 → ex t ≠ 0) a b c d) : kr_H rg ex sr kd fc (upd hr (6 * s + f) a) (upd ct (6 * s + f) b) so ko fo (upd fd (6 * (s + 1) + f) d) (upd ir (6 * (s + 1) + f) c) yg := by
  refine ⟨H.1, fun s' hs' => ?_⟩
  obtain ⟨G, hG, e1, e2, e3, e4, e5, e6, e7, hc'⟩ := H.2 s' hs'
  by_cases y : s' = s
  · subst y
    refine ⟨G, hG, e1, e2, e3, e4, e5, e6, fun k => absurd k hk, fun f' hf' => ?_⟩
    by_cases z : f' = f
    · subst z; rw [pk_us, pk_us, pk_us, pk_us]; exact h
    · rw [pk_un (by omega), pk_un (by omega), pk_un (by omega), pk_un (by omega)]; exact hc' f' hf'
  · refine ⟨G, hG, e1, e2, e3, e4, e5, e6, fun k => ?_, fun f' hf' => ?_⟩
    · rw [pk_un (by omega)]; exact e7 k
    · rw [pk_un (by omega), pk_un (by omega), pk_un (by omega), pk_un (by omega)]; exact hc' f' hf'

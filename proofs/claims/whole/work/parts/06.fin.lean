/-! the least of a set, the run of finalizations -/
def kf_l (D N : Nat → Int32) : Nat → Nat
  | 0 => 0
  | j + 1 => if D j = 0 then kf_l D N j else if kf_l D N j = 0 then j + 1 else if N (kf_l D N j - 1) ≤ N j then kf_l D N j else j + 1
def kf_S (D N : Nat → Int32) (j b : Nat) : Prop :=
  (b = 0 ∧ ∀ i, i < j → D i = 0) ∨ ∃ s, b = s + 1 ∧ s < j ∧ D s ≠ 0 ∧ (∀ i, i < s → D i ≠ 0 → N s < N i) ∧ ∀ i, i < j → D i ≠ 0 → N s ≤ N i
theorem kf_spec (D N : Nat → Int32) : ∀ j, kf_S D N j (kf_l D N j) := by
  intro j
  induction j with
  | zero => exact Or.inl ⟨rfl, fun i hi => by omega⟩
  | succ j ih =>
    unfold kf_l
    by_cases z : D j = 0
    · rw [if_pos z]
      rcases ih with ⟨h1, h2⟩ | ⟨s, h1, h2, h3, h4, h5⟩
      · exact Or.inl ⟨h1, fun i hi => by
          by_cases y : i = j
          · subst y; exact z
          · exact h2 i (by omega)⟩
      · refine Or.inr ⟨s, h1, by omega, h3, h4, fun i hi hd => ?_⟩
        by_cases y : i = j
        · subst y; exact absurd z hd
        · exact h5 i (by omega) hd
    · rw [if_neg z]
      rcases ih with ⟨h1, h2⟩ | ⟨s, h1, h2, h3, h4, h5⟩
      · rw [if_pos h1]
        refine Or.inr ⟨j, rfl, by omega, z, fun i hi hd => absurd (h2 i hi) hd, fun i hi hd => ?_⟩
        by_cases y : i = j
        · subst y; exact Int32.le_refl _
        · exact absurd (h2 i (by omega)) hd
      · rw [if_neg (by omega), h1, Nat.add_sub_cancel]
        by_cases c : N s ≤ N j
        · rw [if_pos c]
          refine Or.inr ⟨s, rfl, by omega, h3, h4, fun i hi hd => ?_⟩
          by_cases y : i = j
          · subst y; exact c
          · exact h5 i (by omega) hd
        · rw [if_neg c]
          have c' : N j < N s := Int32.not_le.mp c
          refine Or.inr ⟨j, rfl, by omega, z, fun i hi hd => ?_, fun i hi hd => ?_⟩
          · have := h5 i hi hd
            rw [Int32.lt_iff_toInt_lt] at *
            rw [Int32.le_iff_toInt_le] at *
            omega
          · by_cases y : i = j
            · subst y; exact Int32.le_refl _
            · have := h5 i (by omega) hd
              rw [Int32.lt_iff_toInt_lt] at *
              rw [Int32.le_iff_toInt_le] at *
              omega
theorem kf_uniq {D N : Nat → Int32} {j b b' : Nat} (h : kf_S D N j b) (g : kf_S D N j b') : b = b' := by
  rcases h with ⟨h1, h2⟩ | ⟨s, h1, h2, h3, h4, h5⟩
  · rcases g with ⟨g1, g2⟩ | ⟨s', g1, g2, g3, g4, g5⟩
    · rw [h1, g1]
    · exact absurd (h2 s' g2) g3
  · rcases g with ⟨g1, g2⟩ | ⟨s', g1, g2, g3, g4, g5⟩
    · exact absurd (g2 s h2) h3
    · rw [h1, g1]
      rcases Nat.lt_trichotomy s s' with y | y | y
      · have a := g4 s y h3
        have b := h5 s' g2 g3
        rw [Int32.lt_iff_toInt_lt] at a
        rw [Int32.le_iff_toInt_le] at b
        omega
      · rw [y]
      · have a := h4 s' y g3
        have b := g5 s h2 h3
        rw [Int32.lt_iff_toInt_lt] at a
        rw [Int32.le_iff_toInt_le] at b
        omega
def kf_run (N : Nat → Int32) : Nat → (Nat → Int32) → Int32 → (Nat → Int32) → Int32 × (Nat → Int32)
  | 0, _, l, a => (l, a)
  | n + 1, D, l, a => if kf_l D N 96 = 0 then (l, a) else kf_run N n (upd D (kf_l D N 96 - 1) 0) (l + 1) (upd a (l &&& 15).toNatClampNeg (N (kf_l D N 96 - 1)))
theorem kf_run0 {N D a : Nat → Int32} {l : Int32} (h : kf_l D N 96 = 0) : ∀ n, kf_run N n D l a = (l, a) := by
  intro n
  cases n with
  | zero => rfl
  | succ n => unfold kf_run; rw [if_pos h]
theorem kf_run1 {N D a : Nat → Int32} {l : Int32} {s n : Nat} (h : kf_l D N 96 = s + 1) : kf_run N (n + 1) D l a = kf_run N n (upd D s 0) (l + 1) (upd a (l &&& 15).toNatClampNeg (N s)) := by
  show (if kf_l D N 96 = 0 then (l, a) else kf_run N n (upd D (kf_l D N 96 - 1) 0) (l + 1) (upd a (l &&& 15).toNatClampNeg (N (kf_l D N 96 - 1)))) = _
  rw [h, if_neg (by omega), Nat.add_sub_cancel]
theorem kf_15 (l : Int32) : vp_in (l &&& 15) 16 := pk_andIn l 4 (by decide) (by decide)
theorem kc_dn {a : Nat → Int32} {s : Nat} (hz : ¬ a s = 0) : ∀ j, s < j → kc_n (upd a s 0) j + 1 = kc_n a j := by
  intro j hj
  have e : upd (upd a s 0) s (a s) = a := by
    funext i
    by_cases y : i = s
    · subst y; rw [pk_us]
    · rw [pk_un y, pk_un y]
  have h := kc_up (a := upd a s 0) (s := s) (x := a s) pk_us hz j hj
  rw [e] at h
  omega
/-! the component -/
def kf_D (ex ra kd : Nat → Int32) : Nat → Int32 := fun s => if ex s ≠ 0 ∧ ra s = 0 ∧ kd s = 1 then 1 else 0
def kf_c : Nat → Int32
  | 0 => -1
  | s + 1 => nI s
theorem kf_42 {post : Int32 → Prop} {J : Int32 → Int32 → Prop} {x : Int32} {i : Nat} (cap rc fl co ls : Int32) (rg ex sr kd fc hr ct ra rd fs : Nat → Int32) (h : J x (nI (i + 1))) : wX_firstMadeToFinalize_42 post J x (nI i) cap rc fl co ls rg ex sr kd fc hr ct ra rd fs := by
  unfold wX_firstMadeToFinalize_42 wX_firstMadeToFinalize_43
  exact br_t rfl (nm_r (nI_1 i) h)
theorem kf_x {post : Int32 → Prop} (cap rc fl co ls : Int32) (rg ex sr kd fc hr ct ra rd fs : Nat → Int32) (hp : post (kf_c (kf_l (kf_D ex ra kd) sr 96))) : wpX_firstMadeToFinalize post (cap, rc, fl, co, ls, rg, ex, sr, kd, fc, hr, ct, ra, rd, fs) := by
  have L : ∀ d i, i + d = 96 → wX_firstMadeToFinalize_4 post cap rc fl co ls rg ex sr kd fc hr ct ra rd fs (d + 1) (kf_c (kf_l (kf_D ex ra kd) sr i)) (nI i) := by
    intro d
    induction d with
    | zero => intro i hi; obtain rfl : i = 96 := by omega
              exact br_t (nI_le (a := 96) (b := 96) (by omega) (by omega)) hp
    | succ d ih =>
      intro i hi
      have ec := nI_clamp (n := i) (by omega)
      have hin := vp_in_nI (n := i) (N := 96) (by omega) (by omega)
      have hs := ih (i + 1) (by omega)
      refine br_f (nI_ge (b := 96) (by omega) (by omega)) ⟨hin, ?_⟩
      rw [ec]
      by_cases D : kf_D ex ra kd i = 0
      · have e : kf_l (kf_D ex ra kd) sr (i + 1) = kf_l (kf_D ex ra kd) sr i := by
          show (if kf_D ex ra kd i = 0 then _ else _) = _
          rw [if_pos D]
        rw [e] at hs
        have hs2 := kf_42 (post := post) cap rc fl co ls rg ex sr kd fc hr ct ra rd fs hs
        by_cases z : ex i = 0
        · exact br_t z hs2
        · refine br_f z ⟨hin, ?_⟩
          by_cases y : ra i = 0
          · refine br_t y ⟨hin, br_f (fun k => ?_) hs2⟩
            unfold kf_D at D
            rw [if_pos ⟨z, y, k⟩] at D
            exact kb_10 D
          · exact br_f y hs2
      · have D' : ex i ≠ 0 ∧ ra i = 0 ∧ kd i = 1 := by
          unfold kf_D at D
          by_cases c : ex i ≠ 0 ∧ ra i = 0 ∧ kd i = 1
          · exact c
          · rw [if_neg c] at D; exact absurd rfl D
        have e : kf_l (kf_D ex ra kd) sr (i + 1) = if kf_l (kf_D ex ra kd) sr i = 0 then i + 1 else if sr (kf_l (kf_D ex ra kd) sr i - 1) ≤ sr i then kf_l (kf_D ex ra kd) sr i else i + 1 := by
          show (if kf_D ex ra kd i = 0 then _ else _) = _
          rw [if_neg D]
        rw [e] at hs
        refine br_f D'.1 ⟨hin, br_t D'.2.1 ⟨hin, br_t D'.2.2 ?_⟩⟩
        unfold wX_firstMadeToFinalize_43
        refine br_f kb_10 ?_
        rcases kf_spec (kf_D ex ra kd) sr i with ⟨h1, h2⟩ | ⟨s, h1, h2, h3, h4, h5⟩
        · rw [h1] at hs ⊢
          rw [if_pos rfl] at hs
          exact br_t rfl (nm_r (nI_1 i) hs)
        · rw [h1] at hs ⊢
          rw [if_neg (by omega), Nat.add_sub_cancel] at hs
          have es := nI_clamp (n := s) (by omega)
          refine br_f (kb_m1 (a := s) (by omega)) ⟨hin, vp_in_nI (n := s) (by omega) (by omega), ?_⟩
          rw [show kf_c (s + 1) = nI s from rfl, es, ec]
          by_cases c : sr s ≤ sr i
          · rw [if_pos c] at hs
            exact br_t c (nm_r (nI_1 i) hs)
          · rw [if_neg c] at hs
            exact br_f c (nm_r (nI_1 i) hs)
  exact ⟨97, L 96 0 rfl⟩
theorem kf_rec (cap rc fl co ls : Int32) (rg ex sr kd fc hr ct ra rd fs : Nat → Int32) : ∃ ex', ∀ post : SX → Prop, post (cap, rc, (kf_run sr 96 (kf_D ex ra kd) fl fs).1, co, ls, rg, ex', sr, kd, fc, hr, ct, ra, rd, (kf_run sr 96 (kf_D ex ra kd) fl fs).2) → wpX_recordFinalized post (cap, rc, fl, co, ls, rg, ex, sr, kd, fc, hr, ct, ra, rd, fs) := by
  have L : ∀ d i, i + d = 96 → ∀ ex fl fs, ∃ ex', ∀ post : SX → Prop, post (cap, rc, (kf_run sr d (kf_D ex ra kd) fl fs).1, co, ls, rg, ex', sr, kd, fc, hr, ct, ra, rd, (kf_run sr d (kf_D ex ra kd) fl fs).2) →
      wX_recordFinalized_2 post cap rc co ls (d + 1) (nI i) fl rg ex sr kd fc hr ct ra rd fs := by
    intro d
    induction d with
    | zero => intro i hi ex fl fs
              exact ⟨ex, fun post h => br_t (nI_le (a := 96) (by omega) (by omega)) h⟩
    | succ d ih =>
      intro i hi ex fl fs
      have hg := nI_ge (a := i) (b := 96) (by omega) (by omega)
      rcases kf_spec (kf_D ex ra kd) sr 96 with ⟨h1, h2⟩ | ⟨s, h1, h2, h3, h4, h5⟩
      · refine ⟨ex, fun post h => br_f hg (kf_x cap rc fl co ls rg ex sr kd fc hr ct ra rd fs ?_)⟩
        rw [h1]
        rw [kf_run0 h1] at h
        exact br_t rfl h
      · have es := nI_clamp (n := s) (by omega)
        have hin := vp_in_nI (n := s) (N := 96) (by omega) (by omega)
        have eD : kf_D (upd ex s 0) ra kd = upd (kf_D ex ra kd) s 0 := by
          funext j
          by_cases y : j = s
          · subst y
            rw [pk_us]
            unfold kf_D
            rw [if_neg (fun c => c.1 pk_us)]
          · rw [pk_un y]
            unfold kf_D
            rw [pk_un y]
        obtain ⟨ex', h⟩ := ih (i + 1) (by omega) (upd ex s 0) (fl + 1) (upd fs (fl &&& 15).toNatClampNeg (sr s))
        rw [eD] at h
        refine ⟨ex', fun post hp => br_f hg (kf_x cap rc fl co ls rg ex sr kd fc hr ct ra rd fs ?_)⟩
        rw [kf_run1 h1] at hp
        rw [h1]
        have hf := h post hp
        refine br_f (kb_m1 (a := s) (by omega)) ⟨hin, nm_r (e' := upd ex s 0) ?_ ⟨hin, kf_15 fl, nm_r (e' := upd fs (fl &&& 15).toNatClampNeg (sr s)) ?_ (nm_e (nm_r (nI_1 i) hf))⟩⟩
        · show upd ex (nI s).toNatClampNeg (vp_nar .boolean 0) = _
          rw [es, kb_n0]
        · show upd fs (fl &&& 15).toNatClampNeg (sr (nI s).toNatClampNeg) = _
          rw [es]
  obtain ⟨ex', h⟩ := L 96 0 rfl ex fl fs
  exact ⟨ex', fun post hp => ⟨97, h post hp⟩⟩
theorem kf_rem (cap rc fl co ls : Int32) (rg ex sr kd fc hr ct ra rd fs : Nat → Int32) (hb : ∀ s, s < 96 → ra s = 0 ∨ ra s = 1) : ∃ ex', (∀ s, s < 96 → ex' s = ra s) ∧ ∀ post : SX → Prop, post (cap, rc, fl, co, ls, rg, ex', sr, kd, fc, hr, ct, ra, rd, fs) → wpX_removeUnreachable post (cap, rc, fl, co, ls, rg, ex, sr, kd, fc, hr, ct, ra, rd, fs) := by
  have L : ∀ d i, i + d = 96 → ∀ ex, (∀ s, s < i → ex s = ra s) → ∃ ex', (∀ s, s < 96 → ex' s = ra s) ∧ ∀ post : SX → Prop, post (cap, rc, fl, co, ls, rg, ex', sr, kd, fc, hr, ct, ra, rd, fs) → wX_removeUnreachable_2 post cap rc fl co ls (d + 1) (nI i) rg ex sr kd fc hr ct ra rd fs := by
    intro d
    induction d with
    | zero => intro i hi ex h
              exact ⟨ex, fun s hs => h s (by omega), fun post h => br_t (nI_le (a := 96) (by omega) (by omega)) h⟩
    | succ d ih =>
      intro i hi ex h
      have ec := nI_clamp (n := i) (by omega)
      have hin := vp_in_nI (n := i) (N := 96) (by omega) (by omega)
      obtain ⟨ex', h1, h2⟩ := ih (i + 1) (by omega) (upd ex i (ra i)) (fun s hs => by
        by_cases y : s = i
        · subst y; exact pk_us
        · rw [pk_un y]; exact h s (by omega))
      exact ⟨ex', h1, fun post hp => br_f (nI_ge (b := 96) (by omega) (by omega)) ⟨hin, hin, nm_r (by rw [ec, kb_nar (hb i (by omega))]) (nm_r (nI_1 i) (h2 post hp))⟩⟩
  obtain ⟨ex', h1, h2⟩ := L 96 0 rfl ex (fun s hs => by omega)
  exact ⟨ex', h1, fun post hp => ⟨97, h2 post hp⟩⟩
/-! the reference -/
def kf_E (so re : Nat → Int32) : Nat → Int32 := fun s => if so (s + 1) ≠ 0 ∧ re (s + 1) = 0 then 1 else 0
theorem kf_E1 {so re : Nat → Int32} {s : Nat} : kf_E so re s ≠ 0 ↔ so (s + 1) ≠ 0 ∧ re (s + 1) = 0 := by
  unfold kf_E
  by_cases c : so (s + 1) ≠ 0 ∧ re (s + 1) = 0
  · rw [if_pos c]; exact ⟨fun _ => c, fun _ => kb_10⟩
  · rw [if_neg c]; exact ⟨fun h => absurd rfl h, fun h => absurd h c⟩
theorem kf_y {post : Int32 → Prop} (cp sn cl fn : Int32) (so ko fo fd ir re yg la : Nat → Int32) (hp : post (nI (kf_l (kf_E so re) (fun s => so (s + 1)) 96))) : wpY_leastDead post (cp, sn, cl, fn, so, ko, fo, fd, ir, re, yg, la) := by
  have L : ∀ d i, i + d = 96 → wY_leastDead_4 post cp sn cl fn so ko fo fd ir re yg la (d + 1) (nI (kf_l (kf_E so re) (fun s => so (s + 1)) i)) (nI (i + 1)) := by
    intro d
    induction d with
    | zero => intro i hi; obtain rfl : i = 96 := by omega
              exact br_t (nI_le (a := 97) (b := 97) (by omega) (by omega)) hp
    | succ d ih =>
      intro i hi
      have ec := nI_clamp (n := i + 1) (by omega)
      have hin := vp_in_nI (n := i + 1) (N := 97) (by omega) (by omega)
      have hs := ih (i + 1) (by omega)
      refine br_f (nI_ge (b := 97) (by omega) (by omega)) ⟨hin, ?_⟩
      rw [ec]
      by_cases D : kf_E so re i = 0
      · have e : kf_l (kf_E so re) (fun s => so (s + 1)) (i + 1) = kf_l (kf_E so re) (fun s => so (s + 1)) i := by
          show (if kf_E so re i = 0 then _ else _) = _
          rw [if_pos D]
        rw [e] at hs
        by_cases z : so (i + 1) = 0
        · exact br_t z (nm_r (nI_1 _) hs)
        · refine br_f z ⟨hin, br_f (fun y => ?_) (nm_r (nI_1 _) hs)⟩
          exact kf_E1.mpr ⟨z, y⟩ D
      · have D' := kf_E1.mp D
        have e : kf_l (kf_E so re) (fun s => so (s + 1)) (i + 1) = if kf_l (kf_E so re) (fun s => so (s + 1)) i = 0 then i + 1 else if so (kf_l (kf_E so re) (fun s => so (s + 1)) i - 1 + 1) ≤ so (i + 1) then kf_l (kf_E so re) (fun s => so (s + 1)) i else i + 1 := by
          show (if kf_E so re i = 0 then _ else _) = _
          rw [if_neg D]
        rw [e] at hs
        refine br_f D'.1 ⟨hin, br_t D'.2 ?_⟩
        rcases kf_spec (kf_E so re) (fun s => so (s + 1)) i with ⟨h1, h2⟩ | ⟨s, h1, h2, h3, h4, h5⟩
        · rw [h1] at hs ⊢
          rw [if_pos rfl] at hs
          exact br_t rfl (nm_r (nI_1 _) hs)
        · rw [h1] at hs ⊢
          rw [if_neg (by omega), Nat.add_sub_cancel] at hs
          have es := nI_clamp (n := s + 1) (by omega)
          refine br_f (nI_ne0 (n := s + 1) (by omega) (by omega)) ⟨hin, vp_in_nI (n := s + 1) (by omega) (by omega), ?_⟩
          rw [es]
          by_cases c : so (s + 1) ≤ so (i + 1)
          · rw [if_pos c] at hs
            exact br_t c (nm_r (nI_1 _) hs)
          · rw [if_neg c] at hs
            exact br_f c (nm_r (nI_1 _) hs)
  exact ⟨97, L 96 0 rfl⟩
theorem kf_80 (sr kd : Nat → Int32) (cp sn cl fn : Int32) (so ko fo fd ir re yg la : Nat → Int32) (x1 : Int32) (hk : ∀ s, s < 96 → ko (s + 1) = kd s) : ∀ m so D fn la n, kc_n (fun s => so (s + 1)) 96 ≤ m → kc_n D 96 ≤ n →
    (∀ s, s < 96 → (D s ≠ 0 ↔ kf_E so re s ≠ 0 ∧ kd s = 1)) → (∀ s, s < 96 → so (s + 1) ≠ 0 → so (s + 1) = sr s) →
    ∃ so', (∀ s, s < 96 → so' (s + 1) = if re (s + 1) = 0 then 0 else so (s + 1)) ∧ ∀ post : Int32 → SY → Prop,
      post x1 (cp, sn, cl, (kf_run sr n D fn la).1, so', ko, fo, fd, ir, re, yg, (kf_run sr n D fn la).2) → ∃ n80, wY_collect_80 post x1 cp sn cl n80 (nI (kf_l (kf_E so re) (fun s => so (s + 1)) 96)) fn so ko fo fd ir re yg la := by
  intro m
  induction m with
  | zero =>
    intro so D fn la n hm hn hD hs
    have hz : ∀ s, s < 96 → so (s + 1) = 0 := by
      intro s h
      by_cases z : so (s + 1) = 0
      · exact z
      · have := kc_dn (a := fun s => so (s + 1)) z 96 h
        omega
    have hl : kf_l D sr 96 = 0 := kf_uniq (kf_spec D sr 96) (Or.inl ⟨rfl, fun i hi => by
      by_cases z : D i = 0
      · exact z
      · exact absurd (hz i hi) (kf_E1.mp ((hD i hi).mp z).1).1⟩)
    have hl2 : kf_l (kf_E so re) (fun s => so (s + 1)) 96 = 0 := kf_uniq (kf_spec _ _ 96) (Or.inl ⟨rfl, fun i hi => by
      by_cases z : kf_E so re i = 0
      · exact z
      · exact absurd (hz i hi) (kf_E1.mp z).1⟩)
    refine ⟨so, fun s h => ?_, fun post hp => ⟨1, ?_⟩⟩
    · rw [hz s h]
      by_cases z : re (s + 1) = 0
      · rw [if_pos z]
      · rw [if_neg z]
    · rw [hl2]
      rw [kf_run0 hl] at hp
      exact br_t (nI_le (a := 0) (b := 0) (by omega) (by omega)) hp
  | succ m ih =>
    intro so D fn la n hm hn hD hs
    rcases kf_spec (kf_E so re) (fun s => so (s + 1)) 96 with ⟨h1, h2⟩ | ⟨s, h1, h2, h3, h4, h5⟩
    · have hl : kf_l D sr 96 = 0 := kf_uniq (kf_spec D sr 96) (Or.inl ⟨rfl, fun i hi => by
        by_cases z : D i = 0
        · exact z
        · exact absurd (h2 i hi) ((hD i hi).mp z).1⟩)
      refine ⟨so, fun s h => ?_, fun post hp => ⟨1, ?_⟩⟩
      · by_cases z : re (s + 1) = 0
        · rw [if_pos z]
          by_cases y : so (s + 1) = 0
          · exact y
          · exact absurd (h2 s h) (kf_E1.mpr ⟨y, z⟩)
        · rw [if_neg z]
      · rw [h1]
        rw [kf_run0 hl] at hp
        exact br_t (nI_le (a := 0) (b := 0) (by omega) (by omega)) hp
    · have ec := nI_clamp (n := s + 1) (by omega)
      have hin := vp_in_nI (n := s + 1) (N := 97) (by omega) (by omega)
      have h3' := kf_E1.mp h3
      have eS : (fun i => upd so (s + 1) 0 (i + 1)) = upd (fun i => so (i + 1)) s 0 := by
        funext i
        by_cases y : i = s
        · subst y; rw [pk_us, pk_us]
        · rw [pk_un y, pk_un (by omega)]
      have hm' : kc_n (fun i => upd so (s + 1) 0 (i + 1)) 96 ≤ m := by
        rw [eS]
        have := kc_dn (a := fun i => so (i + 1)) h3'.1 96 h2
        omega
      have hE : ∀ i, i < 96 → (kf_E (upd so (s + 1) 0) re i ≠ 0 ↔ kf_E so re i ≠ 0 ∧ i ≠ s) := by
        intro i hi
        rw [kf_E1, kf_E1]
        by_cases y : i = s
        · subst y
          rw [pk_us]
          exact ⟨fun h => absurd rfl h.1, fun h => absurd rfl h.2⟩
        · rw [pk_un (by omega)]
          exact ⟨fun h => ⟨h, y⟩, fun h => h.1⟩
      have hs' : ∀ i, i < 96 → upd so (s + 1) 0 (i + 1) ≠ 0 → upd so (s + 1) 0 (i + 1) = sr i := by
        intro i hi h
        by_cases y : i = s
        · subst y; rw [pk_us] at h; exact absurd rfl h
        · rw [pk_un (by omega)] at h ⊢; exact hs i hi h
      have hso : ∀ so' : Nat → Int32, (∀ i, i < 96 → so' (i + 1) = if re (i + 1) = 0 then 0 else upd so (s + 1) 0 (i + 1)) → ∀ i, i < 96 → so' (i + 1) = if re (i + 1) = 0 then 0 else so (i + 1) := by
        intro so' h i hi
        rw [h i hi]
        by_cases y : i = s
        · subst y; rw [if_pos h3'.2, if_pos h3'.2]
        · rw [pk_un (by omega)]
      by_cases k1 : kd s = 1
      · have hDs : D s ≠ 0 := (hD s h2).mpr ⟨h3, k1⟩
        have hl : kf_l D sr 96 = s + 1 := kf_uniq (kf_spec D sr 96) (Or.inr ⟨s, rfl, h2, hDs, fun i hi hd => by
            have g := ((hD i (by omega)).mp hd).1
            have := h4 i hi g
            rw [← hs s h2 h3'.1, ← hs i (by omega) (kf_E1.mp g).1]
            exact this, fun i hi hd => by
            have g := ((hD i (by omega)).mp hd).1
            have := h5 i hi g
            rw [← hs s h2 h3'.1, ← hs i (by omega) (kf_E1.mp g).1]
            exact this⟩)
        have hdn := kc_dn (a := D) hDs 96 h2
        obtain ⟨n', rfl⟩ : ∃ n', n = n' + 1 := ⟨n - 1, by omega⟩
        obtain ⟨so', j1, j2⟩ := ih (upd so (s + 1) 0) (upd D s 0) (fn + 1) (upd la (fn &&& 15).toNatClampNeg (sr s)) n' hm' (by omega) (fun i hi => by
          rw [hE i hi]
          by_cases y : i = s
          · subst y
            rw [pk_us]
            exact ⟨fun h => absurd rfl h, fun h => absurd rfl h.1.2⟩
          · rw [pk_un y, hD i hi]
            exact ⟨fun h => ⟨⟨h.1, y⟩, h.2⟩, fun h => ⟨h.1.1, h.2⟩⟩) hs'
        refine ⟨so', hso so' j1, fun post hp => ?_⟩
        rw [kf_run1 hl] at hp
        obtain ⟨n80, w⟩ := j2 post hp
        refine ⟨n80 + 1, ?_⟩
        rw [h1]
        refine br_f (nI_nle (by omega) (by omega)) ⟨hin, ?_⟩
        rw [ec]
        refine br_t ((hk s h2).trans k1) ⟨hin, kf_15 fn, nm_r (by rw [hs s h2 h3'.1]) (nm_e ?_)⟩
        unfold wY_collect_122
        refine ⟨hin, nm_r (by rw [ec]) ?_⟩
        exact kf_y _ _ _ _ _ _ _ _ _ _ _ _ w
      · have hDs : D s = 0 := by
          by_cases z : D s = 0
          · exact z
          · exact absurd ((hD s h2).mp z).2 k1
        obtain ⟨so', j1, j2⟩ := ih (upd so (s + 1) 0) D fn la n hm' hn (fun i hi => by
          rw [hE i hi]
          by_cases y : i = s
          · subst y
            exact ⟨fun h => absurd hDs h, fun h => absurd rfl h.1.2⟩
          · rw [hD i hi]
            exact ⟨fun h => ⟨⟨h.1, y⟩, h.2⟩, fun h => ⟨h.1.1, h.2⟩⟩) hs'
        refine ⟨so', hso so' j1, fun post hp => ?_⟩
        obtain ⟨n80, w⟩ := j2 post hp
        refine ⟨n80 + 1, ?_⟩
        rw [h1]
        refine br_f (nI_nle (by omega) (by omega)) ⟨hin, ?_⟩
        rw [ec]
        refine br_f (by rw [hk s h2]; exact k1) ?_
        unfold wY_collect_122
        refine ⟨hin, nm_r (by rw [ec]) ?_⟩
        exact kf_y _ _ _ _ _ _ _ _ _ _ _ _ w

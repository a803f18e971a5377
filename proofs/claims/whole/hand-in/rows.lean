section
theorem pk_us {f : Nat → Int32} {k : Nat} {x : Int32} : upd f k x k = x := if_pos rfl
theorem pk_un {f : Nat → Int32} {k j : Nat} {x : Int32} (h : j ≠ k) : upd f k x j = f j := if_neg h
theorem pk_sub {a b : Nat} (h : b ≤ a) : nI a - nI b = nI (a - b) := by
  obtain ⟨c, rfl⟩ : ∃ c, a = c + b := ⟨a - b, by omega⟩
  rw [← nI_add, Int32.add_sub_cancel, Nat.add_sub_cancel]
theorem pk_m1 (n : Nat) : nI (n + 1) + (-1) = nI n := by
  rw [← nI_1, Int32.add_assoc, show (1 : Int32) + (-1) = 0 from rfl, Int32.add_zero]
theorem pk_mul (a b : Nat) : nI a * nI b = nI (a * b) := (Int32.ofNat_mul a b).symm
theorem pk_ix (x : Int32) {n : Nat} (hn : n < 2 ^ 31) : x < 0 ∨ nI n ≤ x ∨ ∃ j : Nat, j < n ∧ x = nI j := by
  by_cases h : x < 0
  · exact Or.inl h
  · obtain ⟨j, hj, rfl⟩ := nI_of h
    by_cases h2 : j < n
    · exact Or.inr (Or.inr ⟨j, h2, rfl⟩)
    · exact Or.inr (Or.inl (nI_le (by omega) hj))
theorem pk_le {x y : Int32} {A B : Prop} (a b : Nat) (f : a ≤ b → A) (g : b < a → B) (hx : x = nI a := by rfl) (hy : y = nI b := by rfl) (ha : a < 2 ^ 31 := by omega) (hb : b < 2 ^ 31 := by omega) : (x ≤ y → A) ∧ (¬ x ≤ y → B) := by
  subst hx hy
  rw [nI_leI ha hb]
  exact ⟨f, fun z => g (by omega)⟩
theorem pk_lt {x y : Int32} {A B : Prop} (a b : Nat) (f : a < b → A) (g : b ≤ a → B) (hx : x = nI a := by rfl) (hy : y = nI b := by rfl) (ha : a < 2 ^ 31 := by omega) (hb : b < 2 ^ 31 := by omega) : (x < y → A) ∧ (¬ x < y → B) := by
  subst hx hy
  rw [nI_ltI ha hb]
  exact ⟨f, fun z => g (by omega)⟩
theorem pk_eq {x y : Int32} {A B : Prop} (a b : Nat) (f : a = b → A) (g : a ≠ b → B) (hx : x = nI a := by rfl) (hy : y = nI b := by rfl) (ha : a < 2 ^ 31 := by omega) (hb : b < 2 ^ 31 := by omega) : (x = y → A) ∧ (¬ x = y → B) := by
  subst hx hy
  rw [nI_eq ha hb]
  exact ⟨f, g⟩
theorem pk_in {x : Int32} (n N : Nat) (h : n < N) (hx : x = nI n := by rfl) (hN : N < 2 ^ 31 := by omega) : vp_in x N := by
  subst hx
  exact vp_in_nI h hN
theorem pk_cl {x : Int32} (n : Nat) (hx : x = nI n := by rfl) (h : n < 2 ^ 31 := by omega) : x.toNatClampNeg = n := by
  subst hx
  exact nI_clamp h
theorem pk_tn {n : Nat} (h : n < 2 ^ 32) : (nI n).toBitVec.toNat = n := Nat.mod_eq_of_lt h
theorem pk_and (x : Int32) {m : Int32} (k : Nat) (hm : m.toBitVec.toNat = 2 ^ k - 1) : x &&& m = nI (x.toBitVec.toNat % 2 ^ k) := by
  apply Int32.toBitVec_inj.mp
  apply BitVec.eq_of_toNat_eq
  rw [Int32.toBitVec_and, BitVec.toNat_and, hm, Nat.and_two_pow_sub_one_eq_mod]
  show _ = (BitVec.ofNat 32 _).toNat
  rw [BitVec.toNat_ofNat]
  exact (Nat.mod_eq_of_lt (Nat.lt_of_le_of_lt (Nat.mod_le _ _) x.toBitVec.isLt)).symm
theorem pk_andE (x : Int32) {m : Int32} (k : Nat) (hm : m.toBitVec.toNat = 2 ^ k - 1) : ∃ j : Nat, j < 2 ^ k ∧ x &&& m = nI j := ⟨_, Nat.mod_lt _ (Nat.two_pow_pos k), pk_and x k hm⟩
theorem pk_andIn (x : Int32) {m : Int32} (k : Nat) (hm : m.toBitVec.toNat = 2 ^ k - 1) (hk : k ≤ 30) : vp_in (x &&& m) (2 ^ k) := by
  obtain ⟨j, hj, e⟩ := pk_andE x k hm
  rw [e]
  exact vp_in_nI hj (Nat.lt_of_le_of_lt (Nat.pow_le_pow_right (by decide) hk) (by decide))
theorem kb_n1 : vp_nar .boolean 1 = 1 := by decide
theorem kb_n0 : vp_nar .boolean 0 = 0 := by decide
theorem kb_nar {x : Int32} (h : x = 0 ∨ x = 1) : vp_nar .boolean x = x := by
  rcases h with h | h <;> subst h <;> decide
theorem kb_narrow {x : Int32} (h : x = 0 ∨ x = 1) : narrow .boolean (.int x) = .int x := by
  rcases h with h | h <;> subst h <;> rfl
theorem kb_m1 {a : Nat} (h : a < 2 ^ 31) : ¬ nI a = -1 := by
  intro e
  have e2 := congrArg Int32.toInt e
  rw [nI_toInt h, show (-1 : Int32).toInt = -1 from by decide] at e2
  omega
theorem kb_ne {a b : Nat} (h : a ≠ b) (ha : a < 2 ^ 31) (hb : b < 2 ^ 31) : ¬ nI a = nI b := fun e => h ((nI_eq ha hb).mp e)
theorem kb_inj {a b : Nat} (e : nI a = nI b) (ha : a < 2 ^ 31) (hb : b < 2 ^ 31) : a = b := (nI_eq ha hb).mp e
theorem kb_cx (s f : Nat) : nI s * 6 + nI f = nI (6 * s + f) := by
  rw [show (6 : Int32) = nI 6 from rfl, pk_mul, nI_add, Nat.mul_comm]
theorem kb_cx0 (s : Nat) : nI s * 6 + 0 = nI (6 * s) := kb_cx s 0
theorem kb_cy (s f : Nat) : 6 * nI s + nI f = nI (6 * s + f) := by
  rw [show (6 : Int32) = nI 6 from rfl, pk_mul, nI_add]
theorem kb_cy0 (s : Nat) : 6 * nI s = nI (6 * s) := by
  rw [show (6 : Int32) = nI 6 from rfl, pk_mul]
theorem kb_10 : ¬ (1 : Int32) = 0 := by decide
/-! sums of words, counts -/
def kb_sum (e c : Nat → Int32) : Nat → Int32
  | 0 => 0
  | j + 1 => if e j = 0 then kb_sum e c j else kb_sum e c j + (1 + c j)
theorem kb_sum_c {e c e' c' : Nat → Int32} : ∀ j, (∀ s, s < j → (e s = 0 ↔ e' s = 0) ∧ c s = c' s) → kb_sum e c j = kb_sum e' c' j := by
  intro j
  induction j with
  | zero => intro _; rfl
  | succ j ih =>
    intro h
    have h1 := ih (fun s hs => h s (by omega))
    have h2 := h j (by omega)
    unfold kb_sum
    rw [h1, h2.2]
    by_cases z : e j = 0
    · rw [if_pos z, if_pos (h2.1.mp z)]
    · rw [if_neg z, if_neg (fun y => z (h2.1.mpr y))]
theorem kb_sum_n {e c : Nat → Int32} : ∀ j, (∀ s, s < j → ∃ F, F ≤ 6 ∧ c s = nI F) → ∃ w, w ≤ 7 * j ∧ kb_sum e c j = nI w ∧ ((∀ s, s < j → e s ≠ 0) → j ≤ w) := by
  intro j
  induction j with
  | zero => intro _; exact ⟨0, by omega, rfl, fun _ => by omega⟩
  | succ j ih =>
    intro h
    obtain ⟨w, hw, e1, h1⟩ := ih (fun s hs => h s (by omega))
    obtain ⟨F, hF, e2⟩ := h j (by omega)
    unfold kb_sum
    by_cases z : e j = 0
    · rw [if_pos z, e1]
      exact ⟨w, by omega, rfl, fun y => absurd z (y j (by omega))⟩
    · rw [if_neg z, e1, e2, show (1 : Int32) = nI 1 from rfl, nI_add, nI_add]
      exact ⟨w + (1 + F), by omega, rfl, fun y => by have := h1 (fun s hs => y s (by omega)); omega⟩
def kc_n (a : Nat → Int32) : Nat → Nat
  | 0 => 0
  | j + 1 => if a j = 0 then kc_n a j else kc_n a j + 1
theorem kc_le (a : Nat → Int32) : ∀ j, kc_n a j ≤ j := by
  intro j
  induction j with
  | zero => exact Nat.le_refl 0
  | succ j ih =>
    unfold kc_n
    by_cases z : a j = 0
    · rw [if_pos z]; omega
    · rw [if_neg z]; omega
theorem kc_lt {a : Nat → Int32} {s : Nat} (hz : a s = 0) : ∀ j, s < j → kc_n a j < j := by
  intro j
  induction j with
  | zero => intro h; omega
  | succ j ih =>
    intro h
    unfold kc_n
    have hl := kc_le a j
    by_cases z : a j = 0
    · rw [if_pos z]; omega
    · rw [if_neg z]
      have : s < j := by
        rcases Nat.lt_or_ge s j with h1 | h1
        · exact h1
        · exact absurd (by rw [show j = s by omega]; exact hz) z
      have := ih this
      omega
theorem kc_up0 {a : Nat → Int32} {s : Nat} {x : Int32} : ∀ j, j ≤ s → kc_n (upd a s x) j = kc_n a j := by
  intro j
  induction j with
  | zero => intro _; rfl
  | succ j ih =>
    intro h
    unfold kc_n
    rw [ih (by omega), pk_un (by omega)]
theorem kc_up {a : Nat → Int32} {s : Nat} {x : Int32} (hz : a s = 0) (hx : ¬ x = 0) : ∀ j, s < j → kc_n (upd a s x) j = kc_n a j + 1 := by
  intro j
  induction j with
  | zero => intro h; omega
  | succ j ih =>
    intro h
    unfold kc_n
    by_cases e : j = s
    · subst e
      rw [pk_us, if_neg hx, if_pos hz, kc_up0 _ (Nat.le_refl _)]
    · rw [pk_un e, ih (by omega)]
      by_cases z : a j = 0
      · rw [if_pos z, if_pos z]
      · rw [if_neg z, if_neg z]
theorem kc_0 {a : Nat → Int32} : ∀ j, (∀ s, s < j → a s = 0) → kc_n a j = 0 := by
  intro j
  induction j with
  | zero => intro _; rfl
  | succ j ih =>
    intro h
    unfold kc_n
    rw [if_pos (h j (by omega)), ih (fun s hs => h s (by omega))]
theorem kc_mono {a b : Nat → Int32} : ∀ j, (∀ s, s < j → a s ≠ 0 → b s ≠ 0) → kc_n a j ≤ kc_n b j := by
  intro j
  induction j with
  | zero => intro _; exact Nat.le_refl 0
  | succ j ih =>
    intro h
    have h1 := ih (fun s hs => h s (by omega))
    unfold kc_n
    by_cases z : a j = 0
    · rw [if_pos z]
      by_cases y : b j = 0
      · rw [if_pos y]; exact h1
      · rw [if_neg y]; omega
    · rw [if_neg z, if_neg (h j (by omega) z)]; omega
/-! the words of both sides -/
theorem kb_xw {post : Int32 → Prop} (cap rc fl co ls : Int32) (rg ex sr kd fc hr ct ra rd fs : Nat → Int32) (hp : post (kb_sum ex fc 96)) : wpX_existingWords post (cap, rc, fl, co, ls, rg, ex, sr, kd, fc, hr, ct, ra, rd, fs) := by
  have h : ∀ d i, i + d = 96 → wX_existingWords_4 post cap rc fl co ls rg ex sr kd fc hr ct ra rd fs (d + 1) (kb_sum ex fc i) (nI i) := by
    intro d
    induction d with
    | zero => intro i hi; obtain rfl : i = 96 := by omega
              exact br_t (nI_le (a := 96) (b := 96) (by omega) (by omega)) hp
    | succ d ih =>
      intro i hi
      have e := nI_clamp (n := i) (by omega)
      have hin := vp_in_nI (n := i) (N := 96) (by omega) (by omega)
      have hs := ih (i + 1) (by omega)
      unfold kb_sum at hs
      refine br_f (nI_ge (b := 96) (by omega) (by omega)) ⟨hin, ?_⟩
      rw [e]
      by_cases z : ex i = 0
      · rw [if_pos z] at hs
        exact br_t z (nm_r (nI_1 i) hs)
      · rw [if_neg z] at hs
        exact br_f z ⟨hin, nm_e (nm_r (nI_1 i) hs)⟩
  exact ⟨97, h 96 0 rfl⟩
theorem kb_yw {post : Int32 → Prop} (cp sn cl fn : Int32) (so ko fo fd ir re yg la : Nat → Int32) (hp : post (kb_sum (fun s => so (s + 1)) (fun s => fo (s + 1)) 96)) : wpY_existingWords post (cp, sn, cl, fn, so, ko, fo, fd, ir, re, yg, la) := by
  have h : ∀ d i, i + d = 96 → wY_existingWords_4 post cp sn cl fn so ko fo fd ir re yg la (d + 1) (kb_sum (fun s => so (s + 1)) (fun s => fo (s + 1)) i) (nI (i + 1)) := by
    intro d
    induction d with
    | zero => intro i hi; obtain rfl : i = 96 := by omega
              exact br_t (nI_le (a := 97) (b := 97) (by omega) (by omega)) hp
    | succ d ih =>
      intro i hi
      have e := nI_clamp (n := i + 1) (by omega)
      have hin := vp_in_nI (n := i + 1) (N := 97) (by omega) (by omega)
      have hs := ih (i + 1) (by omega)
      unfold kb_sum at hs
      refine br_f (nI_ge (b := 97) (by omega) (by omega)) ⟨hin, ?_⟩
      rw [e]
      by_cases z : so (i + 1) = 0
      · rw [if_pos z] at hs
        exact br_t z (nm_r (Int32.add_zero _) (nm_r (nI_1 (i + 1)) hs))
      · rw [if_neg z] at hs
        exact br_f z ⟨hin, nm_e (nm_r (nI_1 (i + 1)) hs)⟩
  exact ⟨97, h 96 0 rfl⟩
theorem kb_cell {post : Int32 → Prop} {p0 p1 : Int32} (cap rc fl co ls : Int32) (rg ex sr kd fc hr ct ra rd fs : Nat → Int32) (c : Nat) (e : p0 * 6 + p1 = nI c) (h : post (nI c)) : wpX_cellOf post (cap, rc, fl, co, ls, rg, ex, sr, kd, fc, hr, ct, ra, rd, fs) p0 p1 := by
  unfold wpX_cellOf
  dsimp only
  rw [e]
  exact h
end
section
/-! the relation -/
def kr_p (Q : Nat → Prop) (b d : Int32) : Prop := (b = -1 ∧ d = 0) ∨ ∃ t, t < 96 ∧ b = nI t ∧ d = nI (t + 1) ∧ Q t
def kr_c (Q : Nat → Prop) (a b c d : Int32) : Prop := (a = 0 ∧ c = 0 ∧ d = b) ∨ (a = 1 ∧ c = 1 ∧ kr_p Q b d)
def kr_s (ex sr kd fc hr ct so ko fo fd ir : Nat → Int32) (s : Nat) : Prop :=
  ∃ F, F ≤ 6 ∧ fc s = nI F ∧ fo (s + 1) = nI F ∧ ko (s + 1) = kd s ∧ (ex s = 0 ∨ ex s = 1) ∧ so (s + 1) = (if ex s = 0 then 0 else sr s) ∧
    (ex s ≠ 0 → sr s ≠ 0) ∧ (kd s = 2 → F = 1 ∧ hr (6 * s) = 1) ∧
    ∀ f, f < F → kr_c (fun t => ex s ≠ 0 → ex t ≠ 0) (hr (6 * s + f)) (ct (6 * s + f)) (ir (6 * (s + 1) + f)) (fd (6 * (s + 1) + f))
def kr_H (rg ex sr kd fc hr ct so ko fo fd ir yg : Nat → Int32) : Prop :=
  (∀ r, r < 8 → kr_p (fun t => ex t ≠ 0) (rg r) (yg r)) ∧ ∀ s, s < 96 → kr_s ex sr kd fc hr ct so ko fo fd ir s
/-- the two states are related, with S the last serial -/
def kr_R (S : Nat) (u : SX) (v : SY) : Prop :=
  match u with
  | (cap, rc, fl, co, ls, rg, ex, sr, kd, fc, hr, ct, ra, rd, fs) => match v with
    | (cp, sn, cl, fn, so, ko, fo, fd, ir, re, yg, la) => cp = cap ∧ cl = co ∧ fn = fl ∧ la = fs ∧ ls = nI S ∧ sn = nI S ∧ (∃ C, 16 ≤ C ∧ C ≤ 96 ∧ cap = nI C) ∧ kr_H rg ex sr kd fc hr ct so ko fo fd ir yg
def i_Rel (k : Nat) (u : SX) (v : SY) : Prop := ∃ S, S ≤ 5 * k ∧ kr_R S u v
theorem i_up {k : Nat} {u : SX} {v : SY} (h : i_Rel k u v) : i_Rel (k + 4) u v := by
  obtain ⟨S, hS, h⟩ := h
  exact ⟨S, by omega, h⟩
theorem kr_up {k S n : Nat} {u : SX} {v : SY} (hS : S ≤ 5 * k) (hn : n ≤ 20) (h : kr_R (S + n) u v) : i_Rel (k + 4) u v := ⟨S + n, by omega, h⟩
/-! the graph, its least set -/
def kg_rt (rg : Nat → Int32) (t : Nat) : Prop := t < 96 ∧ ∃ r, r < 8 ∧ rg r = nI t
def kg_eg (kd fc hr ct : Nat → Int32) (s t : Nat) : Prop := t < 96 ∧ kd s ≠ 2 ∧ ∃ f, f < 6 ∧ nI f < fc s ∧ hr (6 * s + f) ≠ 0 ∧ ct (6 * s + f) = nI t
def kg_M (rg kd fc hr ct : Nat → Int32) (t : Nat) : Prop :=
  ∀ Q : Nat → Prop, (∀ t, kg_rt rg t → Q t) → (∀ s t, Q s → kg_eg kd fc hr ct s t → Q t) → Q t
theorem kg_r {rg kd fc hr ct : Nat → Int32} {t : Nat} (h : kg_rt rg t) : kg_M rg kd fc hr ct t := fun _ h1 _ => h1 t h
theorem kg_e {rg kd fc hr ct : Nat → Int32} {s t : Nat} (h : kg_M rg kd fc hr ct s) (e : kg_eg kd fc hr ct s t) : kg_M rg kd fc hr ct t := fun Q h1 h2 => h2 s t (h Q h1 h2) e
/-! the component's reach -/
def kx_I (M : Nat → Prop) (c : Nat) (ra rd : Nat → Int32) : Prop :=
  (∀ s, s < 96 → ra s = 0 ∨ ra s = 1) ∧ (∀ j, j < c → ∃ t, t < 96 ∧ rd j = nI t ∧ ra t ≠ 0) ∧ (∀ s, s < 96 → ra s ≠ 0 → ∃ j, j < c ∧ rd j = nI s) ∧
  kc_n ra 96 = c ∧ ∀ s, s < 96 → ra s ≠ 0 → M s
def kx_E (c : Nat) (ra rd : Nat → Int32) (c' : Nat) (ra' rd' : Nat → Int32) : Prop :=
  c ≤ c' ∧ (∀ s, s < 96 → ra s ≠ 0 → ra' s ≠ 0) ∧ ∀ j, j < c → rd' j = rd j
theorem kx_E0 {c : Nat} {ra rd : Nat → Int32} : kx_E c ra rd c ra rd := ⟨Nat.le_refl _, fun _ _ h => h, fun _ _ => rfl⟩
theorem kx_Et {c c' c'' : Nat} {ra rd ra' rd' ra'' rd'' : Nat → Int32} (h : kx_E c ra rd c' ra' rd') (g : kx_E c' ra' rd' c'' ra'' rd'') : kx_E c ra rd c'' ra'' rd'' :=
  ⟨Nat.le_trans h.1 g.1, fun s hs z => g.2.1 s hs (h.2.1 s hs z), fun j hj => (g.2.2 j (Nat.lt_of_lt_of_le hj h.1)).trans (h.2.2 j hj)⟩
theorem kx_reach {M : Nat → Prop} (cap rc fl co ls : Int32) (rg ex sr kd fc hr ct ra rd fs : Nat → Int32) {c : Nat} (p : Int32) (hI : kx_I M c ra rd) (hp : p = -1 ∨ ∃ t, t < 96 ∧ p = nI t ∧ M t) :
    ∃ c' ra' rd', kx_I M c' ra' rd' ∧ kx_E c ra rd c' ra' rd' ∧ (∀ t, t < 96 → p = nI t → ra' t ≠ 0) ∧
      ∀ post : SX → Prop, post (cap, nI c', fl, co, ls, rg, ex, sr, kd, fc, hr, ct, ra', rd', fs) → wpX_reach post (cap, nI c, fl, co, ls, rg, ex, sr, kd, fc, hr, ct, ra, rd, fs) p := by
  rcases hp with e | ⟨t, ht, e, hM⟩
  · subst e
    exact ⟨c, ra, rd, hI, kx_E0, fun t ht e => absurd e.symm (kb_m1 (by omega)), fun post h => br_t rfl h⟩
  · subst e
    have en : ¬ nI t = -1 := kb_m1 (by omega)
    have ec := nI_clamp (n := t) (by omega)
    have hin := vp_in_nI (n := t) (N := 96) (by omega) (by omega)
    by_cases z : ra t = 0
    · have hc : c < 96 := by rw [← hI.2.2.2.1]; exact kc_lt z 96 ht
      have hcc := nI_clamp (n := c) (by omega)
      refine ⟨c + 1, upd ra t 1, upd rd c (nI t), ⟨?_, ?_, ?_, ?_, ?_⟩, ⟨by omega, ?_, ?_⟩, ?_, ?_⟩
      · intro s hs
        by_cases y : s = t
        · subst y; exact Or.inr pk_us
        · rw [pk_un y]; exact hI.1 s hs
      · intro j hj
        by_cases y : j = c
        · subst y; exact ⟨t, ht, pk_us, by rw [pk_us]; exact kb_10⟩
        · obtain ⟨t', h1, h2, h3⟩ := hI.2.1 j (by omega)
          refine ⟨t', h1, by rw [pk_un y]; exact h2, ?_⟩
          by_cases y2 : t' = t
          · subst y2; rw [pk_us]; exact kb_10
          · rw [pk_un y2]; exact h3
      · intro s hs h
        by_cases y : s = t
        · subst y; exact ⟨c, by omega, pk_us⟩
        · rw [pk_un y] at h
          obtain ⟨j, h1, h2⟩ := hI.2.2.1 s hs h
          exact ⟨j, by omega, by rw [pk_un (by omega)]; exact h2⟩
      · rw [kc_up z kb_10 96 ht, hI.2.2.2.1]
      · intro s hs h
        by_cases y : s = t
        · subst y; exact hM
        · rw [pk_un y] at h; exact hI.2.2.2.2 s hs h
      · intro s hs h
        by_cases y : s = t
        · subst y; rw [pk_us]; exact kb_10
        · rw [pk_un y]; exact h
      · intro j hj; rw [pk_un (by omega)]
      · intro t' ht' e
        have := kb_inj e (by omega) (by omega)
        subst this; rw [pk_us]; exact kb_10
      · intro post h
        refine br_f en ⟨hin, ?_⟩
        rw [ec]
        refine br_t z ⟨hin, nm_r (by rw [kb_n1]) ⟨vp_in_nI hc (by omega), nm_r (by rw [hcc]) (nm_r (nI_1 c) h)⟩⟩
    · refine ⟨c, ra, rd, hI, kx_E0, fun t' ht' e => ?_, fun post h => br_f en ⟨hin, ?_⟩⟩
      · have := kb_inj e (by omega) (by omega)
        subst this; exact z
      · rw [ec]; exact br_f z h
theorem kx_ff {rg0 : Nat → Int32} (cap rc fl co ls : Int32) (rg ex sr kd fc hr ct ra rd fs : Nat → Int32) {c s F : Nat} (hs : s < 96) (hF : F ≤ 6) (eF : fc s = nI F)
    (hc : ∀ f, f < F → hr (6 * s + f) = 0 ∨ ct (6 * s + f) = -1 ∨ ∃ t, t < 96 ∧ ct (6 * s + f) = nI t)
    (hI : kx_I (kg_M rg0 kd fc hr ct) c ra rd) (hM : kg_M rg0 kd fc hr ct s) :
    ∃ c' ra' rd', kx_I (kg_M rg0 kd fc hr ct) c' ra' rd' ∧ kx_E c ra rd c' ra' rd' ∧ (∀ t, kg_eg kd fc hr ct s t → ra' t ≠ 0) ∧
      ∀ post : SX → Prop, post (cap, nI c', fl, co, ls, rg, ex, sr, kd, fc, hr, ct, ra', rd', fs) → wpX_reachFromFields post (cap, nI c, fl, co, ls, rg, ex, sr, kd, fc, hr, ct, ra, rd, fs) (nI s) := by
  have ec := nI_clamp (n := s) (by omega)
  have hin := vp_in_nI (n := s) (N := 96) (by omega) (by omega)
  by_cases hk : kd s = 2
  · refine ⟨c, ra, rd, hI, kx_E0, fun t e => absurd hk e.2.1, fun post h => ⟨hin, ?_⟩⟩
    rw [ec]; exact br_t hk h
  · have H : ∀ d f, f + d = F → ∀ c ra rd, kx_I (kg_M rg0 kd fc hr ct) c ra rd → ∃ c' ra' rd', kx_I (kg_M rg0 kd fc hr ct) c' ra' rd' ∧ kx_E c ra rd c' ra' rd' ∧
        (∀ f', f ≤ f' → f' < F → hr (6 * s + f') ≠ 0 → ∀ t, t < 96 → ct (6 * s + f') = nI t → ra' t ≠ 0) ∧
        ∀ post : SX → Prop, post (cap, nI c', fl, co, ls, rg, ex, sr, kd, fc, hr, ct, ra', rd', fs) → wX_reachFromFields_13 post (nI s) (d + 1) (nI f) cap (nI c) fl co ls rg ex sr kd fc hr ct ra rd fs := by
      intro d
      induction d with
      | zero =>
        intro f hf c ra rd hI
        refine ⟨c, ra, rd, hI, kx_E0, fun f' h1 h2 => by omega, fun post h => ⟨hin, ?_⟩⟩
        rw [ec, eF]
        exact br_t (nI_le (by omega) (by omega)) h
      | succ d ih =>
        intro f hf c ra rd hI
        have hcell : 6 * s + f < 576 := by omega
        have ecc := nI_clamp (n := 6 * s + f) (by omega)
        have hinc := vp_in_nI (n := 6 * s + f) (N := 576) hcell (by omega)
        by_cases z : hr (6 * s + f) = 0
        · obtain ⟨c', ra', rd', h1, h2, h3, h4⟩ := ih (f + 1) (by omega) c ra rd hI
          refine ⟨c', ra', rd', h1, h2, fun f' g1 g2 g3 => ?_, fun post h => ⟨hin, ?_⟩⟩
          · by_cases y : f' = f
            · subst y; exact absurd z g3
            · exact h3 f' (by omega) g2 g3
          · rw [ec, eF]
            refine br_f (nI_ge (by omega) (by omega)) (kb_cell _ _ _ _ _ _ _ _ _ _ _ _ _ _ _ (6 * s + f) (kb_cx s f) ⟨hinc, ?_⟩)
            rw [ecc]
            exact br_t z (nm_r (nI_1 f) (h4 post h))
        · have hp : ct (6 * s + f) = -1 ∨ ∃ t, t < 96 ∧ ct (6 * s + f) = nI t ∧ kg_M rg0 kd fc hr ct t := by
            rcases hc f (by omega) with g | g | ⟨t, g1, g2⟩
            · exact absurd g z
            · exact Or.inl g
            · exact Or.inr ⟨t, g1, g2, kg_e hM ⟨g1, hk, f, by omega, by rw [eF]; exact nI_lt (by omega) (by omega), z, g2⟩⟩
          obtain ⟨c1, ra1, rd1, i1, i2, i3, i4⟩ := kx_reach cap rc fl co ls rg ex sr kd fc hr ct ra rd fs (ct (6 * s + f)) hI hp
          obtain ⟨c', ra', rd', h1, h2, h3, h4⟩ := ih (f + 1) (by omega) c1 ra1 rd1 i1
          refine ⟨c', ra', rd', h1, kx_Et i2 h2, fun f' g1 g2 g3 t ht g4 => ?_, fun post h => ⟨hin, ?_⟩⟩
          · by_cases y : f' = f
            · subst y; exact h2.2.1 t ht (i3 t ht g4)
            · exact h3 f' (by omega) g2 g3 t ht g4
          · rw [ec, eF]
            refine br_f (nI_ge (by omega) (by omega)) (kb_cell _ _ _ _ _ _ _ _ _ _ _ _ _ _ _ (6 * s + f) (kb_cx s f) ⟨hinc, ?_⟩)
            rw [ecc]
            refine br_f z ⟨hinc, ?_⟩
            exact i4 _ (nm_r (nI_1 f) (h4 post h))
    obtain ⟨c', ra', rd', h1, h2, h3, h4⟩ := H F 0 (by omega) c ra rd hI
    refine ⟨c', ra', rd', h1, h2, fun t e => ?_, fun post h => ⟨hin, ?_⟩⟩
    · obtain ⟨e1, e2, f, f1, f2, f3, f4⟩ := e
      rw [eF, nI_ltI (by omega) (by omega)] at f2
      exact h3 f (by omega) f2 f3 t e1 f4
    · rw [ec]
      exact br_f hk ⟨F + 1, h4 post h⟩
end
section
/-! the component's search -/
def kx_V (fc hr ct : Nat → Int32) : Prop := ∀ s, s < 96 → ∃ F, F ≤ 6 ∧ fc s = nI F ∧ ∀ f, f < F → hr (6 * s + f) = 0 ∨ ct (6 * s + f) = -1 ∨ ∃ t, t < 96 ∧ ct (6 * s + f) = nI t
theorem kx_52 (cap rc fl co ls : Int32) (rg ex sr kd fc hr ct ra rd fs : Nat → Int32) (hV : kx_V fc hr ct) : ∀ d i, i + d = 96 → ∀ c ra rd, kx_I (kg_M rg kd fc hr ct) c ra rd →
    (∀ j, j < i → j < c → ∀ s, s < 96 → rd j = nI s → ∀ t, kg_eg kd fc hr ct s t → ra t ≠ 0) →
    ∃ c' ra' rd', kx_I (kg_M rg kd fc hr ct) c' ra' rd' ∧ kx_E c ra rd c' ra' rd' ∧ (∀ s, s < 96 → ra' s ≠ 0 → ∀ t, kg_eg kd fc hr ct s t → ra' t ≠ 0) ∧
      ∀ post : SX → Prop, post (cap, nI c', fl, co, ls, rg, ex, sr, kd, fc, hr, ct, ra', rd', fs) → wX_findReachable_52 post (d + 1) (nI i) cap (nI c) fl co ls rg ex sr kd fc hr ct ra rd fs := by
  intro d
  induction d with
  | zero =>
    intro i hi c ra rd hI hd
    have hc : c ≤ 96 := by rw [← hI.2.2.2.1]; exact kc_le ra 96
    refine ⟨c, ra, rd, hI, kx_E0, fun s hs h t e => ?_, fun post h => br_t (nI_le (a := 96) (by omega) (by omega)) h⟩
    obtain ⟨j, j1, j2⟩ := hI.2.2.1 s hs h
    exact hd j (by omega) j1 s hs j2 t e
  | succ d ih =>
    intro i hi c ra rd hI hd
    have hc : c ≤ 96 := by rw [← hI.2.2.2.1]; exact kc_le ra 96
    have hg := nI_ge (a := i) (b := 96) (by omega) (by omega)
    have ec := nI_clamp (n := i) (by omega)
    have hin := vp_in_nI (n := i) (N := 96) (by omega) (by omega)
    by_cases z : c ≤ i
    · refine ⟨c, ra, rd, hI, kx_E0, fun s hs h t e => ?_, fun post h => br_f hg (br_t (nI_le z (by omega)) h)⟩
      obtain ⟨j, j1, j2⟩ := hI.2.2.1 s hs h
      exact hd j (by omega) j1 s hs j2 t e
    · obtain ⟨s, hs, es, hra⟩ := hI.2.1 i (by omega)
      obtain ⟨F, hF, eF, hcc⟩ := hV s hs
      obtain ⟨c1, ra1, rd1, i1, i2, i3, i4⟩ := kx_ff cap rc fl co ls rg ex sr kd fc hr ct ra rd fs hs hF eF hcc hI (hI.2.2.2.2 s hs hra)
      have hd1 : ∀ j, j < i + 1 → j < c1 → ∀ s, s < 96 → rd1 j = nI s → ∀ t, kg_eg kd fc hr ct s t → ra1 t ≠ 0 := by
        intro j g1 g2 s' hs' g3 t g4
        rw [i2.2.2 j (by omega)] at g3
        by_cases y : j = i
        · subst y
          rw [es] at g3
          have := kb_inj g3 (by omega) (by omega)
          subst this
          exact i3 t g4
        · exact i2.2.1 t g4.1 (hd j (by omega) (by omega) s' hs' g3 t g4)
      obtain ⟨c', ra', rd', h1, h2, h3, h4⟩ := ih (i + 1) (by omega) c1 ra1 rd1 i1 hd1
      refine ⟨c', ra', rd', h1, kx_Et i2 h2, h3, fun post h => br_f hg (br_f (nI_ge (by omega) (by omega)) ⟨hin, ?_⟩)⟩
      rw [ec, es]
      exact i4 _ (nm_r (nI_1 i) (h4 post h))
theorem kx_28 (cap rc fl co ls : Int32) (rg ex sr kd fc hr ct ra rd fs : Nat → Int32) (hR : ∀ r, r < 8 → rg r = -1 ∨ ∃ t, t < 96 ∧ rg r = nI t) : ∀ d i, i + d = 8 → ∀ c ra rd, kx_I (kg_M rg kd fc hr ct) c ra rd →
    (∀ j, j < i → ∀ t, t < 96 → rg j = nI t → ra t ≠ 0) →
    ∃ c' ra' rd', kx_I (kg_M rg kd fc hr ct) c' ra' rd' ∧ (∀ t, kg_rt rg t → ra' t ≠ 0) ∧
      ∀ post : SX → Prop, (∃ n52, wX_findReachable_52 post n52 0 cap (nI c') fl co ls rg ex sr kd fc hr ct ra' rd' fs) → wX_findReachable_28 post (d + 1) (nI i) cap (nI c) fl co ls rg ex sr kd fc hr ct ra rd fs := by
  intro d
  induction d with
  | zero =>
    intro i hi c ra rd hI hd
    refine ⟨c, ra, rd, hI, fun t ⟨h1, r, h2, h3⟩ => hd r (by omega) t h1 h3, fun post h => br_t (nI_le (a := 8) (by omega) (by omega)) h⟩
  | succ d ih =>
    intro i hi c ra rd hI hd
    have hg := nI_ge (a := i) (b := 8) (by omega) (by omega)
    have ec := nI_clamp (n := i) (by omega)
    have hin := vp_in_nI (n := i) (N := 8) (by omega) (by omega)
    have hp : rg i = -1 ∨ ∃ t, t < 96 ∧ rg i = nI t ∧ kg_M rg kd fc hr ct t := by
      rcases hR i (by omega) with g | ⟨t, g1, g2⟩
      · exact Or.inl g
      · exact Or.inr ⟨t, g1, g2, kg_r ⟨g1, i, by omega, g2⟩⟩
    obtain ⟨c1, ra1, rd1, i1, i2, i3, i4⟩ := kx_reach cap rc fl co ls rg ex sr kd fc hr ct ra rd fs (rg i) hI hp
    obtain ⟨c', ra', rd', h1, h2, h3⟩ := ih (i + 1) (by omega) c1 ra1 rd1 i1 (fun j g1 t g2 g3 => by
      by_cases y : j = i
      · subst y; exact i3 t g2 g3
      · exact i2.2.1 t g2 (hd j (by omega) t g2 g3))
    refine ⟨c', ra', rd', h1, h2, fun post h => br_f hg ⟨hin, ?_⟩⟩
    rw [ec]
    exact i4 _ (nm_r (nI_1 i) (h3 post h))
theorem kx_2 (cap rc fl co ls : Int32) (rg ex sr kd fc hr ct ra rd fs : Nat → Int32) : ∀ d i, i + d = 96 → ∀ ra, (∀ j, j < i → ra j = 0) → ∃ ra', (∀ j, j < 96 → ra' j = 0) ∧
      ∀ post : SX → Prop, (∃ n28, wX_findReachable_28 post n28 0 cap 0 fl co ls rg ex sr kd fc hr ct ra' rd fs) → wX_findReachable_2 post cap rc fl co ls (d + 1) (nI i) rg ex sr kd fc hr ct ra rd fs := by
  intro d
  induction d with
  | zero =>
    intro i hi ra hd
    exact ⟨ra, fun j hj => hd j (by omega), fun post h => br_t (nI_le (a := 96) (by omega) (by omega)) h⟩
  | succ d ih =>
    intro i hi ra hd
    have ec := nI_clamp (n := i) (by omega)
    obtain ⟨ra', h1, h2⟩ := ih (i + 1) (by omega) (upd ra i 0) (fun j hj => by
      by_cases y : j = i
      · subst y; exact pk_us
      · rw [pk_un y]; exact hd j (by omega))
    refine ⟨ra', h1, fun post h => br_f (nI_ge (b := 96) (by omega) (by omega)) ⟨vp_in_nI (by omega) (by omega), nm_r (by rw [ec, kb_n0]) (nm_r (nI_1 i) (h2 post h))⟩⟩
theorem kx_find (cap rc fl co ls : Int32) (rg ex sr kd fc hr ct ra rd fs : Nat → Int32) (hV : kx_V fc hr ct) (hR : ∀ r, r < 8 → rg r = -1 ∨ ∃ t, t < 96 ∧ rg r = nI t) :
    ∃ rc' ra' rd', (∀ s, s < 96 → ra' s = 0 ∨ ra' s = 1) ∧ (∀ s, s < 96 → (ra' s ≠ 0 ↔ kg_M rg kd fc hr ct s)) ∧
      ∀ post : SX → Prop, post (cap, rc', fl, co, ls, rg, ex, sr, kd, fc, hr, ct, ra', rd', fs) → wpX_findReachable post (cap, rc, fl, co, ls, rg, ex, sr, kd, fc, hr, ct, ra, rd, fs) := by
  obtain ⟨ra0, z0, w0⟩ := kx_2 cap rc fl co ls rg ex sr kd fc hr ct ra rd fs 96 0 rfl ra (fun j hj => by omega)
  have I0 : kx_I (kg_M rg kd fc hr ct) 0 ra0 rd := ⟨fun s hs => Or.inl (z0 s hs), fun j hj => by omega, fun s hs h => absurd (z0 s hs) h, kc_0 96 z0, fun s hs h => absurd (z0 s hs) h⟩
  obtain ⟨c1, ra1, rd1, I1, r1, w1⟩ := kx_28 cap rc fl co ls rg ex sr kd fc hr ct ra rd fs hR 8 0 rfl 0 ra0 rd I0 (fun j hj => by omega)
  obtain ⟨c2, ra2, rd2, I2, E2, k2, w2⟩ := kx_52 cap rc fl co ls rg ex sr kd fc hr ct ra rd fs hV 96 0 rfl c1 ra1 rd1 I1 (fun j hj => by omega)
  refine ⟨nI c2, ra2, rd2, I2.1, fun s hs => ⟨I2.2.2.2.2 s hs, fun h => ?_⟩, fun post h => ⟨97, w0 post ⟨9, w1 post ⟨97, w2 post h⟩⟩⟩⟩
  exact (h (fun s => s < 96 ∧ ra2 s ≠ 0) (fun t ht => ⟨ht.1, E2.2.1 t ht.1 (r1 t ht)⟩) (fun s t hs e => ⟨e.1, k2 s hs.1 hs.2 t e⟩)).2
theorem kx_words (cap rc fl co ls : Int32) (rg ex sr kd fc hr ct ra rd fs : Nat → Int32) {post : Int32 → SX → Prop} (hp : post (kb_sum ra fc 96) (cap, rc, fl, co, ls, rg, ex, sr, kd, fc, hr, ct, ra, rd, fs)) : ∃ n8, wX_reachableWords_8 post cap rc fl co ls rg ex sr kd fc hr ct ra rd fs n8 0 0 := by
  have h : ∀ d i, i + d = 96 → wX_reachableWords_8 post cap rc fl co ls rg ex sr kd fc hr ct ra rd fs (d + 1) (kb_sum ra fc i) (nI i) := by
    intro d
    induction d with
    | zero => intro i hi; obtain rfl : i = 96 := by omega
              exact br_t (nI_le (a := 96) (b := 96) (by omega) (by omega)) hp
    | succ d ih =>
      intro i hi
      have e := nI_clamp (n := i) (by omega)
      have hin := vp_in_nI (n := i) (N := 96) (by omega) (by omega)
      have hs := ih (i + 1) (by omega)
      unfold kb_sum at hs
      refine br_f (nI_ge (b := 96) (by omega) (by omega)) ⟨hin, ?_⟩
      rw [e]
      by_cases z : ra i = 0
      · rw [if_pos z] at hs
        exact br_t z (nm_r (nI_1 i) hs)
      · rw [if_neg z] at hs
        exact br_f z ⟨hin, nm_e (nm_r (nI_1 i) hs)⟩
  exact ⟨97, h 96 0 rfl⟩
end
section
/-! the reference's search -/
def ky_I (M : Nat → Prop) (re : Nat → Int32) : Prop := re 0 = 0 ∧ ∀ s, s < 96 → re (s + 1) ≠ 0 → M s
def ky_n (re : Nat → Int32) : Nat := kc_n (fun s => re (s + 1)) 96
theorem ky_n_up {re : Nat → Int32} {t : Nat} (ht : t < 96) (z : re (t + 1) = 0) : ky_n (upd re (t + 1) 1) = ky_n re + 1 := by
  have e : (fun s => upd re (t + 1) 1 (s + 1)) = upd (fun s => re (s + 1)) t 1 := by
    funext s
    by_cases y : s = t
    · subst y; rw [pk_us, pk_us]
    · rw [pk_un y, pk_un (by omega)]
  unfold ky_n
  rw [e]
  exact kc_up (a := fun s => re (s + 1)) z kb_10 96 ht
theorem ky_n_mono {re re' : Nat → Int32} (h : ∀ s, s < 96 → re (s + 1) ≠ 0 → re' (s + 1) ≠ 0) : ky_n re ≤ ky_n re' := kc_mono 96 h
theorem ky_n_le (re : Nat → Int32) : ky_n re ≤ 96 := kc_le _ 96
section
variable (cap rc fl co ls : Int32) (rg ex sr kd fc hr ct ra rd fs : Nat → Int32)
variable (cp sn cl fn : Int32) (so ko fo fd ir re yg la : Nat → Int32)
theorem ky_spread (H : kr_H rg ex sr kd fc hr ct so ko fo fd ir yg) {s : Nat} (hs : s < 96) (hM : kg_M rg kd fc hr ct s) (hk : kd s ≠ 2) (hI : ky_I (kg_M rg kd fc hr ct) re) :
    ∃ x re', ky_I (kg_M rg kd fc hr ct) re' ∧ (x = 0 ∨ x = 1) ∧ (∀ t, t < 96 → re (t + 1) ≠ 0 → re' (t + 1) ≠ 0) ∧ (∀ t, kg_eg kd fc hr ct s t → re' (t + 1) ≠ 0) ∧
      (x = 0 → re' = re) ∧ (x ≠ 0 → ky_n re < ky_n re') ∧
      ∀ post : Int32 → SY → Prop, post x (cp, sn, cl, fn, so, ko, fo, fd, ir, re', yg, la) → wpY_spread post (cp, sn, cl, fn, so, ko, fo, fd, ir, re, yg, la) (nI (s + 1)) := by
  obtain ⟨F, hF, eF, eF', -, -, -, -, -, hc⟩ := H.2 s hs
  have ec := nI_clamp (n := s + 1) (by omega)
  have hin := vp_in_nI (n := s + 1) (N := 97) (by omega) (by omega)
  have L : ∀ d f, f + d = F → ∀ x re, (x = 0 ∨ x = 1) → ky_I (kg_M rg kd fc hr ct) re → ∃ x' re', ky_I (kg_M rg kd fc hr ct) re' ∧ (x' = 0 ∨ x' = 1) ∧
      (∀ t, t < 96 → re (t + 1) ≠ 0 → re' (t + 1) ≠ 0) ∧ (∀ f', f ≤ f' → f' < F → hr (6 * s + f') ≠ 0 → ∀ t, t < 96 → ct (6 * s + f') = nI t → re' (t + 1) ≠ 0) ∧
      (x' = 0 → x = 0 ∧ re' = re) ∧ (x' ≠ 0 → x ≠ 0 ∨ ky_n re < ky_n re') ∧
      ∀ post : Int32 → SY → Prop, post x' (cp, sn, cl, fn, so, ko, fo, fd, ir, re', yg, la) → wY_spread_7 post (nI (s + 1)) cp sn cl fn (d + 1) x (nI (6 * (s + 1) + f)) so ko fo fd ir re yg la := by
    intro d
    induction d with
    | zero =>
      intro f hf x re hx hI
      refine ⟨x, re, hI, hx, fun t _ h => h, fun f' _ _ => by omega, fun h => ⟨h, rfl⟩, fun h => Or.inl h, fun post h => ⟨hin, ?_⟩⟩
      rw [ec, eF', kb_cy]
      exact br_t (nI_le (by omega) (by omega)) ⟨kb_narrow hx, h⟩
    | succ d ih =>
      intro f hf x re hx hI
      have hcell : 6 * (s + 1) + f < 582 := by omega
      have ecc := nI_clamp (n := 6 * (s + 1) + f) (by omega)
      have hinc := vp_in_nI (n := 6 * (s + 1) + f) (N := 582) hcell (by omega)
      have hlt : ¬ nI (6 * (s + 1) + F) ≤ nI (6 * (s + 1) + f) := nI_ge (by omega) (by omega)
      rcases hc f (by omega) with ⟨a1, a2, a3⟩ | ⟨a1, a2, a3⟩
      · obtain ⟨x', re', h1, h2, h3, h4, h5, h6, h7⟩ := ih (f + 1) (by omega) x re hx hI
        refine ⟨x', re', h1, h2, h3, fun f' g1 g2 g3 => ?_, h5, h6, fun post h => ⟨hin, ?_⟩⟩
        · by_cases y : f' = f
          · subst y; exact absurd a1 g3
          · exact h4 f' (by omega) g2 g3
        · rw [ec, eF', kb_cy, ecc]
          exact br_f hlt ⟨hinc, nm_e ⟨hinc, br_t a2 (nm_r (nI_1 _) (h7 post h))⟩⟩
      · have a2n : ¬ ir (6 * (s + 1) + f) = 0 := by rw [a2]; exact kb_10
        have a1n : ¬ hr (6 * s + f) = 0 := by rw [a1]; exact kb_10
        rcases a3 with ⟨b1, b2⟩ | ⟨t, t1, t2, t3, -⟩
        · obtain ⟨x', re', h1, h2, h3, h4, h5, h6, h7⟩ := ih (f + 1) (by omega) x re hx hI
          refine ⟨x', re', h1, h2, h3, fun f' g1 g2 g3 t g4 g5 => ?_, h5, h6, fun post h => ⟨hin, ?_⟩⟩
          · by_cases y : f' = f
            · subst y; rw [b1] at g5; exact absurd g5.symm (kb_m1 (by omega))
            · exact h4 f' (by omega) g2 g3 t g4 g5
          · rw [ec, eF', kb_cy, ecc]
            exact br_f hlt ⟨hinc, nm_r b2 ⟨hinc, br_f a2n (br_t rfl (nm_r (nI_1 _) (h7 post h)))⟩⟩
        · have etc := nI_clamp (n := t + 1) (by omega)
          have hint := vp_in_nI (n := t + 1) (N := 97) (by omega) (by omega)
          have hne : ¬ nI (t + 1) = 0 := nI_ne0 (by omega) (by omega)
          by_cases z : re (t + 1) = 0
          · have hMt : kg_M rg kd fc hr ct t := kg_e hM ⟨t1, hk, f, by omega, by rw [eF]; exact nI_lt (by omega) (by omega), a1n, t2⟩
            have hI1 : ky_I (kg_M rg kd fc hr ct) (upd re (t + 1) 1) := by
              refine ⟨by rw [pk_un (by omega)]; exact hI.1, fun s' hs' h => ?_⟩
              by_cases y : s' = t
              · subst y; exact hMt
              · rw [pk_un (by omega)] at h; exact hI.2 s' hs' h
            have hm1 : ∀ t', t' < 96 → re (t' + 1) ≠ 0 → upd re (t + 1) 1 (t' + 1) ≠ 0 := by
              intro t' _ h
              by_cases y : t' = t
              · subst y; rw [pk_us]; exact kb_10
              · rw [pk_un (by omega)]; exact h
            obtain ⟨x', re', h1, h2, h3, h4, h5, h6, h7⟩ := ih (f + 1) (by omega) 1 (upd re (t + 1) 1) (Or.inr rfl) hI1
            refine ⟨x', re', h1, h2, fun t' g1 g2 => h3 t' g1 (hm1 t' g1 g2), fun f' g1 g2 g3 t' g4 g5 => ?_, fun h => absurd (h5 h).1 kb_10, fun h => Or.inr ?_, fun post h => ⟨hin, ?_⟩⟩
            · by_cases y : f' = f
              · subst y
                rw [t2] at g5
                have := kb_inj g5 (by omega) (by omega)
                subst this
                exact h3 t t1 (by rw [pk_us]; exact kb_10)
              · exact h4 f' (by omega) g2 g3 t' g4 g5
            · have n1 := ky_n_up t1 z
              have n2 := ky_n_mono h3
              omega
            · rw [ec, eF', kb_cy, ecc]
              refine br_f hlt ⟨hinc, nm_r t3 ⟨hinc, br_f a2n (br_f hne ⟨hint, ?_⟩)⟩⟩
              rw [etc]
              exact br_t z ⟨hint, nm_r (by rw [kb_n1]) (nm_r (nI_1 _) (h7 post h))⟩
          · obtain ⟨x', re', h1, h2, h3, h4, h5, h6, h7⟩ := ih (f + 1) (by omega) x re hx hI
            refine ⟨x', re', h1, h2, h3, fun f' g1 g2 g3 t' g4 g5 => ?_, h5, h6, fun post h => ⟨hin, ?_⟩⟩
            · by_cases y : f' = f
              · subst y
                rw [t2] at g5
                have := kb_inj g5 (by omega) (by omega)
                subst this
                exact h3 t t1 z
              · exact h4 f' (by omega) g2 g3 t' g4 g5
            · rw [ec, eF', kb_cy, ecc]
              refine br_f hlt ⟨hinc, nm_r t3 ⟨hinc, br_f a2n (br_f hne ⟨hint, ?_⟩)⟩⟩
              rw [etc]
              exact br_f z (nm_r (nI_1 _) (h7 post h))
  obtain ⟨x', re', h1, h2, h3, h4, h5, h6, h7⟩ := L F 0 (by omega) 0 re (Or.inl rfl) hI
  refine ⟨x', re', h1, h2, h3, fun t e => ?_, fun h => (h5 h).2, fun h => ?_, fun post h => ?_⟩
  · obtain ⟨e1, e2, f, f1, f2, f3, f4⟩ := e
    rw [eF, nI_ltI (by omega) (by omega)] at f2
    exact h4 f (by omega) f2 f3 t e1 f4
  · rcases h6 h with g | g
    · exact absurd rfl g
    · exact g
  · exact nm_r (kb_cy0 (s + 1)) ⟨F + 1, h7 post h⟩
theorem ky_64 (H : kr_H rg ex sr kd fc hr ct so ko fo fd ir yg) : ∀ d i, i + d = 96 → ∀ x re, (x = 0 ∨ x = 1) → ky_I (kg_M rg kd fc hr ct) re → ∃ x' re', ky_I (kg_M rg kd fc hr ct) re' ∧ (x' = 0 ∨ x' = 1) ∧
      (∀ t, t < 96 → re (t + 1) ≠ 0 → re' (t + 1) ≠ 0) ∧
      (x' = 0 → x = 0 ∧ re' = re ∧ ∀ s, i ≤ s → s < 96 → re (s + 1) ≠ 0 → ∀ t, kg_eg kd fc hr ct s t → re (t + 1) ≠ 0) ∧ (x' ≠ 0 → x ≠ 0 ∨ ky_n re < ky_n re') ∧
      ∀ (post : Int32 → SY → Prop) J, J x' cp sn cl fn so ko fo fd ir re' yg la → wY_reachableWords_64 post J (d + 1) x (nI (i + 1)) cp sn cl fn so ko fo fd ir re yg la := by
  intro d
  induction d with
  | zero =>
    intro i hi x re hx hI
    exact ⟨x, re, hI, hx, fun t _ h => h, fun h => ⟨h, rfl, fun s _ _ => by omega⟩, fun h => Or.inl h, fun post J h => br_t (nI_le (a := 97) (by omega) (by omega)) h⟩
  | succ d ih =>
    intro i hi x re hx hI
    have hg := nI_ge (a := i + 1) (b := 97) (by omega) (by omega)
    have ec := nI_clamp (n := i + 1) (by omega)
    have hin := vp_in_nI (n := i + 1) (N := 97) (by omega) (by omega)
    have hk : ko (i + 1) = kd i := by obtain ⟨F, hF, eF, eF', ek, -⟩ := H.2 i (by omega); exact ek
    by_cases z : re (i + 1) = 0
    · obtain ⟨x', re', h1, h2, h3, h4, h5, h6⟩ := ih (i + 1) (by omega) x re hx hI
      refine ⟨x', re', h1, h2, h3, fun h => ⟨(h4 h).1, (h4 h).2.1, fun s g1 g2 g3 => ?_⟩, h5, fun post J h => br_f hg ⟨hin, ?_⟩⟩
      · by_cases y : s = i
        · subst y; exact absurd z g3
        · exact (h4 h).2.2 s (by omega) g2 g3
      · rw [ec]; exact br_t z (nm_r (nI_1 _) (h6 post J h))
    · by_cases k2 : kd i = 2
      · obtain ⟨x', re', h1, h2, h3, h4, h5, h6⟩ := ih (i + 1) (by omega) x re hx hI
        refine ⟨x', re', h1, h2, h3, fun h => ⟨(h4 h).1, (h4 h).2.1, fun s g1 g2 g3 t g4 => ?_⟩, h5, fun post J h => br_f hg ⟨hin, ?_⟩⟩
        · by_cases y : s = i
          · subst y; exact absurd k2 g4.2.1
          · exact (h4 h).2.2 s (by omega) g2 g3 t g4
        · rw [ec]; exact br_f z ⟨hin, br_t (hk.trans k2) (nm_r (nI_1 _) (h6 post J h))⟩
      · have k2' : ¬ ko (i + 1) = 2 := by rw [hk]; exact k2
        obtain ⟨y, re1, j1, j2, j3, j4, j5, j6, j7⟩ := ky_spread rg ex sr kd fc hr ct cp sn cl fn so ko fo fd ir re yg la H (s := i) (by omega) (hI.2 i (by omega) z) k2 hI
        by_cases yz : y = 0
        · subst yz
          have er := j5 rfl
          subst er
          obtain ⟨x', re', h1, h2, h3, h4, h5, h6⟩ := ih (i + 1) (by omega) x re1 hx hI
          refine ⟨x', re', h1, h2, h3, fun h => ⟨(h4 h).1, (h4 h).2.1, fun s g1 g2 g3 t g4 => ?_⟩, h5, fun post J h => br_f hg ⟨hin, ?_⟩⟩
          · by_cases y : s = i
            · subst y; exact j4 t g4
            · exact (h4 h).2.2 s (by omega) g2 g3 t g4
          · rw [ec]; exact br_f z ⟨hin, br_f k2' (j7 _ (br_t rfl (nm_r (nI_1 _) (h6 post J h))))⟩
        · obtain ⟨x', re', h1, h2, h3, h4, h5, h6⟩ := ih (i + 1) (by omega) 1 re1 (Or.inr rfl) j1
          refine ⟨x', re', h1, h2, fun t g1 g2 => h3 t g1 (j3 t g1 g2), fun h => absurd (h4 h).1 kb_10, fun h => Or.inr ?_, fun post J h => br_f hg ⟨hin, ?_⟩⟩
          · have := j6 yz
            have := ky_n_mono h3
            omega
          · rw [ec]; exact br_f z ⟨hin, br_f k2' (j7 _ (br_f yz (nm_r (nI_1 _) (h6 post J h))))⟩
theorem ky_56 (H : kr_H rg ex sr kd fc hr ct so ko fo fd ir yg) : ∀ m re, 96 - ky_n re ≤ m → ky_I (kg_M rg kd fc hr ct) re → (∀ t, kg_rt rg t → re (t + 1) ≠ 0) →
    ∃ re', ky_I (kg_M rg kd fc hr ct) re' ∧ (∀ s, s < 96 → (re' (s + 1) ≠ 0 ↔ kg_M rg kd fc hr ct s)) ∧
      ∀ post : Int32 → SY → Prop, (∃ n112, wY_reachableWords_112 post cp sn cl fn so ko fo fd ir re' yg la n112 0 1) → ∃ n, wY_reachableWords_56 post n 1 cp sn cl fn so ko fo fd ir re yg la := by
  intro m
  induction m with
  | zero =>
    intro re hm hI hr0
    obtain ⟨x', re', h1, h2, h3, h4, h5, h6⟩ := ky_64 rg ex sr kd fc hr ct cp sn cl fn so ko fo fd ir yg la H 96 0 rfl 0 re (Or.inl rfl) hI
    by_cases z : x' = 0
    · subst z
      obtain ⟨-, e, hcl⟩ := h4 rfl
      subst e
      refine ⟨re', hI, fun s hs => ⟨hI.2 s hs, fun h => ?_⟩, fun post h => ⟨2, br_f kb_10 ⟨97, h6 post _ (br_t rfl h)⟩⟩⟩
      exact (h (fun s => s < 96 ∧ re' (s + 1) ≠ 0) (fun t ht => ⟨ht.1, hr0 t ht⟩) (fun s t g e => ⟨e.1, hcl s (by omega) g.1 g.2 t e⟩)).2
    · rcases h5 z with g | g
      · exact absurd rfl g
      · have := ky_n_le re'
        omega
  | succ m ih =>
    intro re hm hI hr0
    obtain ⟨x', re', h1, h2, h3, h4, h5, h6⟩ := ky_64 rg ex sr kd fc hr ct cp sn cl fn so ko fo fd ir yg la H 96 0 rfl 0 re (Or.inl rfl) hI
    by_cases z : x' = 0
    · subst z
      obtain ⟨-, e, hcl⟩ := h4 rfl
      subst e
      refine ⟨re', hI, fun s hs => ⟨hI.2 s hs, fun h => ?_⟩, fun post h => ⟨2, br_f kb_10 ⟨97, h6 post _ (br_t rfl h)⟩⟩⟩
      exact (h (fun s => s < 96 ∧ re' (s + 1) ≠ 0) (fun t ht => ⟨ht.1, hr0 t ht⟩) (fun s t g e => ⟨e.1, hcl s (by omega) g.1 g.2 t e⟩)).2
    · have z1 : x' = 1 := by rcases h2 with g | g; exact absurd g z; exact g
      subst z1
      have hlt : ky_n re < ky_n re' := by
        rcases h5 z with g | g
        · exact absurd rfl g
        · exact g
      have := ky_n_le re'
      obtain ⟨re2, i1, i2, i3⟩ := ih re' (by omega) h1 (fun t ht => h3 t ht.1 (hr0 t ht))
      refine ⟨re2, i1, i2, fun post h => ?_⟩
      obtain ⟨n, hn⟩ := i3 post h
      exact ⟨n + 1, br_f kb_10 ⟨97, h6 post _ hn⟩⟩
theorem ky_23 (H : kr_H rg ex sr kd fc hr ct so ko fo fd ir yg) : ∀ d i, i + d = 8 → ∀ re, (∀ s, s < 96 → re (s + 1) ≠ 0 → kg_M rg kd fc hr ct s) →
    (∀ j, j < i → ∀ t, t < 96 → rg j = nI t → re (t + 1) ≠ 0) → ∃ re', ky_I (kg_M rg kd fc hr ct) re' ∧ (∀ t, kg_rt rg t → re' (t + 1) ≠ 0) ∧
      ∀ post : Int32 → SY → Prop, (∃ n56, wY_reachableWords_56 post n56 1 cp sn cl fn so ko fo fd ir re' yg la) → wY_reachableWords_23 post cp sn cl fn (d + 1) (nI i) so ko fo fd ir re yg la := by
  intro d
  induction d with
  | zero =>
    intro i hi re hs hd
    refine ⟨upd re 0 0, ⟨pk_us, fun s h1 h2 => hs s h1 (by rw [pk_un (by omega)] at h2; exact h2)⟩, fun t ⟨h1, r, h2, h3⟩ => ?_, fun post h => br_t (nI_le (a := 8) (by omega) (by omega)) (nm_r (by rw [kb_n0]) h)⟩
    rw [pk_un (by omega)]
    exact hd r (by omega) t h1 h3
  | succ d ih =>
    intro i hi re hs hd
    have hg := nI_ge (a := i) (b := 8) (by omega) (by omega)
    have ec := nI_clamp (n := i) (by omega)
    have hin := vp_in_nI (n := i) (N := 8) (by omega) (by omega)
    rcases H.1 i (by omega) with ⟨b1, b2⟩ | ⟨t, t1, t2, t3, -⟩
    · obtain ⟨re', h1, h2, h3⟩ := ih (i + 1) (by omega) (upd re 0 1) (fun s g1 g2 => hs s g1 (by rw [pk_un (by omega)] at g2; exact g2)) (fun j g1 t g2 g3 => by
        rw [pk_un (by omega)]
        by_cases y : j = i
        · subst y; rw [b1] at g3; exact absurd g3.symm (kb_m1 (by omega))
        · exact hd j (by omega) t g2 g3)
      refine ⟨re', h1, h2, fun post h => br_f hg ⟨hin, ?_⟩⟩
      rw [ec, b2]
      exact ⟨vp_in_nI (n := 0) (N := 97) (by omega) (by omega), nm_r (by rw [kb_n1]; rfl) (nm_r (nI_1 _) (h3 post h))⟩
    · have etc := nI_clamp (n := t + 1) (by omega)
      obtain ⟨re', h1, h2, h3⟩ := ih (i + 1) (by omega) (upd re (t + 1) 1) (fun s g1 g2 => by
        by_cases y : s = t
        · subst y; exact kg_r ⟨t1, i, by omega, t2⟩
        · rw [pk_un (by omega)] at g2; exact hs s g1 g2) (fun j g1 t' g2 g3 => by
        by_cases y : t' = t
        · subst y; rw [pk_us]; exact kb_10
        · rw [pk_un (by omega)]
          by_cases y2 : j = i
          · subst y2
            rw [t2] at g3
            exact absurd (kb_inj g3 (by omega) (by omega)).symm y
          · exact hd j (by omega) t' g2 g3)
      refine ⟨re', h1, h2, fun post h => br_f hg ⟨hin, ?_⟩⟩
      rw [ec, t3]
      exact ⟨vp_in_nI (n := t + 1) (N := 97) (by omega) (by omega), nm_r (by rw [kb_n1, etc]) (nm_r (nI_1 _) (h3 post h))⟩
theorem ky_2 : ∀ d i, i + d = 97 → ∀ re, (∀ j, j < i → re j = 0) → ∃ re', (∀ j, j < 97 → re' j = 0) ∧
      ∀ post : Int32 → SY → Prop, (∃ n23, wY_reachableWords_23 post cp sn cl fn n23 0 so ko fo fd ir re' yg la) → wY_reachableWords_2 post cp sn cl fn (d + 1) (nI i) so ko fo fd ir re yg la := by
  intro d
  induction d with
  | zero =>
    intro i hi re hd
    exact ⟨re, fun j hj => hd j (by omega), fun post h => br_t (nI_le (a := 97) (by omega) (by omega)) h⟩
  | succ d ih =>
    intro i hi re hd
    have ec := nI_clamp (n := i) (by omega)
    obtain ⟨re', h1, h2⟩ := ih (i + 1) (by omega) (upd re i 0) (fun j hj => by
      by_cases y : j = i
      · subst y; exact pk_us
      · rw [pk_un y]; exact hd j (by omega))
    refine ⟨re', h1, fun post h => br_f (nI_ge (b := 97) (by omega) (by omega)) ⟨vp_in_nI (by omega) (by omega), nm_r (by rw [ec, kb_n0]) (nm_r (nI_1 i) (h2 post h))⟩⟩
theorem ky_112 {post : Int32 → SY → Prop} (hp : post (kb_sum (fun s => re (s + 1)) (fun s => fo (s + 1)) 96) (cp, sn, cl, fn, so, ko, fo, fd, ir, re, yg, la)) : ∃ n112, wY_reachableWords_112 post cp sn cl fn so ko fo fd ir re yg la n112 0 1 := by
  have h : ∀ d i, i + d = 96 → wY_reachableWords_112 post cp sn cl fn so ko fo fd ir re yg la (d + 1) (kb_sum (fun s => re (s + 1)) (fun s => fo (s + 1)) i) (nI (i + 1)) := by
    intro d
    induction d with
    | zero => intro i hi; obtain rfl : i = 96 := by omega
              exact br_t (nI_le (a := 97) (b := 97) (by omega) (by omega)) hp
    | succ d ih =>
      intro i hi
      have e := nI_clamp (n := i + 1) (by omega)
      have hin := vp_in_nI (n := i + 1) (N := 97) (by omega) (by omega)
      have hs := ih (i + 1) (by omega)
      unfold kb_sum at hs
      refine br_f (nI_ge (b := 97) (by omega) (by omega)) ⟨hin, ?_⟩
      rw [e]
      by_cases z : re (i + 1) = 0
      · rw [if_pos z] at hs
        exact br_t z (nm_r (Int32.add_zero _) (nm_r (nI_1 (i + 1)) hs))
      · rw [if_neg z] at hs
        exact br_f z ⟨hin, nm_e (nm_r (nI_1 (i + 1)) hs)⟩
  exact ⟨97, h 96 0 rfl⟩
theorem ky_find (H : kr_H rg ex sr kd fc hr ct so ko fo fd ir yg) :
    ∃ re', re' 0 = 0 ∧ (∀ s, s < 96 → (re' (s + 1) ≠ 0 ↔ kg_M rg kd fc hr ct s)) ∧
      ∀ post : Int32 → SY → Prop, post (kb_sum (fun s => re' (s + 1)) (fun s => fo (s + 1)) 96) (cp, sn, cl, fn, so, ko, fo, fd, ir, re', yg, la) → wpY_reachableWords post (cp, sn, cl, fn, so, ko, fo, fd, ir, re, yg, la) := by
  obtain ⟨re0, z0, w0⟩ := ky_2 cp sn cl fn so ko fo fd ir yg la 97 0 rfl re (fun j hj => by omega)
  obtain ⟨re1, I1, r1, w1⟩ := ky_23 rg ex sr kd fc hr ct cp sn cl fn so ko fo fd ir yg la H 8 0 rfl re0 (fun s h1 h2 => absurd (z0 (s + 1) (by omega)) h2) (fun j hj => by omega)
  obtain ⟨re2, I2, r2, w2⟩ := ky_56 rg ex sr kd fc hr ct cp sn cl fn so ko fo fd ir yg la H 96 re1 (by omega) I1 r1
  exact ⟨re2, I2.1, r2, fun post h => ⟨98, w0 post ⟨9, w1 post (w2 post (ky_112 cp sn cl fn so ko fo fd ir re2 yg la h))⟩⟩⟩
end
end
section
/-! weak fields of both sides -/
def kw_d (M : Nat → Prop) (kd ct : Nat → Int32) (s : Nat) : Prop := M s ∧ kd s = 2 ∧ ∃ t, t < 96 ∧ ct (6 * s) = nI t ∧ ¬ M t
def kw_P (i : Nat) (M : Nat → Prop) (kd ct c1 : Nat → Int32) : Prop := ∀ s, s < 96 → ∀ f, f < 6 →
  (f = 0 ∧ s < i ∧ kw_d M kd ct s → c1 (6 * s + f) = -1) ∧ (¬ (f = 0 ∧ s < i ∧ kw_d M kd ct s) → c1 (6 * s + f) = ct (6 * s + f))
def kw_Q (i : Nat) (M : Nat → Prop) (kd ct fd f1 : Nat → Int32) : Prop := ∀ s, s < 96 → ∀ f, f < 6 →
  (f = 0 ∧ s < i ∧ kw_d M kd ct s → f1 (6 * (s + 1) + f) = 0) ∧ (¬ (f = 0 ∧ s < i ∧ kw_d M kd ct s) → f1 (6 * (s + 1) + f) = fd (6 * (s + 1) + f))
theorem kw_Pn {i : Nat} {M : Nat → Prop} {kd ct c1 : Nat → Int32} (h : kw_P i M kd ct c1) (n : ¬ kw_d M kd ct i) : kw_P (i + 1) M kd ct c1 := by
  intro s hs f hf
  refine ⟨fun ⟨a, b, c⟩ => ?_, fun z => (h s hs f hf).2 (fun ⟨a, b, c⟩ => z ⟨a, by omega, c⟩)⟩
  by_cases y : s = i
  · subst y; exact absurd c n
  · exact (h s hs f hf).1 ⟨a, by omega, c⟩
theorem kw_Qn {i : Nat} {M : Nat → Prop} {kd ct fd f1 : Nat → Int32} (h : kw_Q i M kd ct fd f1) (n : ¬ kw_d M kd ct i) : kw_Q (i + 1) M kd ct fd f1 := by
  intro s hs f hf
  refine ⟨fun ⟨a, b, c⟩ => ?_, fun z => (h s hs f hf).2 (fun ⟨a, b, c⟩ => z ⟨a, by omega, c⟩)⟩
  by_cases y : s = i
  · subst y; exact absurd c n
  · exact (h s hs f hf).1 ⟨a, by omega, c⟩
theorem kw_Pu {i : Nat} {M : Nat → Prop} {kd ct c1 : Nat → Int32} (h : kw_P i M kd ct c1) (n : kw_d M kd ct i) : kw_P (i + 1) M kd ct (upd c1 (6 * i) (-1)) := by
  intro s hs f hf
  by_cases y : s = i ∧ f = 0
  · obtain ⟨y1, y2⟩ := y
    subst y1; subst y2
    exact ⟨fun _ => pk_us, fun z => absurd ⟨rfl, by omega, n⟩ z⟩
  · rw [pk_un (by omega)]
    refine ⟨fun ⟨a, b, c⟩ => (h s hs f hf).1 ⟨a, by omega, c⟩, fun z => (h s hs f hf).2 (fun ⟨a, b, c⟩ => z ⟨a, by omega, c⟩)⟩
theorem kw_Qu {i : Nat} {M : Nat → Prop} {kd ct fd f1 : Nat → Int32} (h : kw_Q i M kd ct fd f1) (n : kw_d M kd ct i) : kw_Q (i + 1) M kd ct fd (upd f1 (6 * (i + 1)) 0) := by
  intro s hs f hf
  by_cases y : s = i ∧ f = 0
  · obtain ⟨y1, y2⟩ := y
    subst y1; subst y2
    exact ⟨fun _ => pk_us, fun z => absurd ⟨rfl, by omega, n⟩ z⟩
  · rw [pk_un (by omega)]
    refine ⟨fun ⟨a, b, c⟩ => (h s hs f hf).1 ⟨a, by omega, c⟩, fun z => (h s hs f hf).2 (fun ⟨a, b, c⟩ => z ⟨a, by omega, c⟩)⟩
theorem kw_Q0 {i : Nat} {M : Nat → Prop} {kd ct fd f1 : Nat → Int32} (h : kw_Q i M kd ct fd f1) (e : f1 (6 * (i + 1)) = 0) (n : ¬ kw_d M kd ct i) : kw_Q (i + 1) M kd ct fd (upd f1 (6 * (i + 1)) 0) := by
  have e2 : upd f1 (6 * (i + 1)) 0 = f1 := by
    funext j
    by_cases y : j = 6 * (i + 1)
    · subst y; rw [pk_us, e]
    · rw [pk_un y]
  rw [e2]
  exact kw_Qn h n
theorem kw_x {M : Nat → Prop} (cap rc fl co ls : Int32) (rg ex sr kd fc hr ct ra rd fs : Nat → Int32) (hM : ∀ s, s < 96 → (ra s ≠ 0 ↔ M s)) (hv : ∀ s, s < 96 → kd s = 2 → ct (6 * s) = -1 ∨ ∃ t, t < 96 ∧ ct (6 * s) = nI t) :
    ∃ ct', kw_P 96 M kd ct ct' ∧ ∀ post : SX → Prop, post (cap, rc, fl, co, ls, rg, ex, sr, kd, fc, hr, ct', ra, rd, fs) → wpX_clearWeakFields post (cap, rc, fl, co, ls, rg, ex, sr, kd, fc, hr, ct, ra, rd, fs) := by
  have L : ∀ d i, i + d = 96 → ∀ c1, kw_P i M kd ct c1 → ∃ ct', kw_P 96 M kd ct ct' ∧ ∀ post : SX → Prop, post (cap, rc, fl, co, ls, rg, ex, sr, kd, fc, hr, ct', ra, rd, fs) → wX_clearWeakFields_2 post cap rc fl co ls (d + 1) (nI i) rg ex sr kd fc hr c1 ra rd fs := by
    intro d
    induction d with
    | zero =>
      intro i hi c1 h1
      obtain rfl : i = 96 := by omega
      exact ⟨c1, h1, fun post h => br_t (nI_le (a := 96) (b := 96) (by omega) (by omega)) h⟩
    | succ d ih =>
      intro i hi c1 h1
      have hg := nI_ge (a := i) (b := 96) (by omega) (by omega)
      have ec := nI_clamp (n := i) (by omega)
      have hin := vp_in_nI (n := i) (N := 96) (by omega) (by omega)
      have ecc := nI_clamp (n := 6 * i) (by omega)
      have hinc := vp_in_nI (n := 6 * i) (N := 576) (by omega) (by omega)
      by_cases z : ra i = 0
      · obtain ⟨ct', j1, j2⟩ := ih (i + 1) (by omega) c1 (kw_Pn h1 (fun n => (hM i (by omega)).mpr n.1 z))
        refine ⟨ct', j1, fun post h => br_f hg ⟨hin, ?_⟩⟩
        rw [ec]
        exact br_t z (nm_r (nI_1 i) (j2 post h))
      · by_cases k2 : kd i = 2
        · have e1 : c1 (6 * i) = ct (6 * i) := (h1 i (by omega) 0 (by omega)).2 (fun y => by omega)
          rcases hv i (by omega) k2 with g | ⟨t, g1, g2⟩
          · obtain ⟨ct', j1, j2⟩ := ih (i + 1) (by omega) c1 (kw_Pn h1 (fun ⟨_, _, t, t1, t2, _⟩ => kb_m1 (a := t) (by omega) (t2.symm.trans g)))
            refine ⟨ct', j1, fun post h => br_f hg ⟨hin, ?_⟩⟩
            rw [ec]
            refine br_f z ⟨hin, br_t k2 (kb_cell _ _ _ _ _ _ _ _ _ _ _ _ _ _ _ (6 * i) (kb_cx0 i) ⟨hinc, ?_⟩)⟩
            rw [ecc]
            exact br_t (e1.trans g) (nm_r (nI_1 i) (j2 post h))
          · have etc := nI_clamp (n := t) (by omega)
            have hint := vp_in_nI (n := t) (N := 96) (by omega) (by omega)
            have hne : ¬ nI t = -1 := kb_m1 (by omega)
            by_cases y : ra t = 0
            · obtain ⟨ct', j1, j2⟩ := ih (i + 1) (by omega) (upd c1 (6 * i) (-1)) (kw_Pu h1 ⟨(hM i (by omega)).mp z, k2, t, g1, g2, fun m => (hM t g1).mpr m y⟩)
              refine ⟨ct', j1, fun post h => br_f hg ⟨hin, ?_⟩⟩
              rw [ec]
              refine br_f z ⟨hin, br_t k2 (kb_cell _ _ _ _ _ _ _ _ _ _ _ _ _ _ _ (6 * i) (kb_cx0 i) ⟨hinc, ?_⟩)⟩
              rw [ecc, e1, g2]
              refine br_f hne ⟨hinc, hint, ?_⟩
              rw [etc]
              exact br_t y ⟨hinc, nm_e (nm_r (nI_1 i) (j2 post h))⟩
            · obtain ⟨ct', j1, j2⟩ := ih (i + 1) (by omega) c1 (kw_Pn h1 (fun ⟨_, _, t', t1, t2, t3⟩ => by
                rw [g2] at t2
                have := kb_inj t2 (by omega) (by omega)
                subst this
                exact t3 ((hM t g1).mp y)))
              refine ⟨ct', j1, fun post h => br_f hg ⟨hin, ?_⟩⟩
              rw [ec]
              refine br_f z ⟨hin, br_t k2 (kb_cell _ _ _ _ _ _ _ _ _ _ _ _ _ _ _ (6 * i) (kb_cx0 i) ⟨hinc, ?_⟩)⟩
              rw [ecc, e1, g2]
              refine br_f hne ⟨hinc, hint, ?_⟩
              rw [etc]
              exact br_f y (nm_r (nI_1 i) (j2 post h))
        · obtain ⟨ct', j1, j2⟩ := ih (i + 1) (by omega) c1 (kw_Pn h1 (fun n => k2 n.2.1))
          refine ⟨ct', j1, fun post h => br_f hg ⟨hin, ?_⟩⟩
          rw [ec]
          exact br_f z ⟨hin, br_f k2 (nm_r (nI_1 i) (j2 post h))⟩
  obtain ⟨ct', j1, j2⟩ := L 96 0 rfl ct (fun s hs f hf => ⟨fun ⟨_, b, _⟩ => by omega, fun _ => rfl⟩)
  exact ⟨ct', j1, fun post h => ⟨97, j2 post h⟩⟩
theorem kw_y {M : Nat → Prop} (kd ct : Nat → Int32) (cp sn cl fn : Int32) (so ko fo fd ir re yg la : Nat → Int32) (x1 : Int32) (h0 : re 0 = 0) (hM : ∀ s, s < 96 → (re (s + 1) ≠ 0 ↔ M s)) (hk : ∀ s, s < 96 → ko (s + 1) = kd s)
    (hv : ∀ s, s < 96 → kd s = 2 → kr_p (fun _ => True) (ct (6 * s)) (fd (6 * (s + 1)))) :
    ∃ fd', kw_Q 96 M kd ct fd fd' ∧ ∀ post : Int32 → SY → Prop, wpY_leastDead (fun r => ∃ n80, wY_collect_80 post x1 cp sn cl n80 r fn so ko fo fd' ir re yg la) (cp, sn, cl, fn, so, ko, fo, fd', ir, re, yg, la) → ∃ n17, wY_collect_17 post x1 cp sn cl fn n17 1 so ko fo fd ir re yg la := by
  have L : ∀ d i, i + d = 96 → ∀ f1, kw_Q i M kd ct fd f1 → ∃ fd', kw_Q 96 M kd ct fd fd' ∧ ∀ post : Int32 → SY → Prop,
      wpY_leastDead (fun r => ∃ n80, wY_collect_80 post x1 cp sn cl n80 r fn so ko fo fd' ir re yg la) (cp, sn, cl, fn, so, ko, fo, fd', ir, re, yg, la) → wY_collect_17 post x1 cp sn cl fn (d + 1) (nI (i + 1)) so ko fo f1 ir re yg la := by
    intro d
    induction d with
    | zero =>
      intro i hi f1 h1
      obtain rfl : i = 96 := by omega
      exact ⟨f1, h1, fun post h => br_t (nI_le (a := 97) (b := 97) (by omega) (by omega)) h⟩
    | succ d ih =>
      intro i hi f1 h1
      have hg := nI_ge (a := i + 1) (b := 97) (by omega) (by omega)
      have ec := nI_clamp (n := i + 1) (by omega)
      have hin := vp_in_nI (n := i + 1) (N := 97) (by omega) (by omega)
      have ecc := nI_clamp (n := 6 * (i + 1)) (by omega)
      have hinc := vp_in_nI (n := 6 * (i + 1)) (N := 582) (by omega) (by omega)
      by_cases z : re (i + 1) = 0
      · obtain ⟨fd', j1, j2⟩ := ih (i + 1) (by omega) f1 (kw_Qn h1 (fun n => (hM i (by omega)).mpr n.1 z))
        refine ⟨fd', j1, fun post h => br_f hg ⟨hin, ?_⟩⟩
        rw [ec]
        exact br_t z (nm_r (nI_1 _) (j2 post h))
      · by_cases k2 : kd i = 2
        · have k2' : ko (i + 1) = 2 := (hk i (by omega)).trans k2
          have e1 : f1 (6 * (i + 1)) = fd (6 * (i + 1)) := (h1 i (by omega) 0 (by omega)).2 (fun y => by omega)
          rcases hv i (by omega) k2 with ⟨g, g'⟩ | ⟨t, g1, g2, g3, -⟩
          · obtain ⟨fd', j1, j2⟩ := ih (i + 1) (by omega) (upd f1 (6 * (i + 1)) 0) (kw_Q0 h1 (e1.trans g') (fun ⟨_, _, t, t1, t2, _⟩ => kb_m1 (a := t) (by omega) (t2.symm.trans g)))
            refine ⟨fd', j1, fun post h => br_f hg ⟨hin, ?_⟩⟩
            rw [ec, kb_cy0, ecc, e1, g']
            exact br_f z ⟨hin, br_t k2' ⟨hinc, vp_in_nI (n := 0) (N := 97) (by omega) (by omega), br_t h0 ⟨hinc, nm_e (nm_r (nI_1 _) (j2 post h))⟩⟩⟩
          · have etc := nI_clamp (n := t + 1) (by omega)
            have hint := vp_in_nI (n := t + 1) (N := 97) (by omega) (by omega)
            by_cases y : re (t + 1) = 0
            · obtain ⟨fd', j1, j2⟩ := ih (i + 1) (by omega) (upd f1 (6 * (i + 1)) 0) (kw_Qu h1 ⟨(hM i (by omega)).mp z, k2, t, g1, g2, fun m => (hM t g1).mpr m y⟩)
              refine ⟨fd', j1, fun post h => br_f hg ⟨hin, ?_⟩⟩
              rw [ec, kb_cy0, ecc, e1, g3, etc]
              exact br_f z ⟨hin, br_t k2' ⟨hinc, hint, br_t y ⟨hinc, nm_e (nm_r (nI_1 _) (j2 post h))⟩⟩⟩
            · obtain ⟨fd', j1, j2⟩ := ih (i + 1) (by omega) f1 (kw_Qn h1 (fun ⟨_, _, t', t1, t2, t3⟩ => by
                rw [g2] at t2
                have := kb_inj t2 (by omega) (by omega)
                subst this
                exact t3 ((hM t g1).mp y)))
              refine ⟨fd', j1, fun post h => br_f hg ⟨hin, ?_⟩⟩
              rw [ec, kb_cy0, ecc, e1, g3, etc]
              exact br_f z ⟨hin, br_t k2' ⟨hinc, hint, br_f y (nm_r (nI_1 _) (j2 post h))⟩⟩
        · have k2' : ¬ ko (i + 1) = 2 := by rw [hk i (by omega)]; exact k2
          obtain ⟨fd', j1, j2⟩ := ih (i + 1) (by omega) f1 (kw_Qn h1 (fun n => k2 n.2.1))
          refine ⟨fd', j1, fun post h => br_f hg ⟨hin, ?_⟩⟩
          rw [ec]
          exact br_f z ⟨hin, br_f k2' (nm_r (nI_1 _) (j2 post h))⟩
  obtain ⟨fd', j1, j2⟩ := L 96 0 rfl fd (fun s hs f hf => ⟨fun ⟨_, b, _⟩ => by omega, fun _ => rfl⟩)
  exact ⟨fd', j1, fun post h => ⟨97, j2 post h⟩⟩
end
section
/-! the least of a set, the run of finalizations -/
def kf_l (D N : Nat → Int32) : Nat → Nat
  | 0 => 0
  | j + 1 => if D j = 0 then kf_l D N j else if kf_l D N j = 0 then j + 1 else if N (kf_l D N j - 1) ≤ N j then kf_l D N j else j + 1
def kf_S (D N : Nat → Int32) (j b : Nat) : Prop :=
  (b = 0 ∧ ∀ i, i < j → D i = 0) ∨ ∃ s, b = s + 1 ∧ s < j ∧ D s ≠ 0 ∧ (∀ i, i < s → D i ≠ 0 → N s < N i) ∧ ∀ i, i < j → D i ≠ 0 → N s ≤ N i
theorem kf_spec (D N : Nat → Int32) : ∀ j, kf_S D N j (kf_l D N j) := by
  intro j
  induction j with
  | zero => exact Or.inl ⟨rfl, fun i hi => by omega⟩
  | succ j ih =>
    unfold kf_l
    by_cases z : D j = 0
    · rw [if_pos z]
      rcases ih with ⟨h1, h2⟩ | ⟨s, h1, h2, h3, h4, h5⟩
      · exact Or.inl ⟨h1, fun i hi => by
          by_cases y : i = j
          · subst y; exact z
          · exact h2 i (by omega)⟩
      · refine Or.inr ⟨s, h1, by omega, h3, h4, fun i hi hd => ?_⟩
        by_cases y : i = j
        · subst y; exact absurd z hd
        · exact h5 i (by omega) hd
    · rw [if_neg z]
      rcases ih with ⟨h1, h2⟩ | ⟨s, h1, h2, h3, h4, h5⟩
      · rw [if_pos h1]
        refine Or.inr ⟨j, rfl, by omega, z, fun i hi hd => absurd (h2 i hi) hd, fun i hi hd => ?_⟩
        by_cases y : i = j
        · subst y; exact Int32.le_refl _
        · exact absurd (h2 i (by omega)) hd
      · rw [if_neg (by omega), h1, Nat.add_sub_cancel]
        by_cases c : N s ≤ N j
        · rw [if_pos c]
          refine Or.inr ⟨s, rfl, by omega, h3, h4, fun i hi hd => ?_⟩
          by_cases y : i = j
          · subst y; exact c
          · exact h5 i (by omega) hd
        · rw [if_neg c]
          have c' : N j < N s := Int32.not_le.mp c
          refine Or.inr ⟨j, rfl, by omega, z, fun i hi hd => ?_, fun i hi hd => ?_⟩
          · have := h5 i hi hd
            rw [Int32.lt_iff_toInt_lt] at *
            rw [Int32.le_iff_toInt_le] at *
            omega
          · by_cases y : i = j
            · subst y; exact Int32.le_refl _
            · have := h5 i (by omega) hd
              rw [Int32.lt_iff_toInt_lt] at *
              rw [Int32.le_iff_toInt_le] at *
              omega
theorem kf_uniq {D N : Nat → Int32} {j b b' : Nat} (h : kf_S D N j b) (g : kf_S D N j b') : b = b' := by
  rcases h with ⟨h1, h2⟩ | ⟨s, h1, h2, h3, h4, h5⟩
  · rcases g with ⟨g1, g2⟩ | ⟨s', g1, g2, g3, g4, g5⟩
    · rw [h1, g1]
    · exact absurd (h2 s' g2) g3
  · rcases g with ⟨g1, g2⟩ | ⟨s', g1, g2, g3, g4, g5⟩
    · exact absurd (g2 s h2) h3
    · rw [h1, g1]
      rcases Nat.lt_trichotomy s s' with y | y | y
      · have a := g4 s y h3
        have b := h5 s' g2 g3
        rw [Int32.lt_iff_toInt_lt] at a
        rw [Int32.le_iff_toInt_le] at b
        omega
      · rw [y]
      · have a := h4 s' y g3
        have b := g5 s h2 h3
        rw [Int32.lt_iff_toInt_lt] at a
        rw [Int32.le_iff_toInt_le] at b
        omega
def kf_run (N : Nat → Int32) : Nat → (Nat → Int32) → Int32 → (Nat → Int32) → Int32 × (Nat → Int32)
  | 0, _, l, a => (l, a)
  | n + 1, D, l, a => if kf_l D N 96 = 0 then (l, a) else kf_run N n (upd D (kf_l D N 96 - 1) 0) (l + 1) (upd a (l &&& 15).toNatClampNeg (N (kf_l D N 96 - 1)))
theorem kf_run0 {N D a : Nat → Int32} {l : Int32} (h : kf_l D N 96 = 0) : ∀ n, kf_run N n D l a = (l, a) := by
  intro n
  cases n with
  | zero => rfl
  | succ n => unfold kf_run; rw [if_pos h]
theorem kf_run1 {N D a : Nat → Int32} {l : Int32} {s n : Nat} (h : kf_l D N 96 = s + 1) : kf_run N (n + 1) D l a = kf_run N n (upd D s 0) (l + 1) (upd a (l &&& 15).toNatClampNeg (N s)) := by
  show (if kf_l D N 96 = 0 then (l, a) else kf_run N n (upd D (kf_l D N 96 - 1) 0) (l + 1) (upd a (l &&& 15).toNatClampNeg (N (kf_l D N 96 - 1)))) = _
  rw [h, if_neg (by omega), Nat.add_sub_cancel]
theorem kf_15 (l : Int32) : vp_in (l &&& 15) 16 := pk_andIn l 4 (by decide) (by decide)
theorem kc_dn {a : Nat → Int32} {s : Nat} (hz : ¬ a s = 0) : ∀ j, s < j → kc_n (upd a s 0) j + 1 = kc_n a j := by
  intro j hj
  have e : upd (upd a s 0) s (a s) = a := by
    funext i
    by_cases y : i = s
    · subst y; rw [pk_us]
    · rw [pk_un y, pk_un y]
  have h := kc_up (a := upd a s 0) (s := s) (x := a s) pk_us hz j hj
  rw [e] at h
  omega
/-! the component -/
def kf_D (ex ra kd : Nat → Int32) : Nat → Int32 := fun s => if ex s ≠ 0 ∧ ra s = 0 ∧ kd s = 1 then 1 else 0
def kf_c : Nat → Int32
  | 0 => -1
  | s + 1 => nI s
theorem kf_42 {post : Int32 → Prop} {J : Int32 → Int32 → Prop} {x : Int32} {i : Nat} (cap rc fl co ls : Int32) (rg ex sr kd fc hr ct ra rd fs : Nat → Int32) (h : J x (nI (i + 1))) : wX_firstMadeToFinalize_42 post J x (nI i) cap rc fl co ls rg ex sr kd fc hr ct ra rd fs := by
  unfold wX_firstMadeToFinalize_42 wX_firstMadeToFinalize_43
  exact br_t rfl (nm_r (nI_1 i) h)
theorem kf_x {post : Int32 → Prop} (cap rc fl co ls : Int32) (rg ex sr kd fc hr ct ra rd fs : Nat → Int32) (hp : post (kf_c (kf_l (kf_D ex ra kd) sr 96))) : wpX_firstMadeToFinalize post (cap, rc, fl, co, ls, rg, ex, sr, kd, fc, hr, ct, ra, rd, fs) := by
  have L : ∀ d i, i + d = 96 → wX_firstMadeToFinalize_4 post cap rc fl co ls rg ex sr kd fc hr ct ra rd fs (d + 1) (kf_c (kf_l (kf_D ex ra kd) sr i)) (nI i) := by
    intro d
    induction d with
    | zero => intro i hi; obtain rfl : i = 96 := by omega
              exact br_t (nI_le (a := 96) (b := 96) (by omega) (by omega)) hp
    | succ d ih =>
      intro i hi
      have ec := nI_clamp (n := i) (by omega)
      have hin := vp_in_nI (n := i) (N := 96) (by omega) (by omega)
      have hs := ih (i + 1) (by omega)
      refine br_f (nI_ge (b := 96) (by omega) (by omega)) ⟨hin, ?_⟩
      rw [ec]
      by_cases D : kf_D ex ra kd i = 0
      · have e : kf_l (kf_D ex ra kd) sr (i + 1) = kf_l (kf_D ex ra kd) sr i := by
          show (if kf_D ex ra kd i = 0 then _ else _) = _
          rw [if_pos D]
        rw [e] at hs
        have hs2 := kf_42 (post := post) cap rc fl co ls rg ex sr kd fc hr ct ra rd fs hs
        by_cases z : ex i = 0
        · exact br_t z hs2
        · refine br_f z ⟨hin, ?_⟩
          by_cases y : ra i = 0
          · refine br_t y ⟨hin, br_f (fun k => ?_) hs2⟩
            unfold kf_D at D
            rw [if_pos ⟨z, y, k⟩] at D
            exact kb_10 D
          · exact br_f y hs2
      · have D' : ex i ≠ 0 ∧ ra i = 0 ∧ kd i = 1 := by
          unfold kf_D at D
          by_cases c : ex i ≠ 0 ∧ ra i = 0 ∧ kd i = 1
          · exact c
          · rw [if_neg c] at D; exact absurd rfl D
        have e : kf_l (kf_D ex ra kd) sr (i + 1) = if kf_l (kf_D ex ra kd) sr i = 0 then i + 1 else if sr (kf_l (kf_D ex ra kd) sr i - 1) ≤ sr i then kf_l (kf_D ex ra kd) sr i else i + 1 := by
          show (if kf_D ex ra kd i = 0 then _ else _) = _
          rw [if_neg D]
        rw [e] at hs
        refine br_f D'.1 ⟨hin, br_t D'.2.1 ⟨hin, br_t D'.2.2 ?_⟩⟩
        unfold wX_firstMadeToFinalize_43
        refine br_f kb_10 ?_
        rcases kf_spec (kf_D ex ra kd) sr i with ⟨h1, h2⟩ | ⟨s, h1, h2, h3, h4, h5⟩
        · rw [h1] at hs ⊢
          rw [if_pos rfl] at hs
          exact br_t rfl (nm_r (nI_1 i) hs)
        · rw [h1] at hs ⊢
          rw [if_neg (by omega), Nat.add_sub_cancel] at hs
          have es := nI_clamp (n := s) (by omega)
          refine br_f (kb_m1 (a := s) (by omega)) ⟨hin, vp_in_nI (n := s) (by omega) (by omega), ?_⟩
          rw [show kf_c (s + 1) = nI s from rfl, es, ec]
          by_cases c : sr s ≤ sr i
          · rw [if_pos c] at hs
            exact br_t c (nm_r (nI_1 i) hs)
          · rw [if_neg c] at hs
            exact br_f c (nm_r (nI_1 i) hs)
  exact ⟨97, L 96 0 rfl⟩
theorem kf_rec (cap rc fl co ls : Int32) (rg ex sr kd fc hr ct ra rd fs : Nat → Int32) : ∃ ex', ∀ post : SX → Prop, post (cap, rc, (kf_run sr 96 (kf_D ex ra kd) fl fs).1, co, ls, rg, ex', sr, kd, fc, hr, ct, ra, rd, (kf_run sr 96 (kf_D ex ra kd) fl fs).2) → wpX_recordFinalized post (cap, rc, fl, co, ls, rg, ex, sr, kd, fc, hr, ct, ra, rd, fs) := by
  have L : ∀ d i, i + d = 96 → ∀ ex fl fs, ∃ ex', ∀ post : SX → Prop, post (cap, rc, (kf_run sr d (kf_D ex ra kd) fl fs).1, co, ls, rg, ex', sr, kd, fc, hr, ct, ra, rd, (kf_run sr d (kf_D ex ra kd) fl fs).2) →
      wX_recordFinalized_2 post cap rc co ls (d + 1) (nI i) fl rg ex sr kd fc hr ct ra rd fs := by
    intro d
    induction d with
    | zero => intro i hi ex fl fs
              exact ⟨ex, fun post h => br_t (nI_le (a := 96) (by omega) (by omega)) h⟩
    | succ d ih =>
      intro i hi ex fl fs
      have hg := nI_ge (a := i) (b := 96) (by omega) (by omega)
      rcases kf_spec (kf_D ex ra kd) sr 96 with ⟨h1, h2⟩ | ⟨s, h1, h2, h3, h4, h5⟩
      · refine ⟨ex, fun post h => br_f hg (kf_x cap rc fl co ls rg ex sr kd fc hr ct ra rd fs ?_)⟩
        rw [h1]
        rw [kf_run0 h1] at h
        exact br_t rfl h
      · have es := nI_clamp (n := s) (by omega)
        have hin := vp_in_nI (n := s) (N := 96) (by omega) (by omega)
        have eD : kf_D (upd ex s 0) ra kd = upd (kf_D ex ra kd) s 0 := by
          funext j
          by_cases y : j = s
          · subst y
            rw [pk_us]
            unfold kf_D
            rw [if_neg (fun c => c.1 pk_us)]
          · rw [pk_un y]
            unfold kf_D
            rw [pk_un y]
        obtain ⟨ex', h⟩ := ih (i + 1) (by omega) (upd ex s 0) (fl + 1) (upd fs (fl &&& 15).toNatClampNeg (sr s))
        rw [eD] at h
        refine ⟨ex', fun post hp => br_f hg (kf_x cap rc fl co ls rg ex sr kd fc hr ct ra rd fs ?_)⟩
        rw [kf_run1 h1] at hp
        rw [h1]
        have hf := h post hp
        refine br_f (kb_m1 (a := s) (by omega)) ⟨hin, nm_r (e' := upd ex s 0) ?_ ⟨hin, kf_15 fl, nm_r (e' := upd fs (fl &&& 15).toNatClampNeg (sr s)) ?_ (nm_e (nm_r (nI_1 i) hf))⟩⟩
        · show upd ex (nI s).toNatClampNeg (vp_nar .boolean 0) = _
          rw [es, kb_n0]
        · show upd fs (fl &&& 15).toNatClampNeg (sr (nI s).toNatClampNeg) = _
          rw [es]
  obtain ⟨ex', h⟩ := L 96 0 rfl ex fl fs
  exact ⟨ex', fun post hp => ⟨97, h post hp⟩⟩
theorem kf_rem (cap rc fl co ls : Int32) (rg ex sr kd fc hr ct ra rd fs : Nat → Int32) (hb : ∀ s, s < 96 → ra s = 0 ∨ ra s = 1) : ∃ ex', (∀ s, s < 96 → ex' s = ra s) ∧ ∀ post : SX → Prop, post (cap, rc, fl, co, ls, rg, ex', sr, kd, fc, hr, ct, ra, rd, fs) → wpX_removeUnreachable post (cap, rc, fl, co, ls, rg, ex, sr, kd, fc, hr, ct, ra, rd, fs) := by
  have L : ∀ d i, i + d = 96 → ∀ ex, (∀ s, s < i → ex s = ra s) → ∃ ex', (∀ s, s < 96 → ex' s = ra s) ∧ ∀ post : SX → Prop, post (cap, rc, fl, co, ls, rg, ex', sr, kd, fc, hr, ct, ra, rd, fs) → wX_removeUnreachable_2 post cap rc fl co ls (d + 1) (nI i) rg ex sr kd fc hr ct ra rd fs := by
    intro d
    induction d with
    | zero => intro i hi ex h
              exact ⟨ex, fun s hs => h s (by omega), fun post h => br_t (nI_le (a := 96) (by omega) (by omega)) h⟩
    | succ d ih =>
      intro i hi ex h
      have ec := nI_clamp (n := i) (by omega)
      have hin := vp_in_nI (n := i) (N := 96) (by omega) (by omega)
      obtain ⟨ex', h1, h2⟩ := ih (i + 1) (by omega) (upd ex i (ra i)) (fun s hs => by
        by_cases y : s = i
        · subst y; exact pk_us
        · rw [pk_un y]; exact h s (by omega))
      exact ⟨ex', h1, fun post hp => br_f (nI_ge (b := 96) (by omega) (by omega)) ⟨hin, hin, nm_r (by rw [ec, kb_nar (hb i (by omega))]) (nm_r (nI_1 i) (h2 post hp))⟩⟩
  obtain ⟨ex', h1, h2⟩ := L 96 0 rfl ex (fun s hs => by omega)
  exact ⟨ex', h1, fun post hp => ⟨97, h2 post hp⟩⟩
/-! the reference -/
def kf_E (so re : Nat → Int32) : Nat → Int32 := fun s => if so (s + 1) ≠ 0 ∧ re (s + 1) = 0 then 1 else 0
theorem kf_E1 {so re : Nat → Int32} {s : Nat} : kf_E so re s ≠ 0 ↔ so (s + 1) ≠ 0 ∧ re (s + 1) = 0 := by
  unfold kf_E
  by_cases c : so (s + 1) ≠ 0 ∧ re (s + 1) = 0
  · rw [if_pos c]; exact ⟨fun _ => c, fun _ => kb_10⟩
  · rw [if_neg c]; exact ⟨fun h => absurd rfl h, fun h => absurd h c⟩
theorem kf_y {post : Int32 → Prop} (cp sn cl fn : Int32) (so ko fo fd ir re yg la : Nat → Int32) (hp : post (nI (kf_l (kf_E so re) (fun s => so (s + 1)) 96))) : wpY_leastDead post (cp, sn, cl, fn, so, ko, fo, fd, ir, re, yg, la) := by
  have L : ∀ d i, i + d = 96 → wY_leastDead_4 post cp sn cl fn so ko fo fd ir re yg la (d + 1) (nI (kf_l (kf_E so re) (fun s => so (s + 1)) i)) (nI (i + 1)) := by
    intro d
    induction d with
    | zero => intro i hi; obtain rfl : i = 96 := by omega
              exact br_t (nI_le (a := 97) (b := 97) (by omega) (by omega)) hp
    | succ d ih =>
      intro i hi
      have ec := nI_clamp (n := i + 1) (by omega)
      have hin := vp_in_nI (n := i + 1) (N := 97) (by omega) (by omega)
      have hs := ih (i + 1) (by omega)
      refine br_f (nI_ge (b := 97) (by omega) (by omega)) ⟨hin, ?_⟩
      rw [ec]
      by_cases D : kf_E so re i = 0
      · have e : kf_l (kf_E so re) (fun s => so (s + 1)) (i + 1) = kf_l (kf_E so re) (fun s => so (s + 1)) i := by
          show (if kf_E so re i = 0 then _ else _) = _
          rw [if_pos D]
        rw [e] at hs
        by_cases z : so (i + 1) = 0
        · exact br_t z (nm_r (nI_1 _) hs)
        · refine br_f z ⟨hin, br_f (fun y => ?_) (nm_r (nI_1 _) hs)⟩
          exact kf_E1.mpr ⟨z, y⟩ D
      · have D' := kf_E1.mp D
        have e : kf_l (kf_E so re) (fun s => so (s + 1)) (i + 1) = if kf_l (kf_E so re) (fun s => so (s + 1)) i = 0 then i + 1 else if so (kf_l (kf_E so re) (fun s => so (s + 1)) i - 1 + 1) ≤ so (i + 1) then kf_l (kf_E so re) (fun s => so (s + 1)) i else i + 1 := by
          show (if kf_E so re i = 0 then _ else _) = _
          rw [if_neg D]
        rw [e] at hs
        refine br_f D'.1 ⟨hin, br_t D'.2 ?_⟩
        rcases kf_spec (kf_E so re) (fun s => so (s + 1)) i with ⟨h1, h2⟩ | ⟨s, h1, h2, h3, h4, h5⟩
        · rw [h1] at hs ⊢
          rw [if_pos rfl] at hs
          exact br_t rfl (nm_r (nI_1 _) hs)
        · rw [h1] at hs ⊢
          rw [if_neg (by omega), Nat.add_sub_cancel] at hs
          have es := nI_clamp (n := s + 1) (by omega)
          refine br_f (nI_ne0 (n := s + 1) (by omega) (by omega)) ⟨hin, vp_in_nI (n := s + 1) (by omega) (by omega), ?_⟩
          rw [es]
          by_cases c : so (s + 1) ≤ so (i + 1)
          · rw [if_pos c] at hs
            exact br_t c (nm_r (nI_1 _) hs)
          · rw [if_neg c] at hs
            exact br_f c (nm_r (nI_1 _) hs)
  exact ⟨97, L 96 0 rfl⟩
theorem kf_80 (sr kd : Nat → Int32) (cp sn cl fn : Int32) (so ko fo fd ir re yg la : Nat → Int32) (x1 : Int32) (hk : ∀ s, s < 96 → ko (s + 1) = kd s) : ∀ m so D fn la n, kc_n (fun s => so (s + 1)) 96 ≤ m → kc_n D 96 ≤ n →
    (∀ s, s < 96 → (D s ≠ 0 ↔ kf_E so re s ≠ 0 ∧ kd s = 1)) → (∀ s, s < 96 → so (s + 1) ≠ 0 → so (s + 1) = sr s) →
    ∃ so', (∀ s, s < 96 → so' (s + 1) = if re (s + 1) = 0 then 0 else so (s + 1)) ∧ ∀ post : Int32 → SY → Prop,
      post x1 (cp, sn, cl, (kf_run sr n D fn la).1, so', ko, fo, fd, ir, re, yg, (kf_run sr n D fn la).2) → ∃ n80, wY_collect_80 post x1 cp sn cl n80 (nI (kf_l (kf_E so re) (fun s => so (s + 1)) 96)) fn so ko fo fd ir re yg la := by
  intro m
  induction m with
  | zero =>
    intro so D fn la n hm hn hD hs
    have hz : ∀ s, s < 96 → so (s + 1) = 0 := by
      intro s h
      by_cases z : so (s + 1) = 0
      · exact z
      · have := kc_dn (a := fun s => so (s + 1)) z 96 h
        omega
    have hl : kf_l D sr 96 = 0 := kf_uniq (kf_spec D sr 96) (Or.inl ⟨rfl, fun i hi => by
      by_cases z : D i = 0
      · exact z
      · exact absurd (hz i hi) (kf_E1.mp ((hD i hi).mp z).1).1⟩)
    have hl2 : kf_l (kf_E so re) (fun s => so (s + 1)) 96 = 0 := kf_uniq (kf_spec _ _ 96) (Or.inl ⟨rfl, fun i hi => by
      by_cases z : kf_E so re i = 0
      · exact z
      · exact absurd (hz i hi) (kf_E1.mp z).1⟩)
    refine ⟨so, fun s h => ?_, fun post hp => ⟨1, ?_⟩⟩
    · rw [hz s h]
      by_cases z : re (s + 1) = 0
      · rw [if_pos z]
      · rw [if_neg z]
    · rw [hl2]
      rw [kf_run0 hl] at hp
      exact br_t (nI_le (a := 0) (b := 0) (by omega) (by omega)) hp
  | succ m ih =>
    intro so D fn la n hm hn hD hs
    rcases kf_spec (kf_E so re) (fun s => so (s + 1)) 96 with ⟨h1, h2⟩ | ⟨s, h1, h2, h3, h4, h5⟩
    · have hl : kf_l D sr 96 = 0 := kf_uniq (kf_spec D sr 96) (Or.inl ⟨rfl, fun i hi => by
        by_cases z : D i = 0
        · exact z
        · exact absurd (h2 i hi) ((hD i hi).mp z).1⟩)
      refine ⟨so, fun s h => ?_, fun post hp => ⟨1, ?_⟩⟩
      · by_cases z : re (s + 1) = 0
        · rw [if_pos z]
          by_cases y : so (s + 1) = 0
          · exact y
          · exact absurd (h2 s h) (kf_E1.mpr ⟨y, z⟩)
        · rw [if_neg z]
      · rw [h1]
        rw [kf_run0 hl] at hp
        exact br_t (nI_le (a := 0) (b := 0) (by omega) (by omega)) hp
    · have ec := nI_clamp (n := s + 1) (by omega)
      have hin := vp_in_nI (n := s + 1) (N := 97) (by omega) (by omega)
      have h3' := kf_E1.mp h3
      have eS : (fun i => upd so (s + 1) 0 (i + 1)) = upd (fun i => so (i + 1)) s 0 := by
        funext i
        by_cases y : i = s
        · subst y; rw [pk_us, pk_us]
        · rw [pk_un y, pk_un (by omega)]
      have hm' : kc_n (fun i => upd so (s + 1) 0 (i + 1)) 96 ≤ m := by
        rw [eS]
        have := kc_dn (a := fun i => so (i + 1)) h3'.1 96 h2
        omega
      have hE : ∀ i, i < 96 → (kf_E (upd so (s + 1) 0) re i ≠ 0 ↔ kf_E so re i ≠ 0 ∧ i ≠ s) := by
        intro i hi
        rw [kf_E1, kf_E1]
        by_cases y : i = s
        · subst y
          rw [pk_us]
          exact ⟨fun h => absurd rfl h.1, fun h => absurd rfl h.2⟩
        · rw [pk_un (by omega)]
          exact ⟨fun h => ⟨h, y⟩, fun h => h.1⟩
      have hs' : ∀ i, i < 96 → upd so (s + 1) 0 (i + 1) ≠ 0 → upd so (s + 1) 0 (i + 1) = sr i := by
        intro i hi h
        by_cases y : i = s
        · subst y; rw [pk_us] at h; exact absurd rfl h
        · rw [pk_un (by omega)] at h ⊢; exact hs i hi h
      have hso : ∀ so' : Nat → Int32, (∀ i, i < 96 → so' (i + 1) = if re (i + 1) = 0 then 0 else upd so (s + 1) 0 (i + 1)) → ∀ i, i < 96 → so' (i + 1) = if re (i + 1) = 0 then 0 else so (i + 1) := by
        intro so' h i hi
        rw [h i hi]
        by_cases y : i = s
        · subst y; rw [if_pos h3'.2, if_pos h3'.2]
        · rw [pk_un (by omega)]
      by_cases k1 : kd s = 1
      · have hDs : D s ≠ 0 := (hD s h2).mpr ⟨h3, k1⟩
        have hl : kf_l D sr 96 = s + 1 := kf_uniq (kf_spec D sr 96) (Or.inr ⟨s, rfl, h2, hDs, fun i hi hd => by
            have g := ((hD i (by omega)).mp hd).1
            have := h4 i hi g
            rw [← hs s h2 h3'.1, ← hs i (by omega) (kf_E1.mp g).1]
            exact this, fun i hi hd => by
            have g := ((hD i (by omega)).mp hd).1
            have := h5 i hi g
            rw [← hs s h2 h3'.1, ← hs i (by omega) (kf_E1.mp g).1]
            exact this⟩)
        have hdn := kc_dn (a := D) hDs 96 h2
        obtain ⟨n', rfl⟩ : ∃ n', n = n' + 1 := ⟨n - 1, by omega⟩
        obtain ⟨so', j1, j2⟩ := ih (upd so (s + 1) 0) (upd D s 0) (fn + 1) (upd la (fn &&& 15).toNatClampNeg (sr s)) n' hm' (by omega) (fun i hi => by
          rw [hE i hi]
          by_cases y : i = s
          · subst y
            rw [pk_us]
            exact ⟨fun h => absurd rfl h, fun h => absurd rfl h.1.2⟩
          · rw [pk_un y, hD i hi]
            exact ⟨fun h => ⟨⟨h.1, y⟩, h.2⟩, fun h => ⟨h.1.1, h.2⟩⟩) hs'
        refine ⟨so', hso so' j1, fun post hp => ?_⟩
        rw [kf_run1 hl] at hp
        obtain ⟨n80, w⟩ := j2 post hp
        refine ⟨n80 + 1, ?_⟩
        rw [h1]
        refine br_f (nI_nle (by omega) (by omega)) ⟨hin, ?_⟩
        rw [ec]
        refine br_t ((hk s h2).trans k1) ⟨hin, kf_15 fn, nm_r (by rw [hs s h2 h3'.1]) (nm_e ?_)⟩
        unfold wY_collect_122
        refine ⟨hin, nm_r (by rw [ec]) ?_⟩
        exact kf_y _ _ _ _ _ _ _ _ _ _ _ _ w
      · have hDs : D s = 0 := by
          by_cases z : D s = 0
          · exact z
          · exact absurd ((hD s h2).mp z).2 k1
        obtain ⟨so', j1, j2⟩ := ih (upd so (s + 1) 0) D fn la n hm' hn (fun i hi => by
          rw [hE i hi]
          by_cases y : i = s
          · subst y
            exact ⟨fun h => absurd hDs h, fun h => absurd rfl h.1.2⟩
          · rw [hD i hi]
            exact ⟨fun h => ⟨⟨h.1, y⟩, h.2⟩, fun h => ⟨h.1.1, h.2⟩⟩) hs'
        refine ⟨so', hso so' j1, fun post hp => ?_⟩
        obtain ⟨n80, w⟩ := j2 post hp
        refine ⟨n80 + 1, ?_⟩
        rw [h1]
        refine br_f (nI_nle (by omega) (by omega)) ⟨hin, ?_⟩
        rw [ec]
        refine br_f (by rw [hk s h2]; exact k1) ?_
        unfold wY_collect_122
        refine ⟨hin, nm_r (by rw [ec]) ?_⟩
        exact kf_y _ _ _ _ _ _ _ _ _ _ _ _ w
end
section
/-! a collection on both sides -/
section
variable {rg ex sr kd fc hr ct so ko fo fd ir yg : Nat → Int32}
theorem kr_V (H : kr_H rg ex sr kd fc hr ct so ko fo fd ir yg) : kx_V fc hr ct := by
  intro s hs
  obtain ⟨F, hF, eF, -, -, -, -, -, -, hc⟩ := H.2 s hs
  refine ⟨F, hF, eF, fun f hf => ?_⟩
  rcases hc f hf with ⟨a, -, -⟩ | ⟨-, -, ⟨b, -⟩ | ⟨t, t1, t2, -, -⟩⟩
  · exact Or.inl a
  · exact Or.inr (Or.inl b)
  · exact Or.inr (Or.inr ⟨t, t1, t2⟩)
theorem kr_G (H : kr_H rg ex sr kd fc hr ct so ko fo fd ir yg) : ∀ r, r < 8 → rg r = -1 ∨ ∃ t, t < 96 ∧ rg r = nI t := by
  intro r hr
  rcases H.1 r hr with ⟨b, -⟩ | ⟨t, t1, t2, -, -⟩
  · exact Or.inl b
  · exact Or.inr ⟨t, t1, t2⟩
theorem kr_W (H : kr_H rg ex sr kd fc hr ct so ko fo fd ir yg) : ∀ s, s < 96 → kd s = 2 → kr_p (fun _ => True) (ct (6 * s)) (fd (6 * (s + 1))) := by
  intro s hs k2
  obtain ⟨F, hF, eF, -, -, -, -, -, hw, hc⟩ := H.2 s hs
  obtain ⟨w1, w2⟩ := hw k2
  rcases hc 0 (by omega) with ⟨a, -, -⟩ | ⟨-, -, ⟨b, c⟩ | ⟨t, t1, t2, t3, -⟩⟩
  · exact absurd (w2.symm.trans a) kb_10
  · exact Or.inl ⟨b, c⟩
  · exact Or.inr ⟨t, t1, t2, t3, trivial⟩
theorem kr_K (H : kr_H rg ex sr kd fc hr ct so ko fo fd ir yg) : ∀ s, s < 96 → ko (s + 1) = kd s := by
  intro s hs
  obtain ⟨F, hF, -, -, e, -⟩ := H.2 s hs
  exact e
theorem kr_F (H : kr_H rg ex sr kd fc hr ct so ko fo fd ir yg) : ∀ s, s < 96 → ∃ F, F ≤ 6 ∧ fc s = nI F ∧ fo (s + 1) = nI F := by
  intro s hs
  obtain ⟨F, hF, e1, e2, -⟩ := H.2 s hs
  exact ⟨F, hF, e1, e2⟩
theorem kr_O (H : kr_H rg ex sr kd fc hr ct so ko fo fd ir yg) : ∀ s, s < 96 → (ex s = 0 ↔ so (s + 1) = 0) ∧ (ex s ≠ 0 → so (s + 1) = sr s) := by
  intro s hs
  obtain ⟨F, hF, -, -, -, -, e, n, -⟩ := H.2 s hs
  by_cases z : ex s = 0
  · rw [if_pos z] at e
    exact ⟨⟨fun _ => e, fun _ => z⟩, fun h => absurd z h⟩
  · rw [if_neg z] at e
    exact ⟨⟨fun h => absurd h z, fun h => absurd (e.symm.trans h) (n z)⟩, fun _ => e⟩
theorem kr_words (H : kr_H rg ex sr kd fc hr ct so ko fo fd ir yg) : kb_sum (fun s => so (s + 1)) (fun s => fo (s + 1)) 96 = kb_sum ex fc 96 := by
  refine kb_sum_c 96 (fun s hs => ⟨((kr_O H s hs).1).symm, ?_⟩)
  obtain ⟨F, hF, e1, e2⟩ := kr_F H s hs
  exact e2.trans e1.symm
theorem kr_ME (H : kr_H rg ex sr kd fc hr ct so ko fo fd ir yg) {s : Nat} (h : kg_M rg kd fc hr ct s) : s < 96 ∧ ex s ≠ 0 := by
  refine h (fun s => s < 96 ∧ ex s ≠ 0) (fun t ⟨h1, r, h2, h3⟩ => ⟨h1, ?_⟩) (fun s t ⟨g1, g2⟩ ⟨e1, e2, f, f1, f2, f3, f4⟩ => ⟨e1, ?_⟩)
  · rcases H.1 r h2 with ⟨b, -⟩ | ⟨t', t1, t2, -, t3⟩
    · exact absurd (h3.symm.trans b) (kb_m1 (by omega))
    · have := kb_inj (h3.symm.trans t2) (by omega) (by omega)
      subst this
      exact t3
  · obtain ⟨F, hF, eF, -, -, -, -, -, -, hc⟩ := H.2 s g1
    rw [eF, nI_ltI (by omega) (by omega)] at f2
    rcases hc f f2 with ⟨a, -, -⟩ | ⟨-, -, ⟨b, -⟩ | ⟨t', t1, t2, -, t3⟩⟩
    · exact absurd a f3
    · exact absurd (f4.symm.trans b) (kb_m1 (by omega))
    · have := kb_inj (f4.symm.trans t2) (by omega) (by omega)
      subst this
      exact t3 g2
theorem kr_collH {ra re ex' ct' so' fd' : Nat → Int32} (H : kr_H rg ex sr kd fc hr ct so ko fo fd ir yg) (hb : ∀ s, s < 96 → ra s = 0 ∨ ra s = 1)
    (hm : ∀ s, s < 96 → (ra s ≠ 0 ↔ kg_M rg kd fc hr ct s)) (hp : kw_P 96 (kg_M rg kd fc hr ct) kd ct ct') (hq : kw_Q 96 (kg_M rg kd fc hr ct) kd ct fd fd')
    (hx : ∀ s, s < 96 → ex' s = ra s) (hre : ∀ s, s < 96 → (re (s + 1) ≠ 0 ↔ kg_M rg kd fc hr ct s)) (hso : ∀ s, s < 96 → so' (s + 1) = if re (s + 1) = 0 then 0 else so (s + 1)) :
    kr_H rg ex' sr kd fc hr ct' so' ko fo fd' ir yg := by
  have hxM : ∀ s, s < 96 → (ex' s ≠ 0 ↔ kg_M rg kd fc hr ct s) := fun s hs => by rw [hx s hs]; exact hm s hs
  constructor
  · intro r hr
    rcases H.1 r hr with ⟨b, c⟩ | ⟨t, t1, t2, t3, -⟩
    · exact Or.inl ⟨b, c⟩
    · exact Or.inr ⟨t, t1, t2, t3, (hxM t t1).mpr (kg_r ⟨t1, r, hr, t2⟩)⟩
  · intro s hs
    have hO := kr_O H s hs
    obtain ⟨F, hF, e1, e2, e3, e4, e5, e6, e7, hc⟩ := H.2 s hs
    refine ⟨F, hF, e1, e2, e3, by rw [hx s hs]; exact hb s hs, ?_, fun h => e6 (kr_ME H ((hxM s hs).mp h)).2, e7, fun f hf => ?_⟩
    · rw [hso s hs]
      by_cases z : ex' s = 0
      · rw [if_pos z]
        by_cases y : re (s + 1) = 0
        · rw [if_pos y]
        · exact absurd z ((hxM s hs).mpr ((hre s hs).mp y))
      · rw [if_neg z]
        have hM := (hxM s hs).mp z
        rw [if_neg ((hre s hs).mpr hM)]
        exact hO.2 (kr_ME H hM).2
    · by_cases c : f = 0 ∧ s < 96 ∧ kw_d (kg_M rg kd fc hr ct) kd ct s
      · rw [(hp s hs f (by omega)).1 c, (hq s hs f (by omega)).1 c]
        obtain ⟨c1, -, -, c2, -⟩ := c
        subst c1
        rcases hc 0 hf with ⟨a, -, -⟩ | ⟨a, b, -⟩
        · exact absurd ((e7 c2).2.symm.trans a) kb_10
        · exact Or.inr ⟨a, b, Or.inl ⟨rfl, rfl⟩⟩
      · rw [(hp s hs f (by omega)).2 c, (hq s hs f (by omega)).2 c]
        rcases hc f hf with ⟨a, b, d⟩ | ⟨a, b, ⟨d, e⟩ | ⟨t, t1, t2, t3, -⟩⟩
        · exact Or.inl ⟨a, b, d⟩
        · exact Or.inr ⟨a, b, Or.inl ⟨d, e⟩⟩
        · refine Or.inr ⟨a, b, Or.inr ⟨t, t1, t2, t3, fun g => (hxM t t1).mpr ?_⟩⟩
          have hM := (hxM s hs).mp g
          by_cases k2 : kd s = 2
          · have hF1 := (e7 k2).1
            have f0 : f = 0 := by omega
            subst f0
            refine Classical.byContradiction (fun n => c ⟨rfl, hs, hM, k2, t, t1, t2, n⟩)
          · exact kg_e hM ⟨t1, k2, f, by omega, by rw [e1]; exact nI_lt (by omega) (by omega), by rw [a]; exact kb_10, t2⟩
end
theorem kr_coll {S : Nat} {u : SX} {v : SY} (h : kr_R S u v) : ∃ u' v' r, kr_R S u' v' ∧ u'.1 = u.1 ∧ (∀ post : SX → Prop, post u' → wpX_runCollection post u) ∧
    (∀ post : Int32 → SY → Prop, post r v' → wpY_collect post v) ∧ ∀ post : Int32 → Prop, post r → wpX_existingWords post u' := by
  obtain ⟨cap, rc, fl, co, ls, rg, ex, sr, kd, fc, hr, ct, ra, rd, fs⟩ := u
  obtain ⟨cp, sn, cl, fn, so, ko, fo, fd, ir, re, yg, la⟩ := v
  obtain ⟨h1, h2, h3, h4, h5, h6, h7, H⟩ := h
  subst h1 h2 h3 h4
  obtain ⟨rc1, ra1, rd1, b1, m1, w1⟩ := kx_find cp rc fn cl ls rg ex sr kd fc hr ct ra rd la (kr_V H) (kr_G H)
  obtain ⟨ct1, p1, w2⟩ := kw_x cp rc1 fn cl ls rg ex sr kd fc hr ct ra1 rd1 la m1 (fun s hs k2 => by
    rcases kr_W H s hs k2 with ⟨b, -⟩ | ⟨t, t1, t2, -, -⟩
    · exact Or.inl b
    · exact Or.inr ⟨t, t1, t2⟩)
  obtain ⟨ex1, w3⟩ := kf_rec cp rc1 fn cl ls rg ex sr kd fc hr ct1 ra1 rd1 la
  obtain ⟨ex2, e2, w4⟩ := kf_rem cp rc1 (kf_run sr 96 (kf_D ex ra1 kd) fn la).1 cl ls rg ex1 sr kd fc hr ct1 ra1 rd1 (kf_run sr 96 (kf_D ex ra1 kd) fn la).2 b1
  obtain ⟨re1, z1, n1, y1⟩ := ky_find rg ex sr kd fc hr ct cp sn cl fn so ko fo fd ir re yg la H
  obtain ⟨fd1, q1, y2⟩ := kw_y kd ct cp sn (cl + 1) fn so ko fo fd ir re1 yg la (kb_sum (fun s => re1 (s + 1)) (fun s => fo (s + 1)) 96) z1 n1 (kr_K H) (kr_W H)
  have hD : ∀ s, s < 96 → (kf_D ex ra1 kd s ≠ 0 ↔ kf_E so re1 s ≠ 0 ∧ kd s = 1) := by
    intro s hs
    have a1 := (kr_O H s hs).1
    have a2 := m1 s hs
    have a3 := n1 s hs
    rw [kf_E1]
    unfold kf_D
    by_cases c : ex s ≠ 0 ∧ ra1 s = 0 ∧ kd s = 1
    · rw [if_pos c]
      refine ⟨fun _ => ⟨⟨fun g => c.1 (a1.mpr g), ?_⟩, c.2.2⟩, fun _ => kb_10⟩
      by_cases y : re1 (s + 1) = 0
      · exact y
      · exact absurd c.2.1 (a2.mpr (a3.mp y))
    · rw [if_neg c]
      refine ⟨fun g => absurd rfl g, fun ⟨⟨g1, g2⟩, g3⟩ => absurd ⟨fun g => g1 (a1.mp g), ?_, g3⟩ c⟩
      by_cases y : ra1 s = 0
      · exact y
      · exact absurd g2 (a3.mpr (a2.mp y))
  obtain ⟨so1, s1, y3⟩ := kf_80 sr kd cp sn (cl + 1) fn so ko fo fd1 ir re1 yg la (kb_sum (fun s => re1 (s + 1)) (fun s => fo (s + 1)) 96) (kr_K H) 96 so (kf_D ex ra1 kd) fn la 96 (kc_le _ _) (kc_le _ _) hD
    (fun s hs g => (kr_O H s hs).2 (fun z => g ((kr_O H s hs).1.mp z)))
  have H2 := kr_collH H b1 m1 p1 q1 e2 n1 s1
  refine ⟨(cp, rc1, (kf_run sr 96 (kf_D ex ra1 kd) fn la).1, cl + 1, ls, rg, ex2, sr, kd, fc, hr, ct1, ra1, rd1, (kf_run sr 96 (kf_D ex ra1 kd) fn la).2),
    (cp, sn, cl + 1, (kf_run sr 96 (kf_D ex ra1 kd) fn la).1, so1, ko, fo, fd1, ir, re1, yg, (kf_run sr 96 (kf_D ex ra1 kd) fn la).2),
    kb_sum (fun s => re1 (s + 1)) (fun s => fo (s + 1)) 96, ⟨rfl, rfl, rfl, rfl, h5, h6, h7, H2⟩, rfl, fun post hp => ?_, fun post hp => ?_, fun post hp => ?_⟩
  · unfold wpX_runCollection
    exact w1 _ (w2 _ (w3 _ (w4 _ (nm_e hp))))
  · unfold wpY_collect
    exact y1 _ (nm_e (y2 _ (kf_y _ _ _ _ _ _ _ _ _ _ _ _ (y3 _ hp))))
  · refine kb_xw _ _ _ _ _ _ _ _ _ _ _ _ _ _ _ ?_
    have e : kb_sum ex2 fc 96 = kb_sum (fun s => re1 (s + 1)) (fun s => fo (s + 1)) 96 := by
      refine kb_sum_c 96 (fun s hs => ⟨?_, ?_⟩)
      · have a2 := m1 s hs
        have a3 := n1 s hs
        rw [e2 s hs]
        constructor
        · intro g
          by_cases y : re1 (s + 1) = 0
          · exact y
          · exact absurd g (a2.mpr (a3.mp y))
        · intro g
          by_cases y : ra1 s = 0
          · exact y
          · exact absurd g (a3.mpr (a2.mp y))
      · obtain ⟨F, hF, e1, e2⟩ := kr_F H s hs
        exact e1.trans e2.symm
    rw [e]
    exact hp
theorem kr_reach {S : Nat} {u : SX} {v : SY} (h : kr_R S u v) : ∃ u' v' r, kr_R S u' v' ∧ (∀ post : Int32 → SX → Prop, post r u' → wpX_reachableWords post u) ∧
    (∀ post : Int32 → SY → Prop, post r v' → wpY_reachableWords post v) := by
  obtain ⟨cap, rc, fl, co, ls, rg, ex, sr, kd, fc, hr, ct, ra, rd, fs⟩ := u
  obtain ⟨cp, sn, cl, fn, so, ko, fo, fd, ir, re, yg, la⟩ := v
  obtain ⟨h1, h2, h3, h4, h5, h6, h7, H⟩ := h
  subst h1 h2 h3 h4
  obtain ⟨rc1, ra1, rd1, b1, m1, w1⟩ := kx_find cp rc fn cl ls rg ex sr kd fc hr ct ra rd la (kr_V H) (kr_G H)
  obtain ⟨re1, z1, n1, y1⟩ := ky_find rg ex sr kd fc hr ct cp sn cl fn so ko fo fd ir re yg la H
  have e : kb_sum ra1 fc 96 = kb_sum (fun s => re1 (s + 1)) (fun s => fo (s + 1)) 96 := by
    refine kb_sum_c 96 (fun s hs => ⟨?_, ?_⟩)
    · have a2 := m1 s hs
      have a3 := n1 s hs
      constructor
      · intro g
        by_cases y : re1 (s + 1) = 0
        · exact y
        · exact absurd g (a2.mpr (a3.mp y))
      · intro g
        by_cases y : ra1 s = 0
        · exact y
        · exact absurd g (a3.mpr (a2.mp y))
    · obtain ⟨F, hF, e1, e2⟩ := kr_F H s hs
      exact e1.trans e2.symm
  refine ⟨(cp, rc1, fn, cl, ls, rg, ex, sr, kd, fc, hr, ct, ra1, rd1, la), (cp, sn, cl, fn, so, ko, fo, fd, ir, re1, yg, la), kb_sum ra1 fc 96, ⟨rfl, rfl, rfl, rfl, h5, h6, h7, H⟩, fun post hp => ?_, fun post hp => ?_⟩
  · unfold wpX_reachableWords
    exact w1 _ (kx_words _ _ _ _ _ _ _ _ _ _ _ _ _ _ _ hp)
  · rw [e] at hp
    exact y1 post hp
end
section
/-! a new object on both sides -/
def kn_O (s : Nat) (a b : Nat → Int32) : Prop := ∀ s', s' < 96 → s' ≠ s → ∀ f, f < 6 → b (6 * s' + f) = a (6 * s' + f)
def kn_Y (s : Nat) (a b : Nat → Int32) : Prop := ∀ s', s' < 96 → s' ≠ s → ∀ f, f < 6 → b (6 * (s' + 1) + f) = a (6 * (s' + 1) + f)
theorem kn_O0 {s : Nat} {a : Nat → Int32} : kn_O s a a := fun _ _ _ _ _ => rfl
theorem kn_Y0 {s : Nat} {a : Nat → Int32} : kn_Y s a a := fun _ _ _ _ _ => rfl
theorem kn_Ou {s f : Nat} {a b : Nat → Int32} {x : Int32} (h : kn_O s a b) (hf : f < 6) : kn_O s a (upd b (6 * s + f) x) := by
  intro s' hs' n f' hf'
  rw [pk_un (by omega)]
  exact h s' hs' n f' hf'
theorem kn_Yu {s f : Nat} {a b : Nat → Int32} {x : Int32} (h : kn_Y s a b) (hf : f < 6) : kn_Y s a (upd b (6 * (s + 1) + f) x) := by
  intro s' hs' n f' hf'
  rw [pk_un (by omega)]
  exact h s' hs' n f' hf'
theorem kb_si {post : SX → Prop} (cap rc fl co ls : Int32) (rg ex sr kd fc hr ct ra rd fs : Nat → Int32) {c : Nat} {x : Int32} (hc : c < 576) (h : post (cap, rc, fl, co, ls, rg, ex, sr, kd, fc, upd hr c 0, upd ct c x, ra, rd, fs)) : wpX_setInt post (cap, rc, fl, co, ls, rg, ex, sr, kd, fc, hr, ct, ra, rd, fs) (nI c) x := by
  have ec := nI_clamp (n := c) (by omega)
  have hin := vp_in_nI (n := c) (N := 576) hc (by omega)
  exact ⟨hin, nm_r (by rw [ec, kb_n0]) ⟨hin, nm_r (by rw [ec]) h⟩⟩
theorem kb_sr {post : SX → Prop} (cap rc fl co ls : Int32) (rg ex sr kd fc hr ct ra rd fs : Nat → Int32) {c : Nat} {x : Int32} (hc : c < 576) (h : post (cap, rc, fl, co, ls, rg, ex, sr, kd, fc, upd hr c 1, upd ct c x, ra, rd, fs)) : wpX_setReference post (cap, rc, fl, co, ls, rg, ex, sr, kd, fc, hr, ct, ra, rd, fs) (nI c) x := by
  have ec := nI_clamp (n := c) (by omega)
  have hin := vp_in_nI (n := c) (N := 576) hc (by omega)
  exact ⟨hin, nm_r (by rw [ec, kb_n1]) ⟨hin, nm_r (by rw [ec]) h⟩⟩
theorem kn_93 (cap rc fl co ls : Int32) (rg ex sr kd fc hr ct ra rd fs : Nat → Int32) {s F : Nat} (hs : s < 96) (hF : F ≤ 6) : ∃ hr' ct', kn_O s hr hr' ∧ kn_O s ct ct' ∧ (∀ f, f < F → hr' (6 * s + f) = 0 ∧ ct' (6 * s + f) = 0) ∧
    ∀ post : Int32 → SX → Prop, post (nI s) (cap, rc, fl, co, ls, rg, ex, sr, kd, fc, hr', ct', ra, rd, fs) → ∃ n93, wX_newObject_93 post (nI F) (nI s) n93 0 cap rc fl co ls rg ex sr kd fc hr ct ra rd fs := by
  have L : ∀ d f, f + d = F → ∀ h c, kn_O s hr h → kn_O s ct c → (∀ f', f' < f → h (6 * s + f') = 0 ∧ c (6 * s + f') = 0) →
      ∃ hr' ct', kn_O s hr hr' ∧ kn_O s ct ct' ∧ (∀ f, f < F → hr' (6 * s + f) = 0 ∧ ct' (6 * s + f) = 0) ∧
      ∀ post : Int32 → SX → Prop, post (nI s) (cap, rc, fl, co, ls, rg, ex, sr, kd, fc, hr', ct', ra, rd, fs) → wX_newObject_93 post (nI F) (nI s) (d + 1) (nI f) cap rc fl co ls rg ex sr kd fc h c ra rd fs := by
    intro d
    induction d with
    | zero =>
      intro f hf h c h1 h2 h3
      exact ⟨h, c, h1, h2, fun f' g => h3 f' (by omega), fun post hp => br_t (nI_le (by omega) (by omega)) hp⟩
    | succ d ih =>
      intro f hf h c h1 h2 h3
      obtain ⟨hr', ct', j1, j2, j3, j4⟩ := ih (f + 1) (by omega) (upd h (6 * s + f) 0) (upd c (6 * s + f) 0) (kn_Ou h1 (by omega)) (kn_Ou h2 (by omega)) (fun f' g => by
        by_cases y : f' = f
        · subst y; exact ⟨pk_us, pk_us⟩
        · rw [pk_un (by omega), pk_un (by omega)]; exact h3 f' (by omega))
      refine ⟨hr', ct', j1, j2, j3, fun post hp => br_f (nI_ge (by omega) (by omega)) (kb_cell _ _ _ _ _ _ _ _ _ _ _ _ _ _ _ (6 * s + f) (kb_cx s f) (kb_si _ _ _ _ _ _ _ _ _ _ _ _ _ _ _ (by omega) ?_))⟩
      exact nm_r (nI_1 f) (j4 post hp)
  obtain ⟨hr', ct', j1, j2, j3, j4⟩ := L F 0 (by omega) hr ct kn_O0 kn_O0 (fun f' g => by omega)
  exact ⟨hr', ct', j1, j2, j3, fun post hp => ⟨F + 1, j4 post hp⟩⟩
theorem kn_94 (cp sn cl fn : Int32) (so ko fo fd ir re yg la : Nat → Int32) {s : Nat} (hs : s < 96) : ∃ fd' ir', kn_Y s fd fd' ∧ kn_Y s ir ir' ∧ (∀ f, f < 6 → fd' (6 * (s + 1) + f) = 0 ∧ ir' (6 * (s + 1) + f) = 0) ∧
    ∀ post : Int32 → SY → Prop, post (nI (s + 1)) (cp, sn, cl, fn, so, ko, fo, fd', ir', re, yg, la) → ∃ n94, wY_create_94 post (nI (s + 1)) cp sn cl fn n94 (6 * nI (s + 1)) so ko fo fd ir re yg la := by
  have L : ∀ d f, f + d = 6 → ∀ h c, kn_Y s fd h → kn_Y s ir c → (∀ f', f' < f → h (6 * (s + 1) + f') = 0 ∧ c (6 * (s + 1) + f') = 0) →
      ∃ fd' ir', kn_Y s fd fd' ∧ kn_Y s ir ir' ∧ (∀ f, f < 6 → fd' (6 * (s + 1) + f) = 0 ∧ ir' (6 * (s + 1) + f) = 0) ∧
      ∀ post : Int32 → SY → Prop, post (nI (s + 1)) (cp, sn, cl, fn, so, ko, fo, fd', ir', re, yg, la) → wY_create_94 post (nI (s + 1)) cp sn cl fn (d + 1) (nI (6 * (s + 1) + f)) so ko fo h c re yg la := by
    have eb : 6 * nI (s + 1) + 6 = nI (6 * (s + 1) + 6) := kb_cy (s + 1) 6
    intro d
    induction d with
    | zero =>
      intro f hf h c h1 h2 h3
      refine ⟨h, c, h1, h2, fun f' g => h3 f' (by omega), fun post hp => br_t ?_ hp⟩
      rw [eb]
      exact nI_le (by omega) (by omega)
    | succ d ih =>
      intro f hf h c h1 h2 h3
      have ec := nI_clamp (n := 6 * (s + 1) + f) (by omega)
      have hin := vp_in_nI (n := 6 * (s + 1) + f) (N := 582) (by omega) (by omega)
      obtain ⟨fd', ir', j1, j2, j3, j4⟩ := ih (f + 1) (by omega) (upd h (6 * (s + 1) + f) 0) (upd c (6 * (s + 1) + f) 0) (kn_Yu h1 (by omega)) (kn_Yu h2 (by omega)) (fun f' g => by
        by_cases y : f' = f
        · subst y; exact ⟨pk_us, pk_us⟩
        · rw [pk_un (by omega), pk_un (by omega)]; exact h3 f' (by omega))
      refine ⟨fd', ir', j1, j2, j3, fun post hp => br_f ?_ ⟨hin, nm_r (by rw [ec]) ⟨hin, nm_r (by rw [ec, kb_n0]) (nm_r (nI_1 _) (j4 post hp))⟩⟩⟩
      rw [eb]
      exact nI_ge (by omega) (by omega)
  obtain ⟨fd', ir', j1, j2, j3, j4⟩ := L 6 0 (by omega) fd ir kn_Y0 kn_Y0 (fun f' g => by omega)
  refine ⟨fd', ir', j1, j2, j3, fun post hp => ⟨7, ?_⟩⟩
  rw [kb_cy0]
  exact j4 post hp
theorem kn_least (P : Nat → Prop) : ∀ n, P n → ∃ k, k ≤ n ∧ P k ∧ ∀ j, j < k → ¬ P j := by
  intro n
  induction n using Nat.strongRecOn with
  | _ n ih =>
    intro h
    by_cases c : ∃ j, j < n ∧ P j
    · obtain ⟨j, hj, hp⟩ := c
      obtain ⟨k, k1, k2, k3⟩ := ih j hj hp
      exact ⟨k, by omega, k2, k3⟩
    · exact ⟨n, Nat.le_refl n, h, fun j hj hp => c ⟨j, hj, hp⟩⟩
theorem kn_free {post : Int32 → Prop} (cap rc fl co ls : Int32) (rg ex sr kd fc hr ct ra rd fs : Nat → Int32) {s : Nat} (hs : s < 96) (hz : ex s = 0) (hl : ∀ j, j < s → ¬ ex j = 0) (hp : post (nI s)) : wpX_freeSlot post (cap, rc, fl, co, ls, rg, ex, sr, kd, fc, hr, ct, ra, rd, fs) := by
  have L : ∀ d i, i + d = s → wX_freeSlot_2 post cap rc fl co ls rg ex sr kd fc hr ct ra rd fs (d + 1) (nI i) := by
    intro d
    induction d with
    | zero =>
      intro i hi
      obtain rfl : i = s := by omega
      have ec := nI_clamp (n := i) (by omega)
      refine br_f (nI_ge (b := 96) (by omega) (by omega)) ⟨vp_in_nI (by omega) (by omega), ?_⟩
      rw [ec]
      exact br_t hz hp
    | succ d ih =>
      intro i hi
      have ec := nI_clamp (n := i) (by omega)
      refine br_f (nI_ge (b := 96) (by omega) (by omega)) ⟨vp_in_nI (by omega) (by omega), ?_⟩
      rw [ec]
      exact br_f (hl i (by omega)) (nm_r (nI_1 i) (ih (i + 1) (by omega)))
  exact ⟨s + 1, L s 0 (by omega)⟩
theorem kn_39 {post : Int32 → SY → Prop} (cp sn cl fn : Int32) (so ko fo fd ir re yg la : Nat → Int32) {x1 x2 : Int32} {s : Nat} (hs : s < 96) (hz : so (s + 1) = 0) (hl : ∀ j, j < s → ¬ so (j + 1) = 0)
    (hp : ∃ n94, wY_create_94 post (nI (s + 1)) cp (sn + 1) cl fn n94 (6 * nI (s + 1)) (upd so (s + 1) (sn + 1)) (upd ko (s + 1) x2) (upd fo (s + 1) x1) fd ir re yg la) : ∃ n39, wY_create_39 post x1 x2 cp sn cl fn so ko fo fd ir re yg la n39 1 := by
  have L : ∀ d i, i + d = s → wY_create_39 post x1 x2 cp sn cl fn so ko fo fd ir re yg la (d + 1) (nI (i + 1)) := by
    intro d
    induction d with
    | zero =>
      intro i hi
      obtain rfl : i = s := by omega
      have ec := nI_clamp (n := i + 1) (by omega)
      have hin := vp_in_nI (n := i + 1) (N := 97) (by omega) (by omega)
      refine ⟨hin, ?_⟩
      rw [ec]
      exact br_t hz (nm_e ⟨hin, nm_e ⟨hin, nm_e ⟨hin, nm_e (nm_e hp)⟩⟩⟩)
    | succ d ih =>
      intro i hi
      have ec := nI_clamp (n := i + 1) (by omega)
      refine ⟨vp_in_nI (by omega) (by omega), ?_⟩
      rw [ec]
      exact br_f (hl i (by omega)) (nm_r (nI_1 _) (ih (i + 1) (by omega)))
  exact ⟨s + 1, L s 0 (by omega)⟩
/-! the relation over a new object, over a register, over a cell -/
theorem kn_H {rg ex sr kd fc hr ct so ko fo fd ir yg hr2 ct2 fd2 ir2 : Nat → Int32} (H : kr_H rg ex sr kd fc hr ct so ko fo fd ir yg) {s F : Nat} {N K : Int32}
    (hs : s < 96) (hz : ex s = 0) (hN : N ≠ 0) (hF : F ≤ 6) (hK : K = 2 → F = 1 ∧ hr2 (6 * s) = 1)
    (o1 : kn_O s hr hr2) (o2 : kn_O s ct ct2) (o3 : kn_Y s fd fd2) (o4 : kn_Y s ir ir2)
    (hc : ∀ f, f < F → kr_c (fun t => ex t ≠ 0) (hr2 (6 * s + f)) (ct2 (6 * s + f)) (ir2 (6 * (s + 1) + f)) (fd2 (6 * (s + 1) + f))) :
    kr_H rg (upd ex s 1) (upd sr s N) (upd kd s K) (upd fc s (nI F)) hr2 ct2 (upd so (s + 1) N) (upd ko (s + 1) K) (upd fo (s + 1) (nI F)) fd2 ir2 yg := by
  have hx : ∀ t, ex t ≠ 0 → upd ex s 1 t ≠ 0 := by
    intro t h
    by_cases y : t = s
    · subst y; rw [pk_us]; exact kb_10
    · rw [pk_un y]; exact h
  constructor
  · intro r hr
    rcases H.1 r hr with ⟨b, c⟩ | ⟨t, t1, t2, t3, t4⟩
    · exact Or.inl ⟨b, c⟩
    · exact Or.inr ⟨t, t1, t2, t3, hx t t4⟩
  · intro s' hs'
    by_cases y : s' = s
    · subst y
      refine ⟨F, hF, pk_us, pk_us, by rw [pk_us, pk_us], Or.inr pk_us, by rw [pk_us, pk_us, pk_us, if_neg kb_10], fun _ => by rw [pk_us]; exact hN, fun k => by rw [pk_us] at k; exact hK k, fun f hf => ?_⟩
      rcases hc f hf with ⟨a, b, c⟩ | ⟨a, b, ⟨c, d⟩ | ⟨t, t1, t2, t3, t4⟩⟩
      · exact Or.inl ⟨a, b, c⟩
      · exact Or.inr ⟨a, b, Or.inl ⟨c, d⟩⟩
      · exact Or.inr ⟨a, b, Or.inr ⟨t, t1, t2, t3, fun _ => hx t t4⟩⟩
    · obtain ⟨G, hG, e1, e2, e3, e4, e5, e6, e7, hc'⟩ := H.2 s' hs'
      have e0 : hr2 (6 * s') = hr (6 * s') := o1 s' hs' y 0 (by omega)
      unfold kr_s
      rw [pk_un y, pk_un y, pk_un y, pk_un y, pk_un (by omega), pk_un (by omega), pk_un (by omega), e0]
      refine ⟨G, hG, e1, e2, e3, e4, e5, e6, e7, fun f hf => ?_⟩
      rw [o1 s' hs' y f (by omega), o2 s' hs' y f (by omega), o3 s' hs' y f (by omega), o4 s' hs' y f (by omega)]
      rcases hc' f hf with ⟨a, b, c⟩ | ⟨a, b, ⟨c, d⟩ | ⟨t, t1, t2, t3, t4⟩⟩
      · exact Or.inl ⟨a, b, c⟩
      · exact Or.inr ⟨a, b, Or.inl ⟨c, d⟩⟩
      · exact Or.inr ⟨a, b, Or.inr ⟨t, t1, t2, t3, fun g => hx t (t4 g)⟩⟩
theorem kn_R {rg ex sr kd fc hr ct so ko fo fd ir yg : Nat → Int32} (H : kr_H rg ex sr kd fc hr ct so ko fo fd ir yg) {r : Nat} {x y : Int32}
    (h : kr_p (fun t => ex t ≠ 0) x y) : kr_H (upd rg r x) ex sr kd fc hr ct so ko fo fd ir (upd yg r y) := by
  refine ⟨fun r' hr' => ?_, H.2⟩
  by_cases c : r' = r
  · subst c; rw [pk_us, pk_us]; exact h
  · rw [pk_un c, pk_un c]; exact H.1 r' hr'
theorem kn_C {rg ex sr kd fc hr ct so ko fo fd ir yg : Nat → Int32} (H : kr_H rg ex sr kd fc hr ct so ko fo fd ir yg) {s f : Nat} {a b c d : Int32} (hs : s < 96) (hf : f < 6) (hk : kd s ≠ 2)
    (h : kr_c (fun t => ex s ≠ 0 → ex t ≠ 0) a b c d) : kr_H rg ex sr kd fc (upd hr (6 * s + f) a) (upd ct (6 * s + f) b) so ko fo (upd fd (6 * (s + 1) + f) d) (upd ir (6 * (s + 1) + f) c) yg := by
  refine ⟨H.1, fun s' hs' => ?_⟩
  obtain ⟨G, hG, e1, e2, e3, e4, e5, e6, e7, hc'⟩ := H.2 s' hs'
  by_cases y : s' = s
  · subst y
    refine ⟨G, hG, e1, e2, e3, e4, e5, e6, fun k => absurd k hk, fun f' hf' => ?_⟩
    by_cases z : f' = f
    · subst z; rw [pk_us, pk_us, pk_us, pk_us]; exact h
    · rw [pk_un (by omega), pk_un (by omega), pk_un (by omega), pk_un (by omega)]; exact hc' f' hf'
  · refine ⟨G, hG, e1, e2, e3, e4, e5, e6, fun k => ?_, fun f' hf' => ?_⟩
    · rw [pk_un (by omega)]; exact e7 k
    · rw [pk_un (by omega), pk_un (by omega), pk_un (by omega), pk_un (by omega)]; exact hc' f' hf'
end
section
/-! newObject and create, side by side -/
def kn_New (S F : Nat) (K : Int32) (WX : (Int32 → SX → Prop) → Prop) (WY : (Int32 → SY → Prop) → Prop) : Prop :=
  (∃ u' v', kr_R S u' v' ∧ (∀ post : Int32 → SX → Prop, post (-1) u' → WX post) ∧ (∀ post : Int32 → SY → Prop, post 0 v' → WY post)) ∨
  (∃ (s : Nat) (cap rc fl co : Int32) (rg ex sr kd fc hr ct ra rd fs so ko fo fd ir re yg hr' ct' fd' ir' : Nat → Int32), s < 96 ∧ (∃ C, 16 ≤ C ∧ C ≤ 96 ∧ cap = nI C) ∧
    kr_H rg ex sr kd fc hr ct so ko fo fd ir yg ∧ ex s = 0 ∧ kn_O s hr hr' ∧ kn_O s ct ct' ∧ kn_Y s fd fd' ∧ kn_Y s ir ir' ∧
    (∀ f, f < F → hr' (6 * s + f) = 0 ∧ ct' (6 * s + f) = 0) ∧ (∀ f, f < 6 → fd' (6 * (s + 1) + f) = 0 ∧ ir' (6 * (s + 1) + f) = 0) ∧
    (∀ post : Int32 → SX → Prop, post (nI s) (cap, rc, fl, co, nI (S + 1), rg, upd ex s 1, upd sr s (nI (S + 1)), upd kd s K, upd fc s (nI F), hr', ct', ra, rd, fs) → WX post) ∧
    (∀ post : Int32 → SY → Prop, post (nI (s + 1)) (cap, nI (S + 1), co, fl, upd so (s + 1) (nI (S + 1)), upd ko (s + 1) K, upd fo (s + 1) (nI F), fd', ir', re, yg, fs) → WY post))
theorem kn_mono {S F : Nat} {K : Int32} {WX WX' : (Int32 → SX → Prop) → Prop} {WY WY' : (Int32 → SY → Prop) → Prop} (h : kn_New S F K WX WY) (hx : ∀ post, WX post → WX' post) (hy : ∀ post, WY post → WY' post) : kn_New S F K WX' WY' := by
  rcases h with ⟨u', v', h1, h2, h3⟩ | ⟨s, cap, rc, fl, co, rg, ex, sr, kd, fc, hr, ct, ra, rd, fs, so, ko, fo, fd, ir, re, yg, hr', ct', fd', ir', h1, h2, h3, h4, h5, h6, h7, h8, h9, h10, h11, h12⟩
  · exact Or.inl ⟨u', v', h1, fun post g => hx _ (h2 _ g), fun post g => hy _ (h3 _ g)⟩
  · exact Or.inr ⟨s, cap, rc, fl, co, rg, ex, sr, kd, fc, hr, ct, ra, rd, fs, so, ko, fo, fd, ir, re, yg, hr', ct', fd', ir', h1, h2, h3, h4, h5, h6, h7, h8, h9, h10, fun post g => hx _ (h11 _ g), fun post g => hy _ (h12 _ g)⟩
theorem kn_x3 {C F : Nat} (hC : 16 ≤ C) (hF : F ≤ 6) : (nI C - 1) - nI F = nI (C - 1 - F) := by
  rw [show (1 : Int32) = nI 1 from rfl, pk_sub (by omega), pk_sub (by omega)]
theorem kn_y3 (W F : Nat) : (nI W + 1) + nI F = nI (W + 1 + F) := by
  rw [nI_1, nI_add]
theorem kn_half {S F C : Nat} {K : Int32} (cap rc fl co ls : Int32) (rg ex sr kd fc hr ct ra rd fs : Nat → Int32) (so ko fo fd ir re yg : Nat → Int32) (hC : 16 ≤ C) (hC2 : C ≤ 96) (ec : cap = nI C) (el : ls = nI S) (hF : F ≤ 6) (H : kr_H rg ex sr kd fc hr ct so ko fo fd ir yg) :
    kn_New S F K (fun post => wX_newObject_21 post K (nI F) (nI (C - 1 - F)) cap rc fl co ls rg ex sr kd fc hr ct ra rd fs) (fun post => wY_create_20 post (nI F) K cap ls co fl so ko fo fd ir re yg fs) := by
  obtain ⟨W, hW, eW, hW2⟩ := kb_sum_n (e := ex) (c := fc) 96 (fun s hs => by
    obtain ⟨F, h1, h2, -⟩ := kr_F H s hs
    exact ⟨F, h1, h2⟩)
  have eY := kr_words H
  rw [eW] at eY
  by_cases c : W ≤ C - 1 - F
  · have hfree : ∃ s, s < 96 ∧ ex s = 0 := by
      refine Classical.byContradiction (fun n => ?_)
      have := hW2 (fun s hs z => n ⟨s, hs, z⟩)
      omega
    obtain ⟨s0, hs0, hz0⟩ := hfree
    obtain ⟨s, h1, h2, h3⟩ := kn_least (fun s => ex s = 0) s0 hz0
    have hs : s < 96 := by omega
    have es := nI_clamp (n := s) (by omega)
    have hin := vp_in_nI (n := s) (N := 96) (by omega) (by omega)
    obtain ⟨hr', ct', a1, a2, a3, a4⟩ := kn_93 cap rc fl co (nI (S + 1)) rg (upd ex s 1) (upd sr s (nI (S + 1))) (upd kd s K) (upd fc s (nI F)) hr ct ra rd fs hs hF
    obtain ⟨fd', ir', b1, b2, b3, b4⟩ := kn_94 cap (nI (S + 1)) co fl (upd so (s + 1) (nI (S + 1))) (upd ko (s + 1) K) (upd fo (s + 1) (nI F)) fd ir re yg fs hs
    refine Or.inr ⟨s, cap, rc, fl, co, rg, ex, sr, kd, fc, hr, ct, ra, rd, fs, so, ko, fo, fd, ir, re, yg, hr', ct', fd', ir', hs, ⟨C, hC, hC2, ec⟩, H, h2, a1, a2, b1, b2, a3, b3, fun post hp => ?_, fun post hp => ?_⟩
    · unfold wX_newObject_21
      refine kb_xw _ _ _ _ _ _ _ _ _ _ _ _ _ _ _ ?_
      rw [eW]
      refine br_t (nI_le c (by omega)) (kn_free _ _ _ _ _ _ _ _ _ _ _ _ _ _ _ hs h2 h3 (br_f (kb_m1 (by omega)) ?_))
      refine nm_r (by rw [el, nI_1]) ⟨hin, nm_r (by rw [es, kb_n1]) ⟨hin, nm_r (by rw [es]) ⟨hin, nm_r (by rw [es]) ⟨hin, nm_r (by rw [es]) ?_⟩⟩⟩⟩
      exact a4 post hp
    · unfold wY_create_20
      refine kb_yw _ _ _ _ _ _ _ _ _ _ _ _ ?_
      rw [eY, kn_y3, ec]
      refine br_t (nI_le (by omega) (by omega)) (kn_39 _ _ _ _ _ _ _ _ _ _ _ _ hs ((kr_O H s hs).1.mp h2) (fun j hj z => h3 j hj ((kr_O H j (by omega)).1.mpr z)) ?_)
      rw [el, nI_1, ← ec]
      exact b4 post hp
  · refine Or.inl ⟨(cap, rc, fl, co, ls, rg, ex, sr, kd, fc, hr, ct, ra, rd, fs), (cap, ls, co, fl, so, ko, fo, fd, ir, re, yg, fs), ⟨rfl, rfl, rfl, rfl, el, el, ⟨C, hC, hC2, ec⟩, H⟩, fun post hp => ?_, fun post hp => ?_⟩
    · unfold wX_newObject_21
      refine kb_xw _ _ _ _ _ _ _ _ _ _ _ _ _ _ _ ?_
      rw [eW]
      exact br_f (nI_ge (by omega) (by omega)) hp
    · unfold wY_create_20
      refine kb_yw _ _ _ _ _ _ _ _ _ _ _ _ ?_
      rw [eY, kn_y3]
      refine br_f ?_ hp
      rw [ec]
      exact nI_ge (by omega) (by omega)
theorem kn_new {S F : Nat} {K : Int32} {u : SX} {v : SY} (h : kr_R S u v) (hF : F ≤ 6) : kn_New S F K (fun post => wpX_newObject post u K (nI F)) (fun post => wpY_create post v (nI F) K) := by
  have h0 := h
  obtain ⟨cap, rc, fl, co, ls, rg, ex, sr, kd, fc, hr, ct, ra, rd, fs⟩ := u
  obtain ⟨cp, sn, cl, fn, so, ko, fo, fd, ir, re, yg, la⟩ := v
  obtain ⟨h1, h2, h3, h4, h5, h6, ⟨C, hC, hC2, eC⟩, H⟩ := h
  have e56 : sn = ls := h6.trans h5.symm
  subst h1 h2 h3 h4 e56
  obtain ⟨W, hW, eW, hW2⟩ := kb_sum_n (e := ex) (c := fc) 96 (fun s hs => by
    obtain ⟨F, h1, h2, -⟩ := kr_F H s hs
    exact ⟨F, h1, h2⟩)
  have eY := kr_words H
  rw [eW] at eY
  by_cases c : W ≤ C - 1 - F
  · refine kn_mono (kn_half cp rc fn cl sn rg ex sr kd fc hr ct ra rd la so ko fo fd ir re yg hC hC2 eC h6 hF H) (fun post hp => ?_) (fun post hp => ?_)
    · unfold wpX_newObject
      refine nm_r (e' := nI (C - 1 - F)) (by rw [eC]; exact kn_x3 hC hF) (kb_xw _ _ _ _ _ _ _ _ _ _ _ _ _ _ _ ?_)
      rw [eW]
      exact br_t (nI_le c (by omega)) hp
    · unfold wpY_create
      refine kb_yw _ _ _ _ _ _ _ _ _ _ _ _ ?_
      rw [eY, kn_y3]
      refine br_t ?_ hp
      rw [eC]
      exact nI_le (by omega) (by omega)
  · obtain ⟨u', v', r, g1, g0, g2, g3, g4⟩ := kr_coll h0
    obtain ⟨cap', rc', fl', co', ls', rg', ex', sr', kd', fc', hr', ct', ra', rd', fs'⟩ := u'
    obtain ⟨cp', sn', cl', fn', so', ko', fo', fd', ir', re', yg', la'⟩ := v'
    obtain ⟨k1, k2, k3, k4, k5, k6, -, H'⟩ := g1
    have e56' : sn' = ls' := k6.trans k5.symm
    have g0' : cap' = cp := g0
    subst k1 k2 k3 k4 e56'
    refine kn_mono (kn_half cp' rc' fn' cl' sn' rg' ex' sr' kd' fc' hr' ct' ra' rd' la' so' ko' fo' fd' ir' re' yg' hC hC2 (g0'.trans eC) k6 hF H') (fun post hp => ?_) (fun post hp => ?_)
    · unfold wpX_newObject
      refine nm_r (e' := nI (C - 1 - F)) (by rw [eC]; exact kn_x3 hC hF) (kb_xw _ _ _ _ _ _ _ _ _ _ _ _ _ _ _ ?_)
      rw [eW]
      exact br_f (nI_ge (by omega) (by omega)) (g2 _ hp)
    · unfold wpY_create
      refine kb_yw _ _ _ _ _ _ _ _ _ _ _ _ ?_
      rw [eY, kn_y3]
      refine br_f ?_ (g3 _ hp)
      rw [eC]
      exact nI_ge (by omega) (by omega)
end
section
/-! what the short methods look at first -/
theorem km_reg (p : Int32) : ((∀ (u : SX) (post : Int32 → Prop), post 0 → wpX_isRegister post u p) ∧ (∀ post : Int32 → Prop, post 1 → wpY_bad post p)) ∨
    ∃ r, r < 8 ∧ p = nI r ∧ (∀ (u : SX) (post : Int32 → Prop), post 1 → wpX_isRegister post u p) ∧ (∀ post : Int32 → Prop, post 0 → wpY_bad post p) := by
  rcases pk_ix p (n := 8) (by decide) with h | h | ⟨r, h, e⟩
  · refine Or.inl ⟨fun u post hp => ?_, fun post hp => br_t h hp⟩
    obtain ⟨cap, rc, fl, co, ls, rg, ex, sr, kd, fc, hr, ct, ra, rd, fs⟩ := u
    exact br_t h hp
  · have h0 : ¬ p < 0 := by
      rw [Int32.lt_iff_toInt_lt]
      rw [Int32.le_iff_toInt_le, nI_toInt (by omega)] at h
      have : (0 : Int32).toInt = 0 := by decide
      omega
    have h7 : ¬ p ≤ 7 := by
      rw [Int32.le_iff_toInt_le]
      rw [Int32.le_iff_toInt_le, nI_toInt (by omega)] at h
      have : (7 : Int32).toInt = 7 := by decide
      omega
    refine Or.inl ⟨fun u post hp => ?_, fun post hp => br_f h0 (br_f h7 hp)⟩
    obtain ⟨cap, rc, fl, co, ls, rg, ex, sr, kd, fc, hr, ct, ra, rd, fs⟩ := u
    exact br_f h0 (br_t h hp)
  · subst e
    refine Or.inr ⟨r, h, rfl, fun u post hp => ?_, fun post hp => br_f (nI_pos (by omega)) (br_t (nI_le (b := 7) (by omega) (by omega)) hp)⟩
    obtain ⟨cap, rc, fl, co, ls, rg, ex, sr, kd, fc, hr, ct, ra, rd, fs⟩ := u
    exact br_f (nI_pos (by omega)) (br_f (nI_ge (b := 8) (by omega) (by omega)) hp)
section
variable (cap rc fl co ls : Int32) {rg ex sr kd fc hr ct : Nat → Int32} (ra rd fs : Nat → Int32)
variable (cp sn cl fn : Int32) {so ko fo fd ir yg : Nat → Int32} (re la : Nat → Int32)
theorem km_fr (H : kr_H rg ex sr kd fc hr ct so ko fo fd ir yg) (p : Int32) :
    ((∀ post : Int32 → Prop, post (-1) → wpX_faultOfReference post (cap, rc, fl, co, ls, rg, ex, sr, kd, fc, hr, ct, ra, rd, fs) p) ∧ (∀ post : Int32 → Prop, post 1 → wpY_bad post p)) ∨
    ∃ r, r < 8 ∧ p = nI r ∧ (∀ post : Int32 → Prop, post 0 → wpY_bad post p) ∧ ((rg r = -1 ∧ yg r = 0 ∧ ∀ post : Int32 → Prop, post (-2) → wpX_faultOfReference post (cap, rc, fl, co, ls, rg, ex, sr, kd, fc, hr, ct, ra, rd, fs) p) ∨
      ∃ s, s < 96 ∧ rg r = nI s ∧ yg r = nI (s + 1) ∧ ex s ≠ 0 ∧ ∀ post : Int32 → Prop, post 0 → wpX_faultOfReference post (cap, rc, fl, co, ls, rg, ex, sr, kd, fc, hr, ct, ra, rd, fs) p) := by
  rcases km_reg p with ⟨h1, h2⟩ | ⟨r, hr, e, h1, h2⟩
  · refine Or.inl ⟨fun post hp => ?_, h2⟩
    unfold wpX_faultOfReference
    exact h1 _ _ (br_t rfl hp)
  · subst e
    have ec := nI_clamp (n := r) (by omega)
    have hin := vp_in_nI (n := r) (N := 8) (by omega) (by omega)
    refine Or.inr ⟨r, hr, rfl, h2, ?_⟩
    rcases H.1 r hr with ⟨b, c⟩ | ⟨s, t1, t2, t3, t4⟩
    · refine Or.inl ⟨b, c, fun post hp => ?_⟩
      unfold wpX_faultOfReference
      refine h1 _ _ (br_f kb_10 ⟨hin, ?_⟩)
      rw [ec]
      exact br_t b hp
    · refine Or.inr ⟨s, t1, t2, t3, t4, fun post hp => ?_⟩
      unfold wpX_faultOfReference
      refine h1 _ _ (br_f kb_10 ⟨hin, ?_⟩)
      rw [ec, t2]
      exact br_f (kb_m1 (by omega)) hp
theorem km_ff (H : kr_H rg ex sr kd fc hr ct so ko fo fd ir yg) (p q : Int32) :
    (∃ e : Int32, ¬ e = 0 ∧ (∀ post : Int32 → Prop, post e → wpX_faultOfField post (cap, rc, fl, co, ls, rg, ex, sr, kd, fc, hr, ct, ra, rd, fs) p q) ∧ (∀ post : Int32 → Prop, post e → wpY_check post (cp, sn, cl, fn, so, ko, fo, fd, ir, re, yg, la) p q)) ∨
    ∃ r s f F, r < 8 ∧ p = nI r ∧ s < 96 ∧ rg r = nI s ∧ yg r = nI (s + 1) ∧ ex s ≠ 0 ∧ F ≤ 6 ∧ f < F ∧ q = nI f ∧ (kd s = 2 → F = 1) ∧
      kr_c (fun t => ex s ≠ 0 → ex t ≠ 0) (hr (6 * s + f)) (ct (6 * s + f)) (ir (6 * (s + 1) + f)) (fd (6 * (s + 1) + f)) ∧
      (∀ post : Int32 → Prop, post 0 → wpX_faultOfField post (cap, rc, fl, co, ls, rg, ex, sr, kd, fc, hr, ct, ra, rd, fs) p q) ∧ (∀ post : Int32 → Prop, post 0 → wpY_check post (cp, sn, cl, fn, so, ko, fo, fd, ir, re, yg, la) p q) := by
  rcases km_fr cap rc fl co ls ra rd fs H p with ⟨h1, h2⟩ | ⟨r, hr, e, h2, ⟨b, c, h1⟩ | ⟨s, t1, t2, t3, t4, h1⟩⟩
  · refine Or.inl ⟨-1, by decide, fun post hp => ?_, fun post hp => ?_⟩
    · unfold wpX_faultOfField
      exact h1 _ (br_f (by decide) hp)
    · unfold wpY_check
      exact h2 _ (br_f kb_10 hp)
  · subst e
    have ec := nI_clamp (n := r) (by omega)
    have hin := vp_in_nI (n := r) (N := 8) (by omega) (by omega)
    refine Or.inl ⟨-2, by decide, fun post hp => ?_, fun post hp => ?_⟩
    · unfold wpX_faultOfField
      exact h1 _ (br_f (by decide) hp)
    · unfold wpY_check
      exact h2 _ (br_t rfl ⟨hin, nm_r (by rw [ec, c]) (br_t rfl hp)⟩)
  · subst e
    have ec := nI_clamp (n := r) (by omega)
    have hin := vp_in_nI (n := r) (N := 8) (by omega) (by omega)
    have es := nI_clamp (n := s) (by omega)
    have es1 := nI_clamp (n := s + 1) (by omega)
    have hins := vp_in_nI (n := s) (N := 96) (by omega) (by omega)
    have hins1 := vp_in_nI (n := s + 1) (N := 97) (by omega) (by omega)
    have hne : ¬ nI (s + 1) = 0 := nI_ne0 (by omega) (by omega)
    obtain ⟨F, hF, e1, e2, e3, e4, e5, e6, e7, hc⟩ := H.2 s t1
    by_cases q0 : q < 0
    · refine Or.inl ⟨-1, by decide, fun post hp => ?_, fun post hp => ?_⟩
      · unfold wpX_faultOfField
        refine h1 _ (br_t rfl ⟨hin, ?_⟩)
        rw [ec, t2]
        exact ⟨hins, nm_e (br_t q0 hp)⟩
      · unfold wpY_check
        exact h2 _ (br_t rfl ⟨hin, nm_r (e' := nI (s + 1)) (by rw [ec, t3]) (br_f hne (br_t q0 hp))⟩)
    · obtain ⟨f, hf, ef⟩ := nI_of q0
      subst ef
      by_cases c : f < F
      · have hlt : nI f < nI F := nI_lt c (by omega)
        refine Or.inr ⟨r, s, f, F, hr, rfl, t1, t2, t3, t4, hF, c, rfl, fun k => (e7 k).1, hc f c, fun post hp => ?_, fun post hp => ?_⟩
        · unfold wpX_faultOfField
          refine h1 _ (br_t rfl ⟨hin, ?_⟩)
          rw [ec, t2, es, e1]
          exact ⟨hins, nm_e (br_f q0 (br_t hlt hp))⟩
        · unfold wpY_check
          refine h2 _ (br_t rfl ⟨hin, nm_r (e' := nI (s + 1)) (by rw [ec, t3]) (br_f hne (br_f q0 ⟨hins1, ?_⟩))⟩)
          rw [es1, e2]
          exact br_t hlt hp
      · have hlt : ¬ nI f < nI F := nI_nlt (by omega) (by omega)
        refine Or.inl ⟨-1, by decide, fun post hp => ?_, fun post hp => ?_⟩
        · unfold wpX_faultOfField
          refine h1 _ (br_t rfl ⟨hin, ?_⟩)
          rw [ec, t2, es, e1]
          exact ⟨hins, nm_e (br_f q0 (br_f hlt hp))⟩
        · unfold wpY_check
          refine h2 _ (br_t rfl ⟨hin, nm_r (e' := nI (s + 1)) (by rw [ec, t3]) (br_f hne (br_f q0 ⟨hins1, ?_⟩))⟩)
          rw [es1, e2]
          exact br_f hlt hp
theorem km_fw {e p q : Int32} (he : ¬ e = 0) (h : ∀ post : Int32 → Prop, post e → wpX_faultOfField post (cap, rc, fl, co, ls, rg, ex, sr, kd, fc, hr, ct, ra, rd, fs) p q) : ∀ post : Int32 → Prop, post e → wpX_faultOfWrite post (cap, rc, fl, co, ls, rg, ex, sr, kd, fc, hr, ct, ra, rd, fs) p q := by
  intro post hp
  unfold wpX_faultOfWrite
  exact h _ (br_f he hp)
theorem km_f2 {r s : Nat} {q : Int32} (h8 : r < 8) (hs : s < 96) (eg : rg r = nI s) (h : ∀ post : Int32 → Prop, post 0 → wpX_faultOfField post (cap, rc, fl, co, ls, rg, ex, sr, kd, fc, hr, ct, ra, rd, fs) (nI r) q) :
    (kd s = 2 → ∀ post : Int32 → Prop, post (-1) → wpX_faultOfWrite post (cap, rc, fl, co, ls, rg, ex, sr, kd, fc, hr, ct, ra, rd, fs) (nI r) q) ∧ (¬ kd s = 2 → ∀ post : Int32 → Prop, post 0 → wpX_faultOfWrite post (cap, rc, fl, co, ls, rg, ex, sr, kd, fc, hr, ct, ra, rd, fs) (nI r) q) := by
  have ec := nI_clamp (n := r) (by omega)
  have hin := vp_in_nI (n := r) (N := 8) (by omega) (by omega)
  have es := nI_clamp (n := s) (by omega)
  have hins := vp_in_nI (n := s) (N := 96) (by omega) (by omega)
  constructor
  · intro k post hp
    unfold wpX_faultOfWrite
    refine h _ (br_t rfl ⟨hin, ?_⟩)
    rw [ec, eg, es]
    exact ⟨hins, br_t k hp⟩
  · intro k post hp
    unfold wpX_faultOfWrite
    refine h _ (br_t rfl ⟨hin, ?_⟩)
    rw [ec, eg, es]
    exact ⟨hins, br_f k hp⟩
end
end
section
/-! the owed statements of the short methods -/
theorem i_vc_put {k : Nat} {u : SX} {v : SY} (I : i_Rel k u v) (hk : k + 4 ≤ 2050) (v1 : Int32) (v2 : Int32) (v3 : Int32) : wpX_put (fun r u' => wpY_put (fun r' v' => r' = r ∧ i_Rel (k + 4) u' v') v v1 v2 v3) u v1 v2 v3 := by
  obtain ⟨S, hS, h⟩ := I
  have hR := kr_up (n := 0) hS (by omega) h
  obtain ⟨cap, rc, fl, co, ls, rg, ex, sr, kd, fc, hr, ct, ra, rd, fs⟩ := u
  obtain ⟨cp, sn, cl, fn, so, ko, fo, fd, ir, re, yg, la⟩ := v
  obtain ⟨h1, h2, h3, h4, h5, h6, h7, H⟩ := h
  rcases km_ff cap rc fl co ls ra rd fs cp sn cl fn re la H v1 v2 with ⟨e, he, x1, y1⟩ | ⟨r, s, f, F, r8, e1, hs, e2, e3, hx, hF, hf, e4, -, hc, x1, y1⟩
  · unfold wpX_put
    refine km_fw cap rc fl co ls ra rd fs he x1 _ (br_f he ?_)
    unfold wpY_put
    exact y1 _ (br_f he ⟨rfl, hR⟩)
  · subst e1 e4
    have ec := nI_clamp (n := r) (by omega)
    have hin := vp_in_nI (n := r) (N := 8) (by omega) (by omega)
    have es1 := nI_clamp (n := s + 1) (by omega)
    have hins1 := vp_in_nI (n := s + 1) (N := 97) (by omega) (by omega)
    have ecc := nI_clamp (n := 6 * (s + 1) + f) (by omega)
    have hinc := vp_in_nI (n := 6 * (s + 1) + f) (N := 582) (by omega) (by omega)
    obtain ⟨w1, w2⟩ := km_f2 cap rc fl co ls ra rd fs r8 hs e2 x1
    have ek := kr_K H s hs
    by_cases k2 : kd s = 2
    · unfold wpX_put
      refine w1 k2 _ (br_f (by decide) ?_)
      unfold wpY_put
      refine y1 _ (br_t rfl ⟨hin, nm_r (e' := nI (s + 1)) (by rw [ec, e3]) ⟨hins1, ?_⟩⟩)
      rw [es1]
      exact br_t (ek.trans k2) ⟨rfl, hR⟩
    · unfold wpX_put
      refine w2 k2 _ (br_t rfl ⟨hin, ?_⟩)
      rw [ec, e2]
      refine kb_cell _ _ _ _ _ _ _ _ _ _ _ _ _ _ _ (6 * s + f) (kb_cx s f) (kb_si _ _ _ _ _ _ _ _ _ _ _ _ _ _ _ (by omega) ?_)
      unfold wpY_put
      refine y1 _ (br_t rfl ⟨hin, nm_r (e' := nI (s + 1)) (by rw [ec, e3]) ⟨hins1, ?_⟩⟩)
      rw [es1, kb_cy, ecc, kb_n0]
      refine br_f (by rw [ek]; exact k2) ⟨hinc, nm_e ⟨hinc, nm_e ⟨rfl, ?_⟩⟩⟩
      exact ⟨S, by omega, h1, h2, h3, h4, h5, h6, h7, kn_C H hs (by omega) k2 (Or.inl ⟨rfl, rfl, rfl⟩)⟩
theorem i_vc_link {k : Nat} {u : SX} {v : SY} (I : i_Rel k u v) (hk : k + 4 ≤ 2050) (v1 : Int32) (v2 : Int32) (v3 : Int32) : wpX_link (fun r u' => wpY_link (fun r' v' => r' = r ∧ i_Rel (k + 4) u' v') v v1 v2 v3) u v1 v2 v3 := by
  obtain ⟨S, hS, h⟩ := I
  have hR := kr_up (n := 0) hS (by omega) h
  obtain ⟨cap, rc, fl, co, ls, rg, ex, sr, kd, fc, hr, ct, ra, rd, fs⟩ := u
  obtain ⟨cp, sn, cl, fn, so, ko, fo, fd, ir, re, yg, la⟩ := v
  obtain ⟨h1, h2, h3, h4, h5, h6, h7, H⟩ := h
  rcases km_reg v3 with ⟨a1, a2⟩ | ⟨q, q8, eq, a1, a2⟩
  · unfold wpX_link
    refine a1 _ _ (br_t rfl ?_)
    unfold wpY_link
    exact a2 _ (br_f kb_10 ⟨rfl, hR⟩)
  · subst eq
    have eq := nI_clamp (n := q) (by omega)
    have hinq := vp_in_nI (n := q) (N := 8) (by omega) (by omega)
    rcases km_ff cap rc fl co ls ra rd fs cp sn cl fn re la H v1 v2 with ⟨e, he, x1, y1⟩ | ⟨r, s, f, F, r8, e1, hs, e2, e3, hx, hF, hf, e4, -, hc, x1, y1⟩
    · unfold wpX_link
      refine a1 _ _ (br_f kb_10 (km_fw cap rc fl co ls ra rd fs he x1 _ (br_f he ?_)))
      unfold wpY_link
      exact a2 _ (br_t rfl (y1 _ (br_f he ⟨rfl, hR⟩)))
    · subst e1 e4
      have ec := nI_clamp (n := r) (by omega)
      have hin := vp_in_nI (n := r) (N := 8) (by omega) (by omega)
      have es1 := nI_clamp (n := s + 1) (by omega)
      have hins1 := vp_in_nI (n := s + 1) (N := 97) (by omega) (by omega)
      have ecc := nI_clamp (n := 6 * (s + 1) + f) (by omega)
      have hinc := vp_in_nI (n := 6 * (s + 1) + f) (N := 582) (by omega) (by omega)
      obtain ⟨w1, w2⟩ := km_f2 cap rc fl co ls ra rd fs r8 hs e2 x1
      have ek := kr_K H s hs
      by_cases k2 : kd s = 2
      · unfold wpX_link
        refine a1 _ _ (br_f kb_10 (w1 k2 _ (br_f (by decide) ?_)))
        unfold wpY_link
        refine a2 _ (br_t rfl (y1 _ (br_t rfl ⟨hin, nm_r (e' := nI (s + 1)) (by rw [ec, e3]) ⟨hins1, ?_⟩⟩)))
        rw [es1]
        exact br_t (ek.trans k2) ⟨rfl, hR⟩
      · unfold wpX_link
        refine a1 _ _ (br_f kb_10 (w2 k2 _ (br_t rfl ⟨hin, ?_⟩)))
        rw [ec, e2, eq]
        refine kb_cell _ _ _ _ _ _ _ _ _ _ _ _ _ _ _ (6 * s + f) (kb_cx s f) ⟨hinq, kb_sr _ _ _ _ _ _ _ _ _ _ _ _ _ _ _ (by omega) ?_⟩
        unfold wpY_link
        refine a2 _ (br_t rfl (y1 _ (br_t rfl ⟨hin, nm_r (e' := nI (s + 1)) (by rw [ec, e3]) ⟨hins1, ?_⟩⟩)))
        rw [es1, kb_cy, ecc, kb_n1, eq]
        refine br_f (by rw [ek]; exact k2) ⟨hinq, hinc, nm_e ⟨hinc, nm_e ⟨rfl, ?_⟩⟩⟩
        refine ⟨S, by omega, h1, h2, h3, h4, h5, h6, h7, kn_C H hs (by omega) k2 (Or.inr ⟨rfl, rfl, ?_⟩)⟩
        rcases H.1 q q8 with ⟨b, c⟩ | ⟨t, t1, t2, t3, t4⟩
        · exact Or.inl ⟨b, c⟩
        · exact Or.inr ⟨t, t1, t2, t3, fun _ => t4⟩
theorem i_vc_load {k : Nat} {u : SX} {v : SY} (I : i_Rel k u v) (hk : k + 4 ≤ 2050) (v1 : Int32) (v2 : Int32) (v3 : Int32) : wpX_load (fun r u' => wpY_load (fun r' v' => r' = r ∧ i_Rel (k + 4) u' v') v v1 v2 v3) u v1 v2 v3 := by
  obtain ⟨S, hS, h⟩ := I
  have hR := kr_up (n := 0) hS (by omega) h
  obtain ⟨cap, rc, fl, co, ls, rg, ex, sr, kd, fc, hr, ct, ra, rd, fs⟩ := u
  obtain ⟨cp, sn, cl, fn, so, ko, fo, fd, ir, re, yg, la⟩ := v
  obtain ⟨h1, h2, h3, h4, h5, h6, h7, H⟩ := h
  rcases km_reg v1 with ⟨a1, a2⟩ | ⟨q, q8, eq, a1, a2⟩
  · unfold wpX_load
    refine a1 _ _ (br_t rfl ?_)
    unfold wpY_load
    exact a2 _ (br_f kb_10 ⟨rfl, hR⟩)
  · subst eq
    have eq := nI_clamp (n := q) (by omega)
    have hinq := vp_in_nI (n := q) (N := 8) (by omega) (by omega)
    rcases km_ff cap rc fl co ls ra rd fs cp sn cl fn re la H v2 v3 with ⟨e, he, x1, y1⟩ | ⟨r, s, f, F, r8, e1, hs, e2, e3, hx, hF, hf, e4, -, hc, x1, y1⟩
    · unfold wpX_load
      refine a1 _ _ (br_f kb_10 (x1 _ (br_f he ?_)))
      unfold wpY_load
      exact a2 _ (br_t rfl (y1 _ (br_f he ⟨rfl, hR⟩)))
    · subst e1 e4
      have ec := nI_clamp (n := r) (by omega)
      have hin := vp_in_nI (n := r) (N := 8) (by omega) (by omega)
      have ecx := nI_clamp (n := 6 * s + f) (by omega)
      have hinx := vp_in_nI (n := 6 * s + f) (N := 576) (by omega) (by omega)
      have ecc := nI_clamp (n := 6 * (s + 1) + f) (by omega)
      have hinc := vp_in_nI (n := 6 * (s + 1) + f) (N := 582) (by omega) (by omega)
      rcases hc with ⟨c1, c2, c3⟩ | ⟨c1, c2, c3⟩
      · unfold wpX_load
        refine a1 _ _ (br_f kb_10 (x1 _ (br_t rfl ⟨hin, ?_⟩)))
        rw [ec, e2]
        refine kb_cell _ _ _ _ _ _ _ _ _ _ _ _ _ _ _ (6 * s + f) (kb_cx s f) ⟨hinx, ?_⟩
        rw [ecx]
        refine br_t c1 ?_
        unfold wpY_load
        refine a2 _ (br_t rfl (y1 _ (br_t rfl ⟨hin, nm_r (e' := nI (6 * (s + 1) + f)) (by rw [ec, e3]; exact kb_cy _ _) ⟨hinc, ?_⟩⟩)))
        rw [ecc]
        exact br_t c2 ⟨rfl, hR⟩
      · unfold wpX_load
        refine a1 _ _ (br_f kb_10 (x1 _ (br_t rfl ⟨hin, ?_⟩)))
        rw [ec, e2]
        refine kb_cell _ _ _ _ _ _ _ _ _ _ _ _ _ _ _ (6 * s + f) (kb_cx s f) ⟨hinx, ?_⟩
        rw [ecx, eq]
        refine br_f (by rw [c1]; exact kb_10) ⟨hinx, hinq, nm_e ?_⟩
        unfold wpY_load
        refine a2 _ (br_t rfl (y1 _ (br_t rfl ⟨hin, nm_r (e' := nI (6 * (s + 1) + f)) (by rw [ec, e3]; exact kb_cy _ _) ⟨hinc, ?_⟩⟩)))
        rw [ecc, eq]
        refine br_f (by rw [c2]; exact kb_10) ⟨hinc, hinq, nm_e ⟨rfl, ?_⟩⟩
        refine ⟨S, by omega, h1, h2, h3, h4, h5, h6, h7, kn_R H ?_⟩
        rcases c3 with ⟨b, c⟩ | ⟨t, t1, t2, t3, t4⟩
        · exact Or.inl ⟨b, c⟩
        · exact Or.inr ⟨t, t1, t2, t3, t4 hx⟩
theorem i_vc_copy {k : Nat} {u : SX} {v : SY} (I : i_Rel k u v) (hk : k + 4 ≤ 2050) (v1 : Int32) (v2 : Int32) : wpX_copy (fun r u' => wpY_copy (fun r' v' => r' = r ∧ i_Rel (k + 4) u' v') v v1 v2) u v1 v2 := by
  obtain ⟨S, hS, h⟩ := I
  have hR := kr_up (n := 0) hS (by omega) h
  obtain ⟨cap, rc, fl, co, ls, rg, ex, sr, kd, fc, hr, ct, ra, rd, fs⟩ := u
  obtain ⟨cp, sn, cl, fn, so, ko, fo, fd, ir, re, yg, la⟩ := v
  obtain ⟨h1, h2, h3, h4, h5, h6, h7, H⟩ := h
  rcases km_reg v1 with ⟨a1, a2⟩ | ⟨q, q8, eq, a1, a2⟩
  · unfold wpX_copy
    refine a1 _ _ (br_t rfl ?_)
    unfold wpY_copy
    exact a2 _ (br_f kb_10 ⟨rfl, hR⟩)
  · subst eq
    have eq := nI_clamp (n := q) (by omega)
    have hinq := vp_in_nI (n := q) (N := 8) (by omega) (by omega)
    rcases km_fr cap rc fl co ls ra rd fs H v2 with ⟨x1, y1⟩ | ⟨r, r8, e, y1, ⟨b, c, x1⟩ | ⟨s, t1, t2, t3, t4, x1⟩⟩
    · unfold wpX_copy
      refine a1 _ _ (br_f kb_10 (x1 _ (br_f (by decide) ?_)))
      unfold wpY_copy
      exact a2 _ (br_t rfl (y1 _ (br_f kb_10 ⟨rfl, hR⟩)))
    · subst e
      have ec := nI_clamp (n := r) (by omega)
      have hin := vp_in_nI (n := r) (N := 8) (by omega) (by omega)
      unfold wpX_copy
      refine a1 _ _ (br_f kb_10 (x1 _ (br_f (by decide) ?_)))
      unfold wpY_copy
      refine a2 _ (br_t rfl (y1 _ (br_t rfl ⟨hin, ?_⟩)))
      rw [ec]
      exact br_t c ⟨rfl, hR⟩
    · subst e
      have ec := nI_clamp (n := r) (by omega)
      have hin := vp_in_nI (n := r) (N := 8) (by omega) (by omega)
      have es := nI_clamp (n := s) (by omega)
      have hins := vp_in_nI (n := s) (N := 96) (by omega) (by omega)
      have es1 := nI_clamp (n := s + 1) (by omega)
      have hins1 := vp_in_nI (n := s + 1) (N := 97) (by omega) (by omega)
      have eu : upd rg q (nI s) r = nI s := by
        by_cases y : r = q
        · subst y; exact pk_us
        · rw [pk_un y]; exact t2
      unfold wpX_copy
      refine a1 _ _ (br_f kb_10 (x1 _ (br_t rfl ⟨hin, hinq, nm_r (e' := upd rg q (nI s)) (by rw [ec, eq, t2]) ⟨hin, ?_⟩⟩)))
      rw [ec, eu, es]
      refine ⟨hins, ?_⟩
      unfold wpY_copy
      refine a2 _ (br_t rfl (y1 _ (br_t rfl ⟨hin, ?_⟩)))
      rw [ec, t3, eq]
      refine br_f (nI_ne0 (by omega) (by omega)) ⟨hin, hinq, nm_e ⟨hinq, ?_⟩⟩
      rw [pk_us, es1]
      refine ⟨hins1, (kr_O H s t1).2 t4, S, by omega, h1, h2, h3, h4, h5, h6, h7, kn_R H (Or.inr ⟨s, t1, rfl, rfl, t4⟩)⟩
theorem i_vc_clear {k : Nat} {u : SX} {v : SY} (I : i_Rel k u v) (hk : k + 4 ≤ 2050) (v1 : Int32) : wpX_clear (fun r u' => wpY_clear (fun r' v' => r' = r ∧ i_Rel (k + 4) u' v') v v1) u v1 := by
  obtain ⟨S, hS, h⟩ := I
  have hR := kr_up (n := 0) hS (by omega) h
  obtain ⟨cap, rc, fl, co, ls, rg, ex, sr, kd, fc, hr, ct, ra, rd, fs⟩ := u
  obtain ⟨cp, sn, cl, fn, so, ko, fo, fd, ir, re, yg, la⟩ := v
  obtain ⟨h1, h2, h3, h4, h5, h6, h7, H⟩ := h
  rcases km_reg v1 with ⟨a1, a2⟩ | ⟨q, q8, eq, a1, a2⟩
  · unfold wpX_clear
    refine a1 _ _ (br_t rfl ?_)
    unfold wpY_clear
    exact a2 _ (br_f kb_10 ⟨rfl, hR⟩)
  · subst eq
    have eq := nI_clamp (n := q) (by omega)
    have hinq := vp_in_nI (n := q) (N := 8) (by omega) (by omega)
    unfold wpX_clear
    refine a1 _ _ (br_f kb_10 ⟨hinq, nm_r (by rw [eq]) ?_⟩)
    unfold wpY_clear
    refine a2 _ (br_t rfl ⟨hinq, nm_r (by rw [eq]) ⟨rfl, ?_⟩⟩)
    exact ⟨S, by omega, h1, h2, h3, h4, h5, h6, h7, kn_R H (Or.inl ⟨rfl, rfl⟩)⟩
theorem i_vc_read {k : Nat} {u : SX} {v : SY} (I : i_Rel k u v) (hk : k + 4 ≤ 2050) (v1 : Int32) (v2 : Int32) : wpX_read (fun r => wpY_read (fun r' => r' = r ∧ i_Rel (k + 4) u v) v v1 v2) u v1 v2 := by
  obtain ⟨S, hS, h⟩ := I
  have hR := kr_up (n := 0) hS (by omega) h
  obtain ⟨cap, rc, fl, co, ls, rg, ex, sr, kd, fc, hr, ct, ra, rd, fs⟩ := u
  obtain ⟨cp, sn, cl, fn, so, ko, fo, fd, ir, re, yg, la⟩ := v
  obtain ⟨h1, h2, h3, h4, h5, h6, h7, H⟩ := h
  rcases km_ff cap rc fl co ls ra rd fs cp sn cl fn re la H v1 v2 with ⟨e, he, x1, y1⟩ | ⟨r, s, f, F, r8, e1, hs, e2, e3, hx, hF, hf, e4, -, hc, x1, y1⟩
  · unfold wpX_read
    refine x1 _ (br_f he ?_)
    unfold wpY_read
    exact y1 _ (br_f he ⟨rfl, hR⟩)
  · subst e1 e4
    have ec := nI_clamp (n := r) (by omega)
    have hin := vp_in_nI (n := r) (N := 8) (by omega) (by omega)
    have ecx := nI_clamp (n := 6 * s + f) (by omega)
    have hinx := vp_in_nI (n := 6 * s + f) (N := 576) (by omega) (by omega)
    have ecc := nI_clamp (n := 6 * (s + 1) + f) (by omega)
    have hinc := vp_in_nI (n := 6 * (s + 1) + f) (N := 582) (by omega) (by omega)
    unfold wpX_read
    refine x1 _ (br_t rfl ⟨hin, ?_⟩)
    rw [ec, e2]
    refine kb_cell _ _ _ _ _ _ _ _ _ _ _ _ _ _ _ (6 * s + f) (kb_cx s f) ⟨hinx, ?_⟩
    rw [ecx]
    rcases hc with ⟨c1, c2, c3⟩ | ⟨c1, c2, ⟨b, c⟩ | ⟨t, t1, t2, t3, t4⟩⟩
    · refine br_t c1 ⟨hinx, ?_⟩
      unfold wpY_read
      refine y1 _ (br_t rfl ⟨hin, nm_r (e' := nI (6 * (s + 1) + f)) (by rw [ec, e3]; exact kb_cy _ _) ⟨hinc, nm_r (by rw [ecc]) ⟨hinc, ?_⟩⟩⟩)
      rw [ecc]
      exact br_t c2 ⟨by rw [c3], hR⟩
    · refine br_f (by rw [c1]; exact kb_10) ⟨hinx, br_t b ?_⟩
      unfold wpY_read
      refine y1 _ (br_t rfl ⟨hin, nm_r (e' := nI (6 * (s + 1) + f)) (by rw [ec, e3]; exact kb_cy _ _) ⟨hinc, nm_r (by rw [ecc, c]) ⟨hinc, ?_⟩⟩⟩)
      rw [ecc]
      exact br_f (by rw [c2]; exact kb_10) (br_t rfl ⟨rfl, hR⟩)
    · have et := nI_clamp (n := t) (by omega)
      have et1 := nI_clamp (n := t + 1) (by omega)
      rw [t2, et]
      refine br_f (by rw [c1]; exact kb_10) ⟨hinx, br_f (kb_m1 (by omega)) ⟨hinx, vp_in_nI (by omega) (by omega), ?_⟩⟩
      unfold wpY_read
      refine y1 _ (br_t rfl ⟨hin, nm_r (e' := nI (6 * (s + 1) + f)) (by rw [ec, e3]; exact kb_cy _ _) ⟨hinc, nm_r (by rw [ecc, t3]) ⟨hinc, ?_⟩⟩⟩)
      rw [ecc, et1]
      refine br_f (by rw [c2]; exact kb_10) (br_f (nI_ne0 (by omega) (by omega)) ⟨vp_in_nI (by omega) (by omega), ?_, hR⟩)
      rw [(kr_O H t t1).2 (t4 hx)]
theorem i_vc_serial {k : Nat} {u : SX} {v : SY} (I : i_Rel k u v) (hk : k + 4 ≤ 2050) (v1 : Int32) : wpX_serial (fun r => wpY_serial (fun r' => r' = r ∧ i_Rel (k + 4) u v) v v1) u v1 := by
  obtain ⟨S, hS, h⟩ := I
  have hR := kr_up (n := 0) hS (by omega) h
  obtain ⟨cap, rc, fl, co, ls, rg, ex, sr, kd, fc, hr, ct, ra, rd, fs⟩ := u
  obtain ⟨cp, sn, cl, fn, so, ko, fo, fd, ir, re, yg, la⟩ := v
  obtain ⟨h1, h2, h3, h4, h5, h6, h7, H⟩ := h
  rcases km_fr cap rc fl co ls ra rd fs H v1 with ⟨x1, y1⟩ | ⟨r, r8, e, y1, ⟨b, c, x1⟩ | ⟨s, t1, t2, t3, t4, x1⟩⟩
  · unfold wpX_serial
    refine x1 _ (br_f (by decide) ?_)
    unfold wpY_serial
    exact y1 _ (br_f kb_10 ⟨rfl, hR⟩)
  · subst e
    have ec := nI_clamp (n := r) (by omega)
    have hin := vp_in_nI (n := r) (N := 8) (by omega) (by omega)
    unfold wpX_serial
    refine x1 _ (br_f (by decide) ?_)
    unfold wpY_serial
    exact y1 _ (br_t rfl ⟨hin, nm_r (by rw [ec, c]) (br_t rfl ⟨rfl, hR⟩)⟩)
  · subst e
    have ec := nI_clamp (n := r) (by omega)
    have hin := vp_in_nI (n := r) (N := 8) (by omega) (by omega)
    have es := nI_clamp (n := s) (by omega)
    have es1 := nI_clamp (n := s + 1) (by omega)
    unfold wpX_serial
    refine x1 _ (br_t rfl ⟨hin, ?_⟩)
    rw [ec, t2, es]
    refine ⟨vp_in_nI (by omega) (by omega), ?_⟩
    unfold wpY_serial
    refine y1 _ (br_t rfl ⟨hin, nm_r (e' := nI (s + 1)) (by rw [ec, t3]) (br_f (nI_ne0 (by omega) (by omega)) ⟨vp_in_nI (by omega) (by omega), ?_, hR⟩)⟩)
    rw [es1]
    exact (kr_O H s t1).2 t4
theorem i_vc_shape {k : Nat} {u : SX} {v : SY} (I : i_Rel k u v) (hk : k + 4 ≤ 2050) (v1 : Int32) : wpX_shape (fun r => wpY_shape (fun r' => r' = r ∧ i_Rel (k + 4) u v) v v1) u v1 := by
  obtain ⟨S, hS, h⟩ := I
  have hR := kr_up (n := 0) hS (by omega) h
  obtain ⟨cap, rc, fl, co, ls, rg, ex, sr, kd, fc, hr, ct, ra, rd, fs⟩ := u
  obtain ⟨cp, sn, cl, fn, so, ko, fo, fd, ir, re, yg, la⟩ := v
  obtain ⟨h1, h2, h3, h4, h5, h6, h7, H⟩ := h
  rcases km_fr cap rc fl co ls ra rd fs H v1 with ⟨x1, y1⟩ | ⟨r, r8, e, y1, ⟨b, c, x1⟩ | ⟨s, t1, t2, t3, t4, x1⟩⟩
  · unfold wpX_shape
    refine x1 _ (br_f (by decide) ?_)
    unfold wpY_shape
    exact y1 _ (br_f kb_10 ⟨rfl, hR⟩)
  · subst e
    have ec := nI_clamp (n := r) (by omega)
    have hin := vp_in_nI (n := r) (N := 8) (by omega) (by omega)
    unfold wpX_shape
    refine x1 _ (br_f (by decide) ?_)
    unfold wpY_shape
    exact y1 _ (br_t rfl ⟨hin, nm_r (by rw [ec, c]) (br_t rfl ⟨rfl, hR⟩)⟩)
  · subst e
    have ec := nI_clamp (n := r) (by omega)
    have hin := vp_in_nI (n := r) (N := 8) (by omega) (by omega)
    have es := nI_clamp (n := s) (by omega)
    have es1 := nI_clamp (n := s + 1) (by omega)
    have hins := vp_in_nI (n := s) (N := 96) (by omega) (by omega)
    have hins1 := vp_in_nI (n := s + 1) (N := 97) (by omega) (by omega)
    unfold wpX_shape
    refine x1 _ (br_t rfl ⟨hin, nm_r (e' := nI s) (by rw [ec, t2]) ⟨hins, hins, ?_⟩⟩)
    rw [es]
    unfold wpY_shape
    refine y1 _ (br_t rfl ⟨hin, nm_r (e' := nI (s + 1)) (by rw [ec, t3]) (br_f (nI_ne0 (by omega) (by omega)) ⟨hins1, hins1, ?_, hR⟩)⟩)
    obtain ⟨F, hF, f1, f2⟩ := kr_F H s t1
    rw [es1, kr_K H s t1, f1, f2, Int32.mul_comm]
theorem i_vc_collect {k : Nat} {u : SX} {v : SY} (I : i_Rel k u v) (hk : k + 4 ≤ 2050) : wpX_collect (fun r u' => wpY_collect (fun r' v' => r' = r ∧ i_Rel (k + 4) u' v') v) u := by
  obtain ⟨S, hS, h⟩ := I
  obtain ⟨u', v', r, g1, g0, g2, g3, g4⟩ := kr_coll h
  obtain ⟨cap, rc, fl, co, ls, rg, ex, sr, kd, fc, hr, ct, ra, rd, fs⟩ := u
  obtain ⟨cap', rc', fl', co', ls', rg', ex', sr', kd', fc', hr', ct', ra', rd', fs'⟩ := u'
  unfold wpX_collect
  exact g2 _ (g4 _ (g3 _ ⟨rfl, S, by omega, g1⟩))
theorem i_vc_count {k : Nat} {u : SX} {v : SY} (I : i_Rel k u v) (hk : k + 4 ≤ 2050) (v1 : Int32) : wpX_count (fun r u' => wpY_count (fun r' v' => r' = r ∧ i_Rel (k + 4) u' v') v v1) u v1 := by
  obtain ⟨S, hS, h⟩ := I
  have hR := kr_up (n := 0) hS (by omega) h
  obtain ⟨u', v', q, g1, g2, g3⟩ := kr_reach h
  obtain ⟨cap, rc, fl, co, ls, rg, ex, sr, kd, fc, hr, ct, ra, rd, fs⟩ := u
  obtain ⟨cp, sn, cl, fn, so, ko, fo, fd, ir, re, yg, la⟩ := v
  obtain ⟨h1, h2, h3, h4, h5, h6, h7, H⟩ := h
  unfold wpX_count
  refine br_c (fun a => ?_) (fun a => br_c (fun b => ?_) (fun b => br_c (fun c0 => ?_) (fun c0 => br_c (fun c1 => ?_) (fun c1 => br_c (fun c2 => ?_) (fun c2 => br_c (fun c3 => ?_) (fun c3 => br_c (fun c4 => ?_) (fun c4 => trivial)))))))
  · unfold wpY_count
    exact br_t a ⟨rfl, hR⟩
  · unfold wpY_count
    exact br_f a (br_t b ⟨rfl, hR⟩)
  · refine kb_xw _ _ _ _ _ _ _ _ _ _ _ _ _ _ _ ?_
    unfold wpY_count
    refine br_f a (br_f b (br_t c0 (kb_yw _ _ _ _ _ _ _ _ _ _ _ _ ⟨kr_words H, hR⟩)))
  · refine g2 _ ?_
    obtain ⟨cap', rc', fl', co', ls', rg', ex', sr', kd', fc', hr', ct', ra', rd', fs'⟩ := u'
    obtain ⟨cp', sn', cl', fn', so', ko', fo', fd', ir', re', yg', la'⟩ := v'
    unfold wpY_count
    exact br_f a (br_f b (br_f c0 (br_t c1 (g3 _ ⟨rfl, S, by omega, g1⟩))))
  · unfold wpY_count
    exact br_f a (br_f b (br_f c0 (br_f c1 (br_t c2 ⟨h2, hR⟩))))
  · unfold wpY_count
    exact br_f a (br_f b (br_f c0 (br_f c1 (br_f c2 (br_t c3 ⟨h3, hR⟩)))))
  · unfold wpY_count
    exact br_f a (br_f b (br_f c0 (br_f c1 (br_f c2 (br_f c3 (br_t c4 ⟨h1, hR⟩))))))
theorem i_vc_finalized {k : Nat} {u : SX} {v : SY} (I : i_Rel k u v) (hk : k + 4 ≤ 2050) (v1 : Int32) : wpX_finalized (fun r => wpY_finalized (fun r' => r' = r ∧ i_Rel (k + 4) u v) v v1) u v1 := by
  obtain ⟨S, hS, h⟩ := I
  have hR := kr_up (n := 0) hS (by omega) h
  obtain ⟨cap, rc, fl, co, ls, rg, ex, sr, kd, fc, hr, ct, ra, rd, fs⟩ := u
  obtain ⟨cp, sn, cl, fn, so, ko, fo, fd, ir, re, yg, la⟩ := v
  obtain ⟨h1, h2, h3, h4, h5, h6, h7, H⟩ := h
  subst h1 h2 h3 h4
  have e16 : (16 : Int32) ≤ v1 ↔ 15 < v1 := by
    rw [Int32.le_iff_toInt_le, Int32.lt_iff_toInt_lt, show (16 : Int32).toInt = 16 from by decide, show (15 : Int32).toInt = 15 from by decide]
    omega
  unfold wpX_finalized
  refine br_c (fun a => ?_) (fun a => br_c (fun b => ?_) (fun b => br_c (fun c => ⟨kf_15 _, ?_⟩) (fun c => ?_)))
  · unfold wpY_finalized
    exact br_t a ⟨rfl, hR⟩
  · unfold wpY_finalized
    exact br_f a (br_t (e16.mp b) ⟨rfl, hR⟩)
  · unfold wpY_finalized
    exact br_f a (br_f (fun g => b (e16.mpr g)) (br_t c ⟨kf_15 _, rfl, hR⟩))
  · unfold wpY_finalized
    exact br_f a (br_f (fun g => b (e16.mpr g)) (br_f c ⟨rfl, hR⟩))
end
section
/-! the constructors, make, weak, list -/
theorem kn_1 {a : Nat → Int32} {s : Nat} : upd a s 1 s ≠ 0 := by rw [pk_us]; exact kb_10
theorem kl_init (cap rc fl co ls : Int32) (rg ex sr kd fc hr ct ra rd fs : Nat → Int32) : ∃ rg', (∀ r, r < 8 → rg' r = -1) ∧ ∀ post : SX → Prop, post (cap, rc, fl, co, ls, rg', ex, sr, kd, fc, hr, ct, ra, rd, fs) → ∃ n143, wX_init_143 post cap rc fl co ls n143 0 rg ex sr kd fc hr ct ra rd fs := by
  have L : ∀ d i, i + d = 8 → ∀ rg, (∀ r, r < i → rg r = -1) → ∃ rg', (∀ r, r < 8 → rg' r = -1) ∧ ∀ post : SX → Prop, post (cap, rc, fl, co, ls, rg', ex, sr, kd, fc, hr, ct, ra, rd, fs) → wX_init_143 post cap rc fl co ls (d + 1) (nI i) rg ex sr kd fc hr ct ra rd fs := by
    intro d
    induction d with
    | zero =>
      intro i hi rg h
      exact ⟨rg, fun r hr => h r (by omega), fun post hp => br_t (nI_le (a := 8) (by omega) (by omega)) hp⟩
    | succ d ih =>
      intro i hi rg h
      have ec := nI_clamp (n := i) (by omega)
      obtain ⟨rg', h1, h2⟩ := ih (i + 1) (by omega) (upd rg i (-1)) (fun r hr => by
        by_cases y : r = i
        · subst y; exact pk_us
        · rw [pk_un y]; exact h r (by omega))
      exact ⟨rg', h1, fun post hp => br_f (nI_ge (b := 8) (by omega) (by omega)) ⟨vp_in_nI (by omega) (by omega), nm_r (by rw [ec]) (nm_r (nI_1 i) (h2 post hp))⟩⟩
  obtain ⟨rg', h1, h2⟩ := L 8 0 rfl rg (fun r hr => by omega)
  exact ⟨rg', h1, fun post hp => ⟨9, h2 post hp⟩⟩
theorem kl_0 {C : Nat} {cap : Int32} {rg ra rd re : Nat → Int32} (hC : 16 ≤ C) (hC2 : C ≤ 96) (e : cap = nI C) (hr : ∀ r, r < 8 → rg r = -1) :
    i_Rel 2 (cap, 0, 0, 0, 0, rg, (fun _ => 0), (fun _ => 0), (fun _ => 0), (fun _ => 0), (fun _ => 0), (fun _ => 0), ra, rd, (fun _ => 0)) (cap, 0, 0, 0, (fun _ => 0), (fun _ => 0), (fun _ => 0), (fun _ => 0), (fun _ => 0), re, (fun _ => 0), (fun _ => 0)) := by
  refine ⟨0, by omega, rfl, rfl, rfl, rfl, rfl, rfl, ⟨C, hC, hC2, e⟩, fun r h => Or.inl ⟨hr r h, rfl⟩, fun s hs => ⟨0, by omega, rfl, rfl, rfl, Or.inl rfl, rfl, fun h => absurd rfl h, fun h => absurd h (show ¬ (0 : Int32) = 2 by decide), fun f hf => by omega⟩⟩
theorem i_vc0 (k0 : Int32) (k1 : Int32) : wpX_init (fun u => wpY_init (fun v => i_Rel 2 u v) k0 k1) k0 k1 := by
  unfold wpX_init
  refine br_c (fun a => br_c (fun b => ?_) (fun b => ?_)) (fun a => ?_)
  · obtain ⟨rg', h1, h2⟩ := kl_init k0 0 0 0 0 (fun _ => 0) (fun _ => 0) (fun _ => 0) (fun _ => 0) (fun _ => 0) (fun _ => 0) (fun _ => 0) (fun _ => 0) (fun _ => 0) (fun _ => 0)
    refine h2 _ ?_
    unfold wpY_init
    have n0 : ¬ k0 < 0 := by
      rw [Int32.lt_iff_toInt_lt]
      rw [Int32.le_iff_toInt_le, show (16 : Int32).toInt = 16 from by decide] at a
      have : (0 : Int32).toInt = 0 := by decide
      omega
    obtain ⟨C, hC, e⟩ := nI_of n0
    subst e
    have c1 : 16 ≤ C := (nI_leI (a := 16) (by omega) hC).mp a
    have c2 : C ≤ 96 := (nI_leI (b := 96) hC (by omega)).mp b
    exact br_t a (br_t b (kl_0 c1 c2 rfl h1))
  · obtain ⟨rg', h1, h2⟩ := kl_init 96 0 0 0 0 (fun _ => 0) (fun _ => 0) (fun _ => 0) (fun _ => 0) (fun _ => 0) (fun _ => 0) (fun _ => 0) (fun _ => 0) (fun _ => 0) (fun _ => 0)
    refine h2 _ ?_
    unfold wpY_init
    exact br_t a (br_f b (kl_0 (C := 96) (by omega) (by omega) rfl h1))
  · obtain ⟨rg', h1, h2⟩ := kl_init 16 0 0 0 0 (fun _ => 0) (fun _ => 0) (fun _ => 0) (fun _ => 0) (fun _ => 0) (fun _ => 0) (fun _ => 0) (fun _ => 0) (fun _ => 0) (fun _ => 0)
    refine h2 _ ?_
    unfold wpY_init
    exact br_f a (kl_0 (C := 16) (by omega) (by omega) rfl h1)
theorem kl_make {k S F q : Nat} {K : Int32} (cap rc fl co ls : Int32) (rg ex sr kd fc hr ct ra rd fs : Nat → Int32) (cp sn cl fn : Int32) (so ko fo fd ir re yg la : Nat → Int32) (h : kr_R S (cap, rc, fl, co, ls, rg, ex, sr, kd, fc, hr, ct, ra, rd, fs) (cp, sn, cl, fn, so, ko, fo, fd, ir, re, yg, la)) (hS : S ≤ 5 * k) (hk : k + 4 ≤ 2050) (hF : F ≤ 6) (q8 : q < 8) (hK : K = 0 ∨ K = 1)
    (a2 : ∀ post : Int32 → Prop, post 0 → wpY_bad post (nI q)) : wX_make_31 (fun r u' => wpY_make (fun r' v' => r' = r ∧ i_Rel (k + 4) u' v') (cp, sn, cl, fn, so, ko, fo, fd, ir, re, yg, la) (nI q) (nI F) K) (nI q) (nI F) K cap rc fl co ls rg ex sr kd fc hr ct ra rd fs := by
  have eq := nI_clamp (n := q) (by omega)
  have hinq := vp_in_nI (n := q) (N := 8) (by omega) (by omega)
  have hK2 : ¬ K = 2 := by rcases hK with y | y <;> rw [y] <;> decide
  have hK0 : ¬ K < 0 := by rcases hK with y | y <;> rw [y] <;> decide
  have hK1 : K ≤ 1 := by rcases hK with y | y <;> rw [y] <;> decide
  have f0 : ¬ nI F < 0 := nI_pos (by omega)
  have f6 : ¬ 6 < nI F := by
    rw [show (6 : Int32) = nI 6 from rfl, nI_ltI (by omega) (by omega)]
    omega
  have hnew := kn_new (K := K) h hF
  unfold wX_make_31
  rcases hnew with ⟨u', v', g1, g2, g3⟩ | ⟨s, cap, rc, fl, co, rg, ex, sr, kd, fc, hr, ct, ra, rd, fs, so, ko, fo, fd, ir, re, yg, hr', ct', fd', ir', h1, h2, h3, h4, h5, h6, h7, h8, h9, h10, h11, h12⟩
  · obtain ⟨cap, rc, fl, co, ls, rg, ex, sr, kd, fc, hr, ct, ra, rd, fs⟩ := u'
    obtain ⟨cp, sn, cl, fn, so, ko, fo, fd, ir, re, yg, la⟩ := v'
    refine g2 _ (br_t rfl ?_)
    unfold wpY_make
    exact a2 _ (br_t rfl (br_f f0 (br_f f6 (br_f hK0 (br_t hK1 (g3 _ (br_t rfl ⟨rfl, kr_up (n := 0) hS (by omega) g1⟩)))))))
  · have es := nI_clamp (n := s) (by omega)
    have es1 := nI_clamp (n := s + 1) (by omega)
    have H2 := kn_H h3 h1 h4 (N := nI (S + 1)) (K := K) (nI_ne0 (by omega) (by omega)) hF (fun z => absurd z hK2) h5 h6 h7 h8 (fun f hf => Or.inl ⟨(h9 f hf).1, (h10 f (by omega)).2, (h10 f (by omega)).1.trans (h9 f hf).2.symm⟩)
    have H3 := kn_R (r := q) H2 (Or.inr ⟨s, h1, rfl, rfl, kn_1⟩)
    refine h11 _ (br_f (kb_m1 (by omega)) ⟨hinq, nm_r (e' := upd rg q (nI s)) (by rw [eq]) ⟨vp_in_nI (by omega) (by omega), ?_⟩⟩)
    rw [es, pk_us]
    unfold wpY_make
    refine a2 _ (br_t rfl (br_f f0 (br_f f6 (br_f hK0 (br_t hK1 (h12 _ (br_f (nI_ne0 (by omega) (by omega)) ⟨hinq, nm_r (e' := upd yg q (nI (s + 1))) (by rw [eq]) ⟨vp_in_nI (by omega) (by omega), ?_⟩⟩)))))))
    rw [es1, pk_us]
    exact ⟨rfl, kr_up (n := 1) hS (by omega) ⟨rfl, rfl, rfl, rfl, rfl, rfl, h2, H3⟩⟩
theorem i_vc_make {k : Nat} {u : SX} {v : SY} (I : i_Rel k u v) (hk : k + 4 ≤ 2050) (v1 : Int32) (v2 : Int32) (v3 : Int32) : wpX_make (fun r u' => wpY_make (fun r' v' => r' = r ∧ i_Rel (k + 4) u' v') v v1 v2 v3) u v1 v2 v3 := by
  obtain ⟨S, hS, h⟩ := I
  have hR := kr_up (n := 0) hS (by omega) h
  have h0 := h
  obtain ⟨cap, rc, fl, co, ls, rg, ex, sr, kd, fc, hr, ct, ra, rd, fs⟩ := u
  obtain ⟨cp, sn, cl, fn, so, ko, fo, fd, ir, re, yg, la⟩ := v
  have e6 : v2 ≤ 6 ↔ ¬ 6 < v2 := by
    rw [Int32.le_iff_toInt_le, Int32.lt_iff_toInt_lt]
    omega
  unfold wpX_make
  rcases km_reg v1 with ⟨a1, a2⟩ | ⟨q, q8, eq, a1, a2⟩
  · refine a1 _ _ (br_t rfl ?_)
    unfold wpY_make
    exact a2 _ (br_f kb_10 ⟨rfl, hR⟩)
  · subst eq
    refine a1 _ _ (br_f kb_10 (br_c (fun a => ?_) (fun a => br_c (fun b => ?_) (fun b => ?_))))
    · unfold wpY_make
      exact a2 _ (br_t rfl (br_t a ⟨rfl, hR⟩))
    · obtain ⟨F, hF, e⟩ := nI_of a
      subst e
      have hF6 : F ≤ 6 := (nI_leI (b := 6) hF (by omega)).mp b
      by_cases z0 : v3 = 0
      · exact br_t z0 (kl_make cap rc fl co ls rg ex sr kd fc hr ct ra rd fs cp sn cl fn so ko fo fd ir re yg la h0 hS hk hF6 q8 (Or.inl z0) a2)
      · by_cases z1 : v3 = 1
        · exact br_f z0 (br_t z1 (kl_make cap rc fl co ls rg ex sr kd fc hr ct ra rd fs cp sn cl fn so ko fo fd ir re yg la h0 hS hk hF6 q8 (Or.inr z1) a2))
        · refine br_f z0 (br_f z1 ?_)
          unfold wpY_make
          refine a2 _ (br_t rfl (br_f a (br_f (e6.mp b) (br_c (fun c => ⟨rfl, hR⟩) (fun c => br_f (fun d => ?_) ⟨rfl, hR⟩)))))
          obtain ⟨j, hj, e⟩ := nI_of c
          subst e
          have := (nI_leI (b := 1) hj (by omega)).mp d
          rcases (by omega : j = 0 ∨ j = 1) with y | y
          · subst y; exact z0 rfl
          · subst y; exact z1 rfl
    · unfold wpY_make
      refine a2 _ (br_t rfl (br_f a (br_t ?_ ⟨rfl, hR⟩)))
      rw [Int32.le_iff_toInt_le] at b
      rw [Int32.lt_iff_toInt_lt]
      omega
theorem i_vc_weak {k : Nat} {u : SX} {v : SY} (I : i_Rel k u v) (hk : k + 4 ≤ 2050) (v1 : Int32) (v2 : Int32) : wpX_weak (fun r u' => wpY_weak (fun r' v' => r' = r ∧ i_Rel (k + 4) u' v') v v1 v2) u v1 v2 := by
  obtain ⟨S, hS, h⟩ := I
  have hR := kr_up (n := 0) hS (by omega) h
  have hnew := kn_new (F := 1) (K := 2) h (by omega)
  obtain ⟨cap0, rc0, fl0, co0, ls0, rg0, ex0, sr0, kd0, fc0, hr0, ct0, ra0, rd0, fs0⟩ := u
  obtain ⟨cp0, sn0, cl0, fn0, so0, ko0, fo0, fd0, ir0, re0, yg0, la0⟩ := v
  unfold wpX_weak
  rcases km_reg v1 with ⟨a1, a2⟩ | ⟨q, q8, eq, a1, a2⟩
  · refine a1 _ _ (br_t rfl ?_)
    unfold wpY_weak
    exact a2 _ (br_f kb_10 ⟨rfl, hR⟩)
  · rcases km_reg v2 with ⟨b1, b2⟩ | ⟨p, p8, ep, b1, b2⟩
    · refine a1 _ _ (br_f kb_10 (b1 _ _ (br_t rfl ?_)))
      unfold wpY_weak
      exact a2 _ (br_t rfl (b2 _ (br_f kb_10 ⟨rfl, hR⟩)))
    · subst eq ep
      have eq := nI_clamp (n := q) (by omega)
      have hinq := vp_in_nI (n := q) (N := 8) (by omega) (by omega)
      have ep := nI_clamp (n := p) (by omega)
      have hinp := vp_in_nI (n := p) (N := 8) (by omega) (by omega)
      rcases hnew with ⟨u', v', g1, g2, g3⟩ | ⟨s, cap, rc, fl, co, rg, ex, sr, kd, fc, hr, ct, ra, rd, fs, so, ko, fo, fd, ir, re, yg, hr', ct', fd', ir', h1, h2, h3, h4, h5, h6, h7, h8, h9, h10, h11, h12⟩
      · obtain ⟨cap, rc, fl, co, ls, rg, ex, sr, kd, fc, hr, ct, ra, rd, fs⟩ := u'
        obtain ⟨cp, sn, cl, fn, so, ko, fo, fd, ir, re, yg, la⟩ := v'
        refine a1 _ _ (br_f kb_10 (b1 _ _ (br_f kb_10 (g2 _ (br_t rfl ?_)))))
        unfold wpY_weak
        exact a2 _ (br_t rfl (b2 _ (br_t rfl (g3 _ (br_t rfl ⟨rfl, kr_up (n := 0) hS (by omega) g1⟩)))))
      · have es := nI_clamp (n := s) (by omega)
        have es1 := nI_clamp (n := s + 1) (by omega)
        have ecc := nI_clamp (n := 6 * (s + 1)) (by omega)
        have hinc := vp_in_nI (n := 6 * (s + 1)) (N := 582) (by omega) (by omega)
        have H2 := kn_H h3 h1 h4 (N := nI (S + 1)) (K := 2) (F := 1) (hr2 := upd hr' (6 * s) 1) (ct2 := upd ct' (6 * s) (rg p)) (fd2 := upd fd' (6 * (s + 1)) (yg p)) (ir2 := upd ir' (6 * (s + 1)) 1)
          (nI_ne0 (by omega) (by omega)) (by omega) (fun _ => ⟨rfl, pk_us⟩) (kn_Ou (f := 0) h5 (by omega)) (kn_Ou (f := 0) h6 (by omega)) (kn_Yu (f := 0) h7 (by omega)) (kn_Yu (f := 0) h8 (by omega)) (fun f hf => by
            obtain rfl : f = 0 := by omega
            refine Or.inr ⟨pk_us, pk_us, ?_⟩
            show kr_p _ (upd ct' (6 * s) (rg p) (6 * s)) (upd fd' (6 * (s + 1)) (yg p) (6 * (s + 1)))
            rw [pk_us, pk_us]
            exact h3.1 p p8)
        have H3 := kn_R (r := q) H2 (Or.inr ⟨s, h1, rfl, rfl, kn_1⟩)
        refine a1 _ _ (br_f kb_10 (b1 _ _ (br_f kb_10 (h11 _ (br_f (kb_m1 (by omega)) (kb_cell _ _ _ _ _ _ _ _ _ _ _ _ _ _ _ (6 * s) (kb_cx0 s) ⟨hinp, ?_⟩))))))
        rw [ep]
        refine kb_sr _ _ _ _ _ _ _ _ _ _ _ _ _ _ _ (by omega) ⟨hinq, nm_r (e' := upd rg q (nI s)) (by rw [eq]) ⟨vp_in_nI (by omega) (by omega), ?_⟩⟩
        rw [es, pk_us]
        unfold wpY_weak
        refine a2 _ (br_t rfl (b2 _ (br_t rfl (h12 _ (br_f (nI_ne0 (by omega) (by omega)) ?_)))))
        rw [kb_cy0, ecc, kb_n1, ep, eq, es1, pk_us]
        exact ⟨hinc, nm_e ⟨hinp, hinc, nm_e ⟨hinq, nm_e ⟨vp_in_nI (by omega) (by omega), rfl, kr_up (n := 1) hS (by omega) ⟨rfl, rfl, rfl, rfl, rfl, rfl, h2, H3⟩⟩⟩⟩⟩
theorem kl_list {q n : Nat} {x3 : Int32} (q8 : q < 8) (hn : n ≤ 20) : ∀ d i, i + d = n → ∀ (S : Nat) (cap rc fl co ls : Int32) (rg ex sr kd fc hr ct ra rd fs : Nat → Int32) (cp sn cl fn : Int32) (so ko fo fd ir re yg la : Nat → Int32), kr_R S (cap, rc, fl, co, ls, rg, ex, sr, kd, fc, hr, ct, ra, rd, fs) (cp, sn, cl, fn, so, ko, fo, fd, ir, re, yg, la) → S + d < 20000 →
    ∃ (r : Int32) (m : Nat) (u' : SX) (v' : SY), m ≤ d ∧ kr_R (S + m) u' v' ∧ (∀ post : Int32 → SX → Prop, post r u' → wX_list_23 post (nI q) (nI n) x3 (d + 1) (nI i) cap rc fl co ls rg ex sr kd fc hr ct ra rd fs) ∧
      (∀ post : Int32 → SY → Prop, post r v' → wY_list_22 post (nI q) (nI n) x3 (d + 1) (nI i) cp sn cl fn so ko fo fd ir re yg la) := by
  have eq := nI_clamp (n := q) (by omega)
  have hinq := vp_in_nI (n := q) (N := 8) (by omega) (by omega)
  intro d
  induction d with
  | zero =>
    intro i hi S cap rc fl co ls rg ex sr kd fc hr ct ra rd fs cp sn cl fn so ko fo fd ir re yg la h hS
    exact ⟨nI n, 0, _, _, by omega, h, fun post hp => br_t (nI_le (by omega) (by omega)) hp, fun post hp => br_t (nI_le (by omega) (by omega)) hp⟩
  | succ d ih =>
    intro i hi S cap0 rc0 fl0 co0 ls0 rg0 ex0 sr0 kd0 fc0 hr0 ct0 ra0 rd0 fs0 cp0 sn0 cl0 fn0 so0 ko0 fo0 fd0 ir0 re0 yg0 la0 h hS
    have hg : ¬ nI n ≤ nI i := nI_ge (by omega) (by omega)
    rcases kn_new (F := 2) (K := 0) h (by omega) with ⟨u', v', g1, g2, g3⟩ | ⟨s, cap, rc, fl, co, rg, ex, sr, kd, fc, hr, ct, ra, rd, fs, so, ko, fo, fd, ir, re, yg, hr', ct', fd', ir', h1, h2, h3, h4, h5, h6, h7, h8, h9, h10, h11, h12⟩
    · obtain ⟨cap, rc, fl, co, ls, rg, ex, sr, kd, fc, hr, ct, ra, rd, fs⟩ := u'
      obtain ⟨cp, sn, cl, fn, so, ko, fo, fd, ir, re, yg, la⟩ := v'
      exact ⟨nI i, 0, _, _, by omega, g1, fun post hp => br_f hg (g2 _ (br_t rfl hp)), fun post hp => br_f hg (g3 _ (br_t rfl hp))⟩
    · have es := nI_clamp (n := s) (by omega)
      have es1 := nI_clamp (n := s + 1) (by omega)
      have ecc := nI_clamp (n := 6 * (s + 1)) (by omega)
      have hinc := vp_in_nI (n := 6 * (s + 1)) (N := 582) (by omega) (by omega)
      have ecc1 := nI_clamp (n := 6 * (s + 1) + 1) (by omega)
      have hinc1 := vp_in_nI (n := 6 * (s + 1) + 1) (N := 582) (by omega) (by omega)
      have eb : nI (6 * (s + 1)) + 1 = nI (6 * (s + 1) + 1) := nI_1 _
      have H2 := kn_H h3 h1 h4 (N := nI (S + 1)) (K := 0) (F := 2) (hr2 := upd (upd hr' (6 * s) 0) (6 * s + 1) 1) (ct2 := upd (upd ct' (6 * s) (x3 + nI i)) (6 * s + 1) (rg q))
        (fd2 := upd (upd fd' (6 * (s + 1)) (x3 + nI i)) (6 * (s + 1) + 1) (yg q)) (ir2 := upd ir' (6 * (s + 1) + 1) 1)
        (nI_ne0 (by omega) (by omega)) (by omega) (fun z => absurd z (by decide)) (kn_Ou (f := 1) (kn_Ou (f := 0) h5 (by omega)) (by omega)) (kn_Ou (f := 1) (kn_Ou (f := 0) h6 (by omega)) (by omega))
        (kn_Yu (f := 1) (kn_Yu (f := 0) h7 (by omega)) (by omega)) (kn_Yu (f := 1) h8 (by omega)) (fun f hf => by
          rcases (by omega : f = 0 ∨ f = 1) with y | y
          · subst y
            refine Or.inl ⟨?_, ?_, ?_⟩
            · rw [pk_un (by omega)]; exact pk_us
            · rw [pk_un (by omega)]; exact (h10 0 (by omega)).2
            · show upd (upd fd' (6 * (s + 1)) (x3 + nI i)) (6 * (s + 1) + 1) (yg q) (6 * (s + 1)) = upd (upd ct' (6 * s) (x3 + nI i)) (6 * s + 1) (rg q) (6 * s)
              rw [pk_un (by omega), pk_us, pk_un (by omega), pk_us]
          · subst y
            refine Or.inr ⟨pk_us, pk_us, ?_⟩
            rw [pk_us, pk_us]
            exact h3.1 q q8)
      have H3 := kn_R (r := q) H2 (Or.inr ⟨s, h1, rfl, rfl, kn_1⟩)
      obtain ⟨r, m, u', v', j1, j2, j3, j4⟩ := ih (i + 1) (by omega) (S + 1) cap rc fl co (nI (S + 1)) (upd rg q (nI s)) (upd ex s 1) (upd sr s (nI (S + 1))) (upd kd s 0) (upd fc s (nI 2)) (upd (upd hr' (6 * s) 0) (6 * s + 1) 1) (upd (upd ct' (6 * s) (x3 + nI i)) (6 * s + 1) (rg q)) ra rd fs
        cap (nI (S + 1)) co fl (upd so (s + 1) (nI (S + 1))) (upd ko (s + 1) 0) (upd fo (s + 1) (nI 2)) (upd (upd fd' (6 * (s + 1)) (x3 + nI i)) (6 * (s + 1) + 1) (yg q)) (upd ir' (6 * (s + 1) + 1) 1) re (upd yg q (nI (s + 1))) fs ⟨rfl, rfl, rfl, rfl, rfl, rfl, h2, H3⟩ (by omega)
      refine ⟨r, m + 1, u', v', by omega, by rw [show S + (m + 1) = S + 1 + m by omega]; exact j2, fun post hp => br_f hg (h11 _ (br_f (kb_m1 (by omega)) ?_)), fun post hp => br_f hg (h12 _ (br_f (nI_ne0 (by omega) (by omega)) ?_))⟩
      · refine kb_cell _ _ _ _ _ _ _ _ _ _ _ _ _ _ _ (6 * s) (kb_cx0 s) (kb_cell _ _ _ _ _ _ _ _ _ _ _ _ _ _ _ (6 * s + 1) (kb_cx s 1) (kb_si _ _ _ _ _ _ _ _ _ _ _ _ _ _ _ (by omega) ⟨hinq, ?_⟩))
        rw [eq]
        exact kb_sr _ _ _ _ _ _ _ _ _ _ _ _ _ _ _ (by omega) ⟨hinq, nm_e (nm_r (nI_1 i) (j3 post hp))⟩
      · rw [kb_cy0, ecc, eb, ecc1, kb_n1, eq]
        exact ⟨hinc, nm_e ⟨hinc1, nm_e ⟨hinq, hinc1, nm_e ⟨hinq, nm_e (nm_r (nI_1 i) (j4 post hp))⟩⟩⟩⟩
theorem i_vc_list {k : Nat} {u : SX} {v : SY} (I : i_Rel k u v) (hk : k + 4 ≤ 2050) (v1 : Int32) (v2 : Int32) (v3 : Int32) : wpX_list (fun r u' => wpY_list (fun r' v' => r' = r ∧ i_Rel (k + 4) u' v') v v1 v2 v3) u v1 v2 v3 := by
  obtain ⟨S, hS, h⟩ := I
  have hR := kr_up (n := 0) hS (by omega) h
  obtain ⟨cap, rc, fl, co, ls, rg, ex, sr, kd, fc, hr, ct, ra, rd, fs⟩ := u
  obtain ⟨cp, sn, cl, fn, so, ko, fo, fd, ir, re, yg, la⟩ := v
  unfold wpX_list
  rcases km_reg v1 with ⟨a1, a2⟩ | ⟨q, q8, eq, a1, a2⟩
  · refine a1 _ _ (br_t rfl ?_)
    unfold wpY_list
    exact a2 _ (br_f kb_10 ⟨rfl, hR⟩)
  · subst eq
    refine a1 _ _ (br_f kb_10 (br_c (fun a => ?_) (fun a => br_c (fun b => ?_) (fun b => ?_))))
    · unfold wpY_list
      exact a2 _ (br_t rfl (br_t a ⟨rfl, hR⟩))
    · obtain ⟨n, hn, e⟩ := nI_of a
      subst e
      have hn2 : n ≤ 20 := (nI_leI (b := 20) hn (by omega)).mp b
      obtain ⟨r, m, u', v', j1, j2, j3, j4⟩ := kl_list (x3 := v3) q8 hn2 n 0 (by omega) S cap rc fl co ls rg ex sr kd fc hr ct ra rd fs cp sn cl fn so ko fo fd ir re yg la h (by omega)
      refine ⟨n + 1, j3 _ ?_⟩
      unfold wpY_list
      exact a2 _ (br_t rfl (br_f a (br_t b ⟨n + 1, j4 _ ⟨rfl, kr_up hS (by omega) j2⟩⟩)))
    · unfold wpY_list
      exact a2 _ (br_t rfl (br_f a (br_f b ⟨rfl, hR⟩)))
end

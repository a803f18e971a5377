/-! the constructors, make, weak, list -/
theorem kn_1 {a : Nat → Int32} {s : Nat} : upd a s 1 s ≠ 0 := by rw [pk_us]; exact kb_10
theorem kl_init (cap rc fl co ls : Int32) (rg ex sr kd fc hr ct ra rd fs : Nat → Int32) : ∃ rg', (∀ r, r < 8 → rg' r = -1) ∧ ∀ post : SX → Prop, post (cap, rc, fl, co, ls, rg', ex, sr, kd, fc, hr, ct, ra, rd, fs) → ∃ n143, wX_init_143 post cap rc fl co ls n143 0 rg ex sr kd fc hr ct ra rd fs := by
  have L : ∀ d i, i + d = 8 → ∀ rg, (∀ r, r < i → rg r = -1) → ∃ rg', (∀ r, r < 8 → rg' r = -1) ∧ ∀ post : SX → Prop, post (cap, rc, fl, co, ls, rg', ex, sr, kd, fc, hr, ct, ra, rd, fs) → wX_init_143 post cap rc fl co ls (d + 1) (nI i) rg ex sr kd fc hr ct ra rd fs := by
    intro d
    induction d with
    | zero =>
      intro i hi rg h
      exact ⟨rg, fun r hr => h r (by omega), fun post hp => br_t (nI_le (a := 8) (by omega) (by omega)) hp⟩
    | succ d ih =>
      intro i hi rg h
      have ec := nI_clamp (n := i) (by omega)
      obtain ⟨rg', h1, h2⟩ := ih (i + 1) (by omega) (upd rg i (-1)) (fun r hr => by
        by_cases y : r = i
        · subst y; exact pk_us
        · rw [pk_un y]; exact h r (by omega))
      exact ⟨rg', h1, fun post hp => br_f (nI_ge (b := 8) (by omega) (by omega)) ⟨vp_in_nI (by omega) (by omega), nm_r (by rw [ec]) (nm_r (nI_1 i) (h2 post hp))⟩⟩
  obtain ⟨rg', h1, h2⟩ := L 8 0 rfl rg (fun r hr => by omega)
  exact ⟨rg', h1, fun post hp => ⟨9, h2 post hp⟩⟩
theorem kl_0 {C : Nat} {cap : Int32} {rg ra rd re : Nat → Int32} (hC : 16 ≤ C) (hC2 : C ≤ 96) (e : cap = nI C) (hr : ∀ r, r < 8 → rg r = -1) :
    i_Rel 2 (cap, 0, 0, 0, 0, rg, (fun _ => 0), (fun _ => 0), (fun _ => 0), (fun _ => 0), (fun _ => 0), (fun _ => 0), ra, rd, (fun _ => 0)) (cap, 0, 0, 0, (fun _ => 0), (fun _ => 0), (fun _ => 0), (fun _ => 0), (fun _ => 0), re, (fun _ => 0), (fun _ => 0)) := by
  refine ⟨0, by omega, rfl, rfl, rfl, rfl, rfl, rfl, ⟨C, hC, hC2, e⟩, fun r h => Or.inl ⟨hr r h, rfl⟩, fun s hs => ⟨0, by omega, rfl, rfl, rfl, Or.inl rfl, rfl, fun h => absurd rfl h, fun h => absurd h (show ¬ (0 : Int32) = 2 by decide), fun f hf => by omega⟩⟩
theorem i_vc0 (k0 : Int32) (k1 : Int32) : wpX_init (fun u => wpY_init (fun v => i_Rel 2 u v) k0 k1) k0 k1 := by
  unfold wpX_init
  refine br_c (fun a => br_c (fun b => ?_) (fun b => ?_)) (fun a => ?_)
  · obtain ⟨rg', h1, h2⟩ := kl_init k0 0 0 0 0 (fun _ => 0) (fun _ => 0) (fun _ => 0) (fun _ => 0) (fun _ => 0) (fun _ => 0) (fun _ => 0) (fun _ => 0) (fun _ => 0) (fun _ => 0)
    refine h2 _ ?_
    unfold wpY_init
    have n0 : ¬ k0 < 0 := by
      rw [Int32.lt_iff_toInt_lt]
      rw [Int32.le_iff_toInt_le, show (16 : Int32).toInt = 16 from by decide] at a
      have : (0 : Int32).toInt = 0 := by decide
      omega
    obtain ⟨C, hC, e⟩ := nI_of n0
    subst e
    have c1 : 16 ≤ C := (nI_leI (a := 16) (by omega) hC).mp a
    have c2 : C ≤ 96 := (nI_leI (b := 96) hC (by omega)).mp b
    exact br_t a (br_t b (kl_0 c1 c2 rfl h1))
  · obtain ⟨rg', h1, h2⟩ := kl_init 96 0 0 0 0 (fun _ => 0) (fun _ => 0) (fun _ => 0) (fun _ => 0) (fun _ => 0) (fun _ => 0) (fun _ => 0) (fun _ => 0) (fun _ => 0) (fun _ => 0)
    refine h2 _ ?_
    unfold wpY_init
    exact br_t a (br_f b (kl_0 (C := 96) (by omega) (by omega) rfl h1))
  · obtain ⟨rg', h1, h2⟩ := kl_init 16 0 0 0 0 (fun _ => 0) (fun _ => 0) (fun _ => 0) (fun _ => 0) (fun _ => 0) (fun _ => 0) (fun _ => 0) (fun _ => 0) (fun _ => 0) (fun _ => 0)
    refine h2 _ ?_
    unfold wpY_init
    exact br_f a (kl_0 (C := 16) (by omega) (by omega) rfl h1)
theorem kl_make {k S F q : Nat} {K : Int32} (cap rc fl co ls : Int32) (rg ex sr kd fc hr ct ra rd fs : Nat → Int32) (cp sn cl fn : Int32) (so ko fo fd ir re yg la : Nat → Int32) (h : kr_R S (cap, rc, fl, co, ls, rg, ex, sr, kd, fc, hr, ct, ra, rd, fs) (cp, sn, cl, fn, so, ko, fo, fd, ir, re, yg, la)) (hS : S ≤ 5 * k) (hk : k + 4 ≤ 2050) (hF : F ≤ 6) (q8 : q < 8) (hK : K = 0 ∨ K = 1)
    (a2 : ∀ post : Int32 → Prop, post 0 → wpY_bad post (nI q)) : wX_make_31 (fun r u' => wpY_make (fun r' v' => r' = r ∧ i_Rel (k + 4) u' v') (cp, sn, cl, fn, so, ko, fo, fd, ir, re, yg, la) (nI q) (nI F) K) (nI q) (nI F) K cap rc fl co ls rg ex sr kd fc hr ct ra rd fs := by
  have eq := nI_clamp (n := q) (by omega)
  have hinq := vp_in_nI (n := q) (N := 8) (by omega) (by omega)
  have hK2 : ¬ K = 2 := by rcases hK with y | y <;> rw [y] <;> decide
  have hK0 : ¬ K < 0 := by rcases hK with y | y <;> rw [y] <;> decide
  have hK1 : K ≤ 1 := by rcases hK with y | y <;> rw [y] <;> decide
  have f0 : ¬ nI F < 0 := nI_pos (by omega)
  have f6 : ¬ 6 < nI F := by
    rw [show (6 : Int32) = nI 6 from rfl, nI_ltI (by omega) (by omega)]
    omega
  have hnew := kn_new (K := K) h hF
  unfold wX_make_31
  rcases hnew with ⟨u', v', g1, g2, g3⟩ | ⟨s, cap, rc, fl, co, rg, ex, sr, kd, fc, hr, ct, ra, rd, fs, so, ko, fo, fd, ir, re, yg, hr', ct', fd', ir', h1, h2, h3, h4, h5, h6, h7, h8, h9, h10, h11, h12⟩
  · obtain ⟨cap, rc, fl, co, ls, rg, ex, sr, kd, fc, hr, ct, ra, rd, fs⟩ := u'
    obtain ⟨cp, sn, cl, fn, so, ko, fo, fd, ir, re, yg, la⟩ := v'
    refine g2 _ (br_t rfl ?_)
    unfold wpY_make
    exact a2 _ (br_t rfl (br_f f0 (br_f f6 (br_f hK0 (br_t hK1 (g3 _ (br_t rfl ⟨rfl, kr_up (n := 0) hS (by omega) g1⟩)))))))
  · have es := nI_clamp (n := s) (by omega)
    have es1 := nI_clamp (n := s + 1) (by omega)
    have H2 := kn_H h3 h1 h4 (N := nI (S + 1)) (K := K) (nI_ne0 (by omega) (by omega)) hF (fun z => absurd z hK2) h5 h6 h7 h8 (fun f hf => Or.inl ⟨(h9 f hf).1, (h10 f (by omega)).2, (h10 f (by omega)).1.trans (h9 f hf).2.symm⟩)
    have H3 := kn_R (r := q) H2 (Or.inr ⟨s, h1, rfl, rfl, kn_1⟩)
    refine h11 _ (br_f (kb_m1 (by omega)) ⟨hinq, nm_r (e' := upd rg q (nI s)) (by rw [eq]) ⟨vp_in_nI (by omega) (by omega), ?_⟩⟩)
    rw [es, pk_us]
    unfold wpY_make
    refine a2 _ (br_t rfl (br_f f0 (br_f f6 (br_f hK0 (br_t hK1 (h12 _ (br_f (nI_ne0 (by omega) (by omega)) ⟨hinq, nm_r (e' := upd yg q (nI (s + 1))) (by rw [eq]) ⟨vp_in_nI (by omega) (by omega), ?_⟩⟩)))))))
    rw [es1, pk_us]
    exact ⟨rfl, kr_up (n := 1) hS (by omega) ⟨rfl, rfl, rfl, rfl, rfl, rfl, h2, H3⟩⟩
theorem i_vc_make {k : Nat} {u : SX} {v : SY} (I : i_Rel k u v) (hk : k + 4 ≤ 2050) (v1 : Int32) (v2 : Int32) (v3 : Int32) : wpX_make (fun r u' => wpY_make (fun r' v' => r' = r ∧ i_Rel (k + 4) u' v') v v1 v2 v3) u v1 v2 v3 := by
  obtain ⟨S, hS, h⟩ := I
  have hR := kr_up (n := 0) hS (by omega) h
  have h0 := h
  obtain ⟨cap, rc, fl, co, ls, rg, ex, sr, kd, fc, hr, ct, ra, rd, fs⟩ := u
  obtain ⟨cp, sn, cl, fn, so, ko, fo, fd, ir, re, yg, la⟩ := v
  have e6 : v2 ≤ 6 ↔ ¬ 6 < v2 := by
    rw [Int32.le_iff_toInt_le, Int32.lt_iff_toInt_lt]
    omega
  unfold wpX_make
  rcases km_reg v1 with ⟨a1, a2⟩ | ⟨q, q8, eq, a1, a2⟩
  · refine a1 _ _ (br_t rfl ?_)
    unfold wpY_make
    exact a2 _ (br_f kb_10 ⟨rfl, hR⟩)
  · subst eq
    refine a1 _ _ (br_f kb_10 (br_c (fun a => ?_) (fun a => br_c (fun b => ?_) (fun b => ?_))))
    · unfold wpY_make
      exact a2 _ (br_t rfl (br_t a ⟨rfl, hR⟩))
    · obtain ⟨F, hF, e⟩ := nI_of a
      subst e
      have hF6 : F ≤ 6 := (nI_leI (b := 6) hF (by omega)).mp b
      by_cases z0 : v3 = 0
      · exact br_t z0 (kl_make cap rc fl co ls rg ex sr kd fc hr ct ra rd fs cp sn cl fn so ko fo fd ir re yg la h0 hS hk hF6 q8 (Or.inl z0) a2)
      · by_cases z1 : v3 = 1
        · exact br_f z0 (br_t z1 (kl_make cap rc fl co ls rg ex sr kd fc hr ct ra rd fs cp sn cl fn so ko fo fd ir re yg la h0 hS hk hF6 q8 (Or.inr z1) a2))
        · refine br_f z0 (br_f z1 ?_)
          unfold wpY_make
          refine a2 _ (br_t rfl (br_f a (br_f (e6.mp b) (br_c (fun c => ⟨rfl, hR⟩) (fun c => br_f (fun d => ?_) ⟨rfl, hR⟩)))))
          obtain ⟨j, hj, e⟩ := nI_of c
          subst e
          have := (nI_leI (b := 1) hj (by omega)).mp d
          rcases (by omega : j = 0 ∨ j = 1) with y | y
          · subst y; exact z0 rfl
          · subst y; exact z1 rfl
    · unfold wpY_make
      refine a2 _ (br_t rfl (br_f a (br_t ?_ ⟨rfl, hR⟩)))
      rw [Int32.le_iff_toInt_le] at b
      rw [Int32.lt_iff_toInt_lt]
      omega
theorem i_vc_weak {k : Nat} {u : SX} {v : SY} (I : i_Rel k u v) (hk : k + 4 ≤ 2050) (v1 : Int32) (v2 : Int32) : wpX_weak (fun r u' => wpY_weak (fun r' v' => r' = r ∧ i_Rel (k + 4) u' v') v v1 v2) u v1 v2 := by
  obtain ⟨S, hS, h⟩ := I
  have hR := kr_up (n := 0) hS (by omega) h
  have hnew := kn_new (F := 1) (K := 2) h (by omega)
  obtain ⟨cap0, rc0, fl0, co0, ls0, rg0, ex0, sr0, kd0, fc0, hr0, ct0, ra0, rd0, fs0⟩ := u
  obtain ⟨cp0, sn0, cl0, fn0, so0, ko0, fo0, fd0, ir0, re0, yg0, la0⟩ := v
  unfold wpX_weak
  rcases km_reg v1 with ⟨a1, a2⟩ | ⟨q, q8, eq, a1, a2⟩
  · refine a1 _ _ (br_t rfl ?_)
    unfold wpY_weak
    exact a2 _ (br_f kb_10 ⟨rfl, hR⟩)
  · rcases km_reg v2 with ⟨b1, b2⟩ | ⟨p, p8, ep, b1, b2⟩
    · refine a1 _ _ (br_f kb_10 (b1 _ _ (br_t rfl ?_)))
      unfold wpY_weak
      exact a2 _ (br_t rfl (b2 _ (br_f kb_10 ⟨rfl, hR⟩)))
    · subst eq ep
      have eq := nI_clamp (n := q) (by omega)
      have hinq := vp_in_nI (n := q) (N := 8) (by omega) (by omega)
      have ep := nI_clamp (n := p) (by omega)
      have hinp := vp_in_nI (n := p) (N := 8) (by omega) (by omega)
      rcases hnew with ⟨u', v', g1, g2, g3⟩ | ⟨s, cap, rc, fl, co, rg, ex, sr, kd, fc, hr, ct, ra, rd, fs, so, ko, fo, fd, ir, re, yg, hr', ct', fd', ir', h1, h2, h3, h4, h5, h6, h7, h8, h9, h10, h11, h12⟩
      · obtain ⟨cap, rc, fl, co, ls, rg, ex, sr, kd, fc, hr, ct, ra, rd, fs⟩ := u'
        obtain ⟨cp, sn, cl, fn, so, ko, fo, fd, ir, re, yg, la⟩ := v'
        refine a1 _ _ (br_f kb_10 (b1 _ _ (br_f kb_10 (g2 _ (br_t rfl ?_)))))
        unfold wpY_weak
        exact a2 _ (br_t rfl (b2 _ (br_t rfl (g3 _ (br_t rfl ⟨rfl, kr_up (n := 0) hS (by omega) g1⟩)))))
      · have es := nI_clamp (n := s) (by omega)
        have es1 := nI_clamp (n := s + 1) (by omega)
        have ecc := nI_clamp (n := 6 * (s + 1)) (by omega)
        have hinc := vp_in_nI (n := 6 * (s + 1)) (N := 582) (by omega) (by omega)
        have H2 := kn_H h3 h1 h4 (N := nI (S + 1)) (K := 2) (F := 1) (hr2 := upd hr' (6 * s) 1) (ct2 := upd ct' (6 * s) (rg p)) (fd2 := upd fd' (6 * (s + 1)) (yg p)) (ir2 := upd ir' (6 * (s + 1)) 1)
          (nI_ne0 (by omega) (by omega)) (by omega) (fun _ => ⟨rfl, pk_us⟩) (kn_Ou (f := 0) h5 (by omega)) (kn_Ou (f := 0) h6 (by omega)) (kn_Yu (f := 0) h7 (by omega)) (kn_Yu (f := 0) h8 (by omega)) (fun f hf => by
            obtain rfl : f = 0 := by omega
            refine Or.inr ⟨pk_us, pk_us, ?_⟩
            show kr_p _ (upd ct' (6 * s) (rg p) (6 * s)) (upd fd' (6 * (s + 1)) (yg p) (6 * (s + 1)))
            rw [pk_us, pk_us]
            exact h3.1 p p8)
        have H3 := kn_R (r := q) H2 (Or.inr ⟨s, h1, rfl, rfl, kn_1⟩)
        refine a1 _ _ (br_f kb_10 (b1 _ _ (br_f kb_10 (h11 _ (br_f (kb_m1 (by omega)) (kb_cell _ _ _ _ _ _ _ _ _ _ _ _ _ _ _ (6 * s) (kb_cx0 s) ⟨hinp, ?_⟩))))))
        rw [ep]
        refine kb_sr _ _ _ _ _ _ _ _ _ _ _ _ _ _ _ (by omega) ⟨hinq, nm_r (e' := upd rg q (nI s)) (by rw [eq]) ⟨vp_in_nI (by omega) (by omega), ?_⟩⟩
        rw [es, pk_us]
        unfold wpY_weak
        refine a2 _ (br_t rfl (b2 _ (br_t rfl (h12 _ (br_f (nI_ne0 (by omega) (by omega)) ?_)))))
        rw [kb_cy0, ecc, kb_n1, ep, eq, es1, pk_us]
        exact ⟨hinc, nm_e ⟨hinp, hinc, nm_e ⟨hinq, nm_e ⟨vp_in_nI (by omega) (by omega), rfl, kr_up (n := 1) hS (by omega) ⟨rfl, rfl, rfl, rfl, rfl, rfl, h2, H3⟩⟩⟩⟩⟩
theorem kl_list {q n : Nat} {x3 : Int32} (q8 : q < 8) (hn : n ≤ 20) : ∀ d i, i + d = n → ∀ (S : Nat) (cap rc fl co ls : Int32) (rg ex sr kd fc hr ct ra rd fs : Nat → Int32) (cp sn cl fn : Int32) (so ko fo fd ir re yg la : Nat → Int32), kr_R S (cap, rc, fl, co, ls, rg, ex, sr, kd, fc, hr, ct, ra, rd, fs) (cp, sn, cl, fn, so, ko, fo, fd, ir, re, yg, la) → S + d < 20000 →
    ∃ (r : Int32) (m : Nat) (u' : SX) (v' : SY), m ≤ d ∧ kr_R (S + m) u' v' ∧ (∀ post : Int32 → SX → Prop, post r u' → wX_list_23 post (nI q) (nI n) x3 (d + 1) (nI i) cap rc fl co ls rg ex sr kd fc hr ct ra rd fs) ∧
      (∀ post : Int32 → SY → Prop, post r v' → wY_list_22 post (nI q) (nI n) x3 (d + 1) (nI i) cp sn cl fn so ko fo fd ir re yg la) := by
  have eq := nI_clamp (n := q) (by omega)
  have hinq := vp_in_nI (n := q) (N := 8) (by omega) (by omega)
  intro d
  induction d with
  | zero =>
    intro i hi S cap rc fl co ls rg ex sr kd fc hr ct ra rd fs cp sn cl fn so ko fo fd ir re yg la h hS
    exact ⟨nI n, 0, _, _, by omega, h, fun post hp => br_t (nI_le (by omega) (by omega)) hp, fun post hp => br_t (nI_le (by omega) (by omega)) hp⟩
  | succ d ih =>
    intro i hi S cap0 rc0 fl0 co0 ls0 rg0 ex0 sr0 kd0 fc0 hr0 ct0 ra0 rd0 fs0 cp0 sn0 cl0 fn0 so0 ko0 fo0 fd0 ir0 re0 yg0 la0 h hS
    have hg : ¬ nI n ≤ nI i := nI_ge (by omega) (by omega)
    rcases kn_new (F := 2) (K := 0) h (by omega) with ⟨u', v', g1, g2, g3⟩ | ⟨s, cap, rc, fl, co, rg, ex, sr, kd, fc, hr, ct, ra, rd, fs, so, ko, fo, fd, ir, re, yg, hr', ct', fd', ir', h1, h2, h3, h4, h5, h6, h7, h8, h9, h10, h11, h12⟩
    · obtain ⟨cap, rc, fl, co, ls, rg, ex, sr, kd, fc, hr, ct, ra, rd, fs⟩ := u'
      obtain ⟨cp, sn, cl, fn, so, ko, fo, fd, ir, re, yg, la⟩ := v'
      exact ⟨nI i, 0, _, _, by omega, g1, fun post hp => br_f hg (g2 _ (br_t rfl hp)), fun post hp => br_f hg (g3 _ (br_t rfl hp))⟩
    · have es := nI_clamp (n := s) (by omega)
      have es1 := nI_clamp (n := s + 1) (by omega)
      have ecc := nI_clamp (n := 6 * (s + 1)) (by omega)
      have hinc := vp_in_nI (n := 6 * (s + 1)) (N := 582) (by omega) (by omega)
      have ecc1 := nI_clamp (n := 6 * (s + 1) + 1) (by omega)
      have hinc1 := vp_in_nI (n := 6 * (s + 1) + 1) (N := 582) (by omega) (by omega)
      have eb : nI (6 * (s + 1)) + 1 = nI (6 * (s + 1) + 1) := nI_1 _
      have H2 := kn_H h3 h1 h4 (N := nI (S + 1)) (K := 0) (F := 2) (hr2 := upd (upd hr' (6 * s) 0) (6 * s + 1) 1) (ct2 := upd (upd ct' (6 * s) (x3 + nI i)) (6 * s + 1) (rg q))
        (fd2 := upd (upd fd' (6 * (s + 1)) (x3 + nI i)) (6 * (s + 1) + 1) (yg q)) (ir2 := upd ir' (6 * (s + 1) + 1) 1)
        (nI_ne0 (by omega) (by omega)) (by omega) (fun z => absurd z (by decide)) (kn_Ou (f := 1) (kn_Ou (f := 0) h5 (by omega)) (by omega)) (kn_Ou (f := 1) (kn_Ou (f := 0) h6 (by omega)) (by omega))
        (kn_Yu (f := 1) (kn_Yu (f := 0) h7 (by omega)) (by omega)) (kn_Yu (f := 1) h8 (by omega)) (fun f hf => by
          rcases (by omega : f = 0 ∨ f = 1) with y | y
          · subst y
            refine Or.inl ⟨?_, ?_, ?_⟩
            · rw [pk_un (by omega)]; exact pk_us
            · rw [pk_un (by omega)]; exact (h10 0 (by omega)).2
            · show upd (upd fd' (6 * (s + 1)) (x3 + nI i)) (6 * (s + 1) + 1) (yg q) (6 * (s + 1)) = upd (upd ct' (6 * s) (x3 + nI i)) (6 * s + 1) (rg q) (6 * s)
              rw [pk_un (by omega), pk_us, pk_un (by omega), pk_us]
          · subst y
            refine Or.inr ⟨pk_us, pk_us, ?_⟩
            rw [pk_us, pk_us]
            exact h3.1 q q8)
      have H3 := kn_R (r := q) H2 (Or.inr ⟨s, h1, rfl, rfl, kn_1⟩)
      obtain ⟨r, m, u', v', j1, j2, j3, j4⟩ := ih (i + 1) (by omega) (S + 1) cap rc fl co (nI (S + 1)) (upd rg q (nI s)) (upd ex s 1) (upd sr s (nI (S + 1))) (upd kd s 0) (upd fc s (nI 2)) (upd (upd hr' (6 * s) 0) (6 * s + 1) 1) (upd (upd ct' (6 * s) (x3 + nI i)) (6 * s + 1) (rg q)) ra rd fs
        cap (nI (S + 1)) co fl (upd so (s + 1) (nI (S + 1))) (upd ko (s + 1) 0) (upd fo (s + 1) (nI 2)) (upd (upd fd' (6 * (s + 1)) (x3 + nI i)) (6 * (s + 1) + 1) (yg q)) (upd ir' (6 * (s + 1) + 1) 1) re (upd yg q (nI (s + 1))) fs ⟨rfl, rfl, rfl, rfl, rfl, rfl, h2, H3⟩ (by omega)
      refine ⟨r, m + 1, u', v', by omega, by rw [show S + (m + 1) = S + 1 + m by omega]; exact j2, fun post hp => br_f hg (h11 _ (br_f (kb_m1 (by omega)) ?_)), fun post hp => br_f hg (h12 _ (br_f (nI_ne0 (by omega) (by omega)) ?_))⟩
      · refine kb_cell _ _ _ _ _ _ _ _ _ _ _ _ _ _ _ (6 * s) (kb_cx0 s) (kb_cell _ _ _ _ _ _ _ _ _ _ _ _ _ _ _ (6 * s + 1) (kb_cx s 1) (kb_si _ _ _ _ _ _ _ _ _ _ _ _ _ _ _ (by omega) ⟨hinq, ?_⟩))
        rw [eq]
        exact kb_sr _ _ _ _ _ _ _ _ _ _ _ _ _ _ _ (by omega) ⟨hinq, nm_e (nm_r (nI_1 i) (j3 post hp))⟩
      · rw [kb_cy0, ecc, eb, ecc1, kb_n1, eq]
        exact ⟨hinc, nm_e ⟨hinc1, nm_e ⟨hinq, hinc1, nm_e ⟨hinq, nm_e (nm_r (nI_1 i) (j4 post hp))⟩⟩⟩⟩
theorem i_vc_list {k : Nat} {u : SX} {v : SY} (I : i_Rel k u v) (hk : k + 4 ≤ 2050) (v1 : Int32) (v2 : Int32) (v3 : Int32) : wpX_list (fun r u' => wpY_list (fun r' v' => r' = r ∧ i_Rel (k + 4) u' v') v v1 v2 v3) u v1 v2 v3 := by
  obtain ⟨S, hS, h⟩ := I
  have hR := kr_up (n := 0) hS (by omega) h
  obtain ⟨cap, rc, fl, co, ls, rg, ex, sr, kd, fc, hr, ct, ra, rd, fs⟩ := u
  obtain ⟨cp, sn, cl, fn, so, ko, fo, fd, ir, re, yg, la⟩ := v
  unfold wpX_list
  rcases km_reg v1 with ⟨a1, a2⟩ | ⟨q, q8, eq, a1, a2⟩
  · refine a1 _ _ (br_t rfl ?_)
    unfold wpY_list
    exact a2 _ (br_f kb_10 ⟨rfl, hR⟩)
  · subst eq
    refine a1 _ _ (br_f kb_10 (br_c (fun a => ?_) (fun a => br_c (fun b => ?_) (fun b => ?_))))
    · unfold wpY_list
      exact a2 _ (br_t rfl (br_t a ⟨rfl, hR⟩))
    · obtain ⟨n, hn, e⟩ := nI_of a
      subst e
      have hn2 : n ≤ 20 := (nI_leI (b := 20) hn (by omega)).mp b
      obtain ⟨r, m, u', v', j1, j2, j3, j4⟩ := kl_list (x3 := v3) q8 hn2 n 0 (by omega) S cap rc fl co ls rg ex sr kd fc hr ct ra rd fs cp sn cl fn so ko fo fd ir re yg la h (by omega)
      refine ⟨n + 1, j3 _ ?_⟩
      unfold wpY_list
      exact a2 _ (br_t rfl (br_f a (br_t b ⟨n + 1, j4 _ ⟨rfl, kr_up hS (by omega) j2⟩⟩)))
    · unfold wpY_list
      exact a2 _ (br_t rfl (br_f a (br_f b ⟨rfl, hR⟩)))

/-! the owed statements of the short methods -/
theorem i_vc_put {k : Nat} {u : SX} {v : SY} (I : i_Rel k u v) (hk : k + 4 ≤ 2050) (v1 : Int32) (v2 : Int32) (v3 : Int32) : wpX_put (fun r u' => wpY_put (fun r' v' => r' = r ∧ i_Rel (k + 4) u' v') v v1 v2 v3) u v1 v2 v3 := by
  obtain ⟨S, hS, h⟩ := I
  have hR := kr_up (n := 0) hS (by omega) h
  obtain ⟨cap, rc, fl, co, ls, rg, ex, sr, kd, fc, hr, ct, ra, rd, fs⟩ := u
  obtain ⟨cp, sn, cl, fn, so, ko, fo, fd, ir, re, yg, la⟩ := v
  obtain ⟨h1, h2, h3, h4, h5, h6, h7, H⟩ := h
  rcases km_ff cap rc fl co ls ra rd fs cp sn cl fn re la H v1 v2 with ⟨e, he, x1, y1⟩ | ⟨r, s, f, F, r8, e1, hs, e2, e3, hx, hF, hf, e4, -, hc, x1, y1⟩
  · unfold wpX_put
    refine km_fw cap rc fl co ls ra rd fs he x1 _ (br_f he ?_)
    unfold wpY_put
    exact y1 _ (br_f he ⟨rfl, hR⟩)
  · subst e1 e4
    have ec := nI_clamp (n := r) (by omega)
    have hin := vp_in_nI (n := r) (N := 8) (by omega) (by omega)
    have es1 := nI_clamp (n := s + 1) (by omega)
    have hins1 := vp_in_nI (n := s + 1) (N := 97) (by omega) (by omega)
    have ecc := nI_clamp (n := 6 * (s + 1) + f) (by omega)
    have hinc := vp_in_nI (n := 6 * (s + 1) + f) (N := 582) (by omega) (by omega)
    obtain ⟨w1, w2⟩ := km_f2 cap rc fl co ls ra rd fs r8 hs e2 x1
    have ek := kr_K H s hs
    by_cases k2 : kd s = 2
    · unfold wpX_put
      refine w1 k2 _ (br_f (by decide) ?_)
      unfold wpY_put
      refine y1 _ (br_t rfl ⟨hin, nm_r (e' := nI (s + 1)) (by rw [ec, e3]) ⟨hins1, ?_⟩⟩)
      rw [es1]
      exact br_t (ek.trans k2) ⟨rfl, hR⟩
    · unfold wpX_put
      refine w2 k2 _ (br_t rfl ⟨hin, ?_⟩)
      rw [ec, e2]
      refine kb_cell _ _ _ _ _ _ _ _ _ _ _ _ _ _ _ (6 * s + f) (kb_cx s f) (kb_si _ _ _ _ _ _ _ _ _ _ _ _ _ _ _ (by omega) ?_)
      unfold wpY_put
      refine y1 _ (br_t rfl ⟨hin, nm_r (e' := nI (s + 1)) (by rw [ec, e3]) ⟨hins1, ?_⟩⟩)
      rw [es1, kb_cy, ecc, kb_n0]
      refine br_f (by rw [ek]; exact k2) ⟨hinc, nm_e ⟨hinc, nm_e ⟨rfl, ?_⟩⟩⟩
      exact ⟨S, by omega, h1, h2, h3, h4, h5, h6, h7, kn_C H hs (by omega) k2 (Or.inl ⟨rfl, rfl, rfl⟩)⟩
theorem i_vc_link {k : Nat} {u : SX} {v : SY} (I : i_Rel k u v) (hk : k + 4 ≤ 2050) (v1 : Int32) (v2 : Int32) (v3 : Int32) : wpX_link (fun r u' => wpY_link (fun r' v' => r' = r ∧ i_Rel (k + 4) u' v') v v1 v2 v3) u v1 v2 v3 := by
  obtain ⟨S, hS, h⟩ := I
  have hR := kr_up (n := 0) hS (by omega) h
  obtain ⟨cap, rc, fl, co, ls, rg, ex, sr, kd, fc, hr, ct, ra, rd, fs⟩ := u
  obtain ⟨cp, sn, cl, fn, so, ko, fo, fd, ir, re, yg, la⟩ := v
  obtain ⟨h1, h2, h3, h4, h5, h6, h7, H⟩ := h
  rcases km_reg v3 with ⟨a1, a2⟩ | ⟨q, q8, eq, a1, a2⟩
  · unfold wpX_link
    refine a1 _ _ (br_t rfl ?_)
    unfold wpY_link
    exact a2 _ (br_f kb_10 ⟨rfl, hR⟩)
  · subst eq
    have eq := nI_clamp (n := q) (by omega)
    have hinq := vp_in_nI (n := q) (N := 8) (by omega) (by omega)
    rcases km_ff cap rc fl co ls ra rd fs cp sn cl fn re la H v1 v2 with ⟨e, he, x1, y1⟩ | ⟨r, s, f, F, r8, e1, hs, e2, e3, hx, hF, hf, e4, -, hc, x1, y1⟩
    · unfold wpX_link
      refine a1 _ _ (br_f kb_10 (km_fw cap rc fl co ls ra rd fs he x1 _ (br_f he ?_)))
      unfold wpY_link
      exact a2 _ (br_t rfl (y1 _ (br_f he ⟨rfl, hR⟩)))
    · subst e1 e4
      have ec := nI_clamp (n := r) (by omega)
      have hin := vp_in_nI (n := r) (N := 8) (by omega) (by omega)
      have es1 := nI_clamp (n := s + 1) (by omega)
      have hins1 := vp_in_nI (n := s + 1) (N := 97) (by omega) (by omega)
      have ecc := nI_clamp (n := 6 * (s + 1) + f) (by omega)
      have hinc := vp_in_nI (n := 6 * (s + 1) + f) (N := 582) (by omega) (by omega)
      obtain ⟨w1, w2⟩ := km_f2 cap rc fl co ls ra rd fs r8 hs e2 x1
      have ek := kr_K H s hs
      by_cases k2 : kd s = 2
      · unfold wpX_link
        refine a1 _ _ (br_f kb_10 (w1 k2 _ (br_f (by decide) ?_)))
        unfold wpY_link
        refine a2 _ (br_t rfl (y1 _ (br_t rfl ⟨hin, nm_r (e' := nI (s + 1)) (by rw [ec, e3]) ⟨hins1, ?_⟩⟩)))
        rw [es1]
        exact br_t (ek.trans k2) ⟨rfl, hR⟩
      · unfold wpX_link
        refine a1 _ _ (br_f kb_10 (w2 k2 _ (br_t rfl ⟨hin, ?_⟩)))
        rw [ec, e2, eq]
        refine kb_cell _ _ _ _ _ _ _ _ _ _ _ _ _ _ _ (6 * s + f) (kb_cx s f) ⟨hinq, kb_sr _ _ _ _ _ _ _ _ _ _ _ _ _ _ _ (by omega) ?_⟩
        unfold wpY_link
        refine a2 _ (br_t rfl (y1 _ (br_t rfl ⟨hin, nm_r (e' := nI (s + 1)) (by rw [ec, e3]) ⟨hins1, ?_⟩⟩)))
        rw [es1, kb_cy, ecc, kb_n1, eq]
        refine br_f (by rw [ek]; exact k2) ⟨hinq, hinc, nm_e ⟨hinc, nm_e ⟨rfl, ?_⟩⟩⟩
        refine ⟨S, by omega, h1, h2, h3, h4, h5, h6, h7, kn_C H hs (by omega) k2 (Or.inr ⟨rfl, rfl, ?_⟩)⟩
        rcases H.1 q q8 with ⟨b, c⟩ | ⟨t, t1, t2, t3, t4⟩
        · exact Or.inl ⟨b, c⟩
        · exact Or.inr ⟨t, t1, t2, t3, fun _ => t4⟩
theorem i_vc_load {k : Nat} {u : SX} {v : SY} (I : i_Rel k u v) (hk : k + 4 ≤ 2050) (v1 : Int32) (v2 : Int32) (v3 : Int32) : wpX_load (fun r u' => wpY_load (fun r' v' => r' = r ∧ i_Rel (k + 4) u' v') v v1 v2 v3) u v1 v2 v3 := by
  obtain ⟨S, hS, h⟩ := I
  have hR := kr_up (n := 0) hS (by omega) h
  obtain ⟨cap, rc, fl, co, ls, rg, ex, sr, kd, fc, hr, ct, ra, rd, fs⟩ := u
  obtain ⟨cp, sn, cl, fn, so, ko, fo, fd, ir, re, yg, la⟩ := v
  obtain ⟨h1, h2, h3, h4, h5, h6, h7, H⟩ := h
  rcases km_reg v1 with ⟨a1, a2⟩ | ⟨q, q8, eq, a1, a2⟩
  · unfold wpX_load
    refine a1 _ _ (br_t rfl ?_)
    unfold wpY_load
    exact a2 _ (br_f kb_10 ⟨rfl, hR⟩)
  · subst eq
    have eq := nI_clamp (n := q) (by omega)
    have hinq := vp_in_nI (n := q) (N := 8) (by omega) (by omega)
    rcases km_ff cap rc fl co ls ra rd fs cp sn cl fn re la H v2 v3 with ⟨e, he, x1, y1⟩ | ⟨r, s, f, F, r8, e1, hs, e2, e3, hx, hF, hf, e4, -, hc, x1, y1⟩
    · unfold wpX_load
      refine a1 _ _ (br_f kb_10 (x1 _ (br_f he ?_)))
      unfold wpY_load
      exact a2 _ (br_t rfl (y1 _ (br_f he ⟨rfl, hR⟩)))
    · subst e1 e4
      have ec := nI_clamp (n := r) (by omega)
      have hin := vp_in_nI (n := r) (N := 8) (by omega) (by omega)
      have ecx := nI_clamp (n := 6 * s + f) (by omega)
      have hinx := vp_in_nI (n := 6 * s + f) (N := 576) (by omega) (by omega)
      have ecc := nI_clamp (n := 6 * (s + 1) + f) (by omega)
      have hinc := vp_in_nI (n := 6 * (s + 1) + f) (N := 582) (by omega) (by omega)
      rcases hc with ⟨c1, c2, c3⟩ | ⟨c1, c2, c3⟩
      · unfold wpX_load
        refine a1 _ _ (br_f kb_10 (x1 _ (br_t rfl ⟨hin, ?_⟩)))
        rw [ec, e2]
        refine kb_cell _ _ _ _ _ _ _ _ _ _ _ _ _ _ _ (6 * s + f) (kb_cx s f) ⟨hinx, ?_⟩
        rw [ecx]
        refine br_t c1 ?_
        unfold wpY_load
        refine a2 _ (br_t rfl (y1 _ (br_t rfl ⟨hin, nm_r (e' := nI (6 * (s + 1) + f)) (by rw [ec, e3]; exact kb_cy _ _) ⟨hinc, ?_⟩⟩)))
        rw [ecc]
        exact br_t c2 ⟨rfl, hR⟩
      · unfold wpX_load
        refine a1 _ _ (br_f kb_10 (x1 _ (br_t rfl ⟨hin, ?_⟩)))
        rw [ec, e2]
        refine kb_cell _ _ _ _ _ _ _ _ _ _ _ _ _ _ _ (6 * s + f) (kb_cx s f) ⟨hinx, ?_⟩
        rw [ecx, eq]
        refine br_f (by rw [c1]; exact kb_10) ⟨hinx, hinq, nm_e ?_⟩
        unfold wpY_load
        refine a2 _ (br_t rfl (y1 _ (br_t rfl ⟨hin, nm_r (e' := nI (6 * (s + 1) + f)) (by rw [ec, e3]; exact kb_cy _ _) ⟨hinc, ?_⟩⟩)))
        rw [ecc, eq]
        refine br_f (by rw [c2]; exact kb_10) ⟨hinc, hinq, nm_e ⟨rfl, ?_⟩⟩
        refine ⟨S, by omega, h1, h2, h3, h4, h5, h6, h7, kn_R H ?_⟩
        rcases c3 with ⟨b, c⟩ | ⟨t, t1, t2, t3, t4⟩
        · exact Or.inl ⟨b, c⟩
        · exact Or.inr ⟨t, t1, t2, t3, t4 hx⟩
theorem i_vc_copy {k : Nat} {u : SX} {v : SY} (I : i_Rel k u v) (hk : k + 4 ≤ 2050) (v1 : Int32) (v2 : Int32) : wpX_copy (fun r u' => wpY_copy (fun r' v' => r' = r ∧ i_Rel (k + 4) u' v') v v1 v2) u v1 v2 := by
  obtain ⟨S, hS, h⟩ := I
  have hR := kr_up (n := 0) hS (by omega) h
  obtain ⟨cap, rc, fl, co, ls, rg, ex, sr, kd, fc, hr, ct, ra, rd, fs⟩ := u
  obtain ⟨cp, sn, cl, fn, so, ko, fo, fd, ir, re, yg, la⟩ := v
  obtain ⟨h1, h2, h3, h4, h5, h6, h7, H⟩ := h
  rcases km_reg v1 with ⟨a1, a2⟩ | ⟨q, q8, eq, a1, a2⟩
  · unfold wpX_copy
    refine a1 _ _ (br_t rfl ?_)
    unfold wpY_copy
    exact a2 _ (br_f kb_10 ⟨rfl, hR⟩)
  · subst eq
    have eq := nI_clamp (n := q) (by omega)
    have hinq := vp_in_nI (n := q) (N := 8) (by omega) (by omega)
    rcases km_fr cap rc fl co ls ra rd fs H v2 with ⟨x1, y1⟩ | ⟨r, r8, e, y1, ⟨b, c, x1⟩ | ⟨s, t1, t2, t3, t4, x1⟩⟩
    · unfold wpX_copy
      refine a1 _ _ (br_f kb_10 (x1 _ (br_f (by decide) ?_)))
      unfold wpY_copy
      exact a2 _ (br_t rfl (y1 _ (br_f kb_10 ⟨rfl, hR⟩)))
    · subst e
      have ec := nI_clamp (n := r) (by omega)
      have hin := vp_in_nI (n := r) (N := 8) (by omega) (by omega)
      unfold wpX_copy
      refine a1 _ _ (br_f kb_10 (x1 _ (br_f (by decide) ?_)))
      unfold wpY_copy
      refine a2 _ (br_t rfl (y1 _ (br_t rfl ⟨hin, ?_⟩)))
      rw [ec]
      exact br_t c ⟨rfl, hR⟩
    · subst e
      have ec := nI_clamp (n := r) (by omega)
      have hin := vp_in_nI (n := r) (N := 8) (by omega) (by omega)
      have es := nI_clamp (n := s) (by omega)
      have hins := vp_in_nI (n := s) (N := 96) (by omega) (by omega)
      have es1 := nI_clamp (n := s + 1) (by omega)
      have hins1 := vp_in_nI (n := s + 1) (N := 97) (by omega) (by omega)
      have eu : upd rg q (nI s) r = nI s := by
        by_cases y : r = q
        · subst y; exact pk_us
        · rw [pk_un y]; exact t2
      unfold wpX_copy
      refine a1 _ _ (br_f kb_10 (x1 _ (br_t rfl ⟨hin, hinq, nm_r (e' := upd rg q (nI s)) (by rw [ec, eq, t2]) ⟨hin, ?_⟩⟩)))
      rw [ec, eu, es]
      refine ⟨hins, ?_⟩
      unfold wpY_copy
      refine a2 _ (br_t rfl (y1 _ (br_t rfl ⟨hin, ?_⟩)))
      rw [ec, t3, eq]
      refine br_f (nI_ne0 (by omega) (by omega)) ⟨hin, hinq, nm_e ⟨hinq, ?_⟩⟩
      rw [pk_us, es1]
      refine ⟨hins1, (kr_O H s t1).2 t4, S, by omega, h1, h2, h3, h4, h5, h6, h7, kn_R H (Or.inr ⟨s, t1, rfl, rfl, t4⟩)⟩
theorem i_vc_clear {k : Nat} {u : SX} {v : SY} (I : i_Rel k u v) (hk : k + 4 ≤ 2050) (v1 : Int32) : wpX_clear (fun r u' => wpY_clear (fun r' v' => r' = r ∧ i_Rel (k + 4) u' v') v v1) u v1 := by
  obtain ⟨S, hS, h⟩ := I
  have hR := kr_up (n := 0) hS (by omega) h
  obtain ⟨cap, rc, fl, co, ls, rg, ex, sr, kd, fc, hr, ct, ra, rd, fs⟩ := u
  obtain ⟨cp, sn, cl, fn, so, ko, fo, fd, ir, re, yg, la⟩ := v
  obtain ⟨h1, h2, h3, h4, h5, h6, h7, H⟩ := h
  rcases km_reg v1 with ⟨a1, a2⟩ | ⟨q, q8, eq, a1, a2⟩
  · unfold wpX_clear
    refine a1 _ _ (br_t rfl ?_)
    unfold wpY_clear
    exact a2 _ (br_f kb_10 ⟨rfl, hR⟩)
  · subst eq
    have eq := nI_clamp (n := q) (by omega)
    have hinq := vp_in_nI (n := q) (N := 8) (by omega) (by omega)
    unfold wpX_clear
    refine a1 _ _ (br_f kb_10 ⟨hinq, nm_r (by rw [eq]) ?_⟩)
    unfold wpY_clear
    refine a2 _ (br_t rfl ⟨hinq, nm_r (by rw [eq]) ⟨rfl, ?_⟩⟩)
    exact ⟨S, by omega, h1, h2, h3, h4, h5, h6, h7, kn_R H (Or.inl ⟨rfl, rfl⟩)⟩
theorem i_vc_read {k : Nat} {u : SX} {v : SY} (I : i_Rel k u v) (hk : k + 4 ≤ 2050) (v1 : Int32) (v2 : Int32) : wpX_read (fun r => wpY_read (fun r' => r' = r ∧ i_Rel (k + 4) u v) v v1 v2) u v1 v2 := by
  obtain ⟨S, hS, h⟩ := I
  have hR := kr_up (n := 0) hS (by omega) h
  obtain ⟨cap, rc, fl, co, ls, rg, ex, sr, kd, fc, hr, ct, ra, rd, fs⟩ := u
  obtain ⟨cp, sn, cl, fn, so, ko, fo, fd, ir, re, yg, la⟩ := v
  obtain ⟨h1, h2, h3, h4, h5, h6, h7, H⟩ := h
  rcases km_ff cap rc fl co ls ra rd fs cp sn cl fn re la H v1 v2 with ⟨e, he, x1, y1⟩ | ⟨r, s, f, F, r8, e1, hs, e2, e3, hx, hF, hf, e4, -, hc, x1, y1⟩
  · unfold wpX_read
    refine x1 _ (br_f he ?_)
    unfold wpY_read
    exact y1 _ (br_f he ⟨rfl, hR⟩)
  · subst e1 e4
    have ec := nI_clamp (n := r) (by omega)
    have hin := vp_in_nI (n := r) (N := 8) (by omega) (by omega)
    have ecx := nI_clamp (n := 6 * s + f) (by omega)
    have hinx := vp_in_nI (n := 6 * s + f) (N := 576) (by omega) (by omega)
    have ecc := nI_clamp (n := 6 * (s + 1) + f) (by omega)
    have hinc := vp_in_nI (n := 6 * (s + 1) + f) (N := 582) (by omega) (by omega)
    unfold wpX_read
    refine x1 _ (br_t rfl ⟨hin, ?_⟩)
    rw [ec, e2]
    refine kb_cell _ _ _ _ _ _ _ _ _ _ _ _ _ _ _ (6 * s + f) (kb_cx s f) ⟨hinx, ?_⟩
    rw [ecx]
    rcases hc with ⟨c1, c2, c3⟩ | ⟨c1, c2, ⟨b, c⟩ | ⟨t, t1, t2, t3, t4⟩⟩
    · refine br_t c1 ⟨hinx, ?_⟩
      unfold wpY_read
      refine y1 _ (br_t rfl ⟨hin, nm_r (e' := nI (6 * (s + 1) + f)) (by rw [ec, e3]; exact kb_cy _ _) ⟨hinc, nm_r (by rw [ecc]) ⟨hinc, ?_⟩⟩⟩)
      rw [ecc]
      exact br_t c2 ⟨by rw [c3], hR⟩
    · refine br_f (by rw [c1]; exact kb_10) ⟨hinx, br_t b ?_⟩
      unfold wpY_read
      refine y1 _ (br_t rfl ⟨hin, nm_r (e' := nI (6 * (s + 1) + f)) (by rw [ec, e3]; exact kb_cy _ _) ⟨hinc, nm_r (by rw [ecc, c]) ⟨hinc, ?_⟩⟩⟩)
      rw [ecc]
      exact br_f (by rw [c2]; exact kb_10) (br_t rfl ⟨rfl, hR⟩)
    · have et := nI_clamp (n := t) (by omega)
      have et1 := nI_clamp (n := t + 1) (by omega)
      rw [t2, et]
      refine br_f (by rw [c1]; exact kb_10) ⟨hinx, br_f (kb_m1 (by omega)) ⟨hinx, vp_in_nI (by omega) (by omega), ?_⟩⟩
      unfold wpY_read
      refine y1 _ (br_t rfl ⟨hin, nm_r (e' := nI (6 * (s + 1) + f)) (by rw [ec, e3]; exact kb_cy _ _) ⟨hinc, nm_r (by rw [ecc, t3]) ⟨hinc, ?_⟩⟩⟩)
      rw [ecc, et1]
      refine br_f (by rw [c2]; exact kb_10) (br_f (nI_ne0 (by omega) (by omega)) ⟨vp_in_nI (by omega) (by omega), ?_, hR⟩)
      rw [(kr_O H t t1).2 (t4 hx)]
theorem i_vc_serial {k : Nat} {u : SX} {v : SY} (I : i_Rel k u v) (hk : k + 4 ≤ 2050) (v1 : Int32) : wpX_serial (fun r => wpY_serial (fun r' => r' = r ∧ i_Rel (k + 4) u v) v v1) u v1 := by
  obtain ⟨S, hS, h⟩ := I
  have hR := kr_up (n := 0) hS (by omega) h
  obtain ⟨cap, rc, fl, co, ls, rg, ex, sr, kd, fc, hr, ct, ra, rd, fs⟩ := u
  obtain ⟨cp, sn, cl, fn, so, ko, fo, fd, ir, re, yg, la⟩ := v
  obtain ⟨h1, h2, h3, h4, h5, h6, h7, H⟩ := h
  rcases km_fr cap rc fl co ls ra rd fs H v1 with ⟨x1, y1⟩ | ⟨r, r8, e, y1, ⟨b, c, x1⟩ | ⟨s, t1, t2, t3, t4, x1⟩⟩
  · unfold wpX_serial
    refine x1 _ (br_f (by decide) ?_)
    unfold wpY_serial
    exact y1 _ (br_f kb_10 ⟨rfl, hR⟩)
  · subst e
    have ec := nI_clamp (n := r) (by omega)
    have hin := vp_in_nI (n := r) (N := 8) (by omega) (by omega)
    unfold wpX_serial
    refine x1 _ (br_f (by decide) ?_)
    unfold wpY_serial
    exact y1 _ (br_t rfl ⟨hin, nm_r (by rw [ec, c]) (br_t rfl ⟨rfl, hR⟩)⟩)
  · subst e
    have ec := nI_clamp (n := r) (by omega)
    have hin := vp_in_nI (n := r) (N := 8) (by omega) (by omega)
    have es := nI_clamp (n := s) (by omega)
    have es1 := nI_clamp (n := s + 1) (by omega)
    unfold wpX_serial
    refine x1 _ (br_t rfl ⟨hin, ?_⟩)
    rw [ec, t2, es]
    refine ⟨vp_in_nI (by omega) (by omega), ?_⟩
    unfold wpY_serial
    refine y1 _ (br_t rfl ⟨hin, nm_r (e' := nI (s + 1)) (by rw [ec, t3]) (br_f (nI_ne0 (by omega) (by omega)) ⟨vp_in_nI (by omega) (by omega), ?_, hR⟩)⟩)
    rw [es1]
    exact (kr_O H s t1).2 t4
theorem i_vc_shape {k : Nat} {u : SX} {v : SY} (I : i_Rel k u v) (hk : k + 4 ≤ 2050) (v1 : Int32) : wpX_shape (fun r => wpY_shape (fun r' => r' = r ∧ i_Rel (k + 4) u v) v v1) u v1 := by
  obtain ⟨S, hS, h⟩ := I
  have hR := kr_up (n := 0) hS (by omega) h
  obtain ⟨cap, rc, fl, co, ls, rg, ex, sr, kd, fc, hr, ct, ra, rd, fs⟩ := u
  obtain ⟨cp, sn, cl, fn, so, ko, fo, fd, ir, re, yg, la⟩ := v
  obtain ⟨h1, h2, h3, h4, h5, h6, h7, H⟩ := h
  rcases km_fr cap rc fl co ls ra rd fs H v1 with ⟨x1, y1⟩ | ⟨r, r8, e, y1, ⟨b, c, x1⟩ | ⟨s, t1, t2, t3, t4, x1⟩⟩
  · unfold wpX_shape
    refine x1 _ (br_f (by decide) ?_)
    unfold wpY_shape
    exact y1 _ (br_f kb_10 ⟨rfl, hR⟩)
  · subst e
    have ec := nI_clamp (n := r) (by omega)
    have hin := vp_in_nI (n := r) (N := 8) (by omega) (by omega)
    unfold wpX_shape
    refine x1 _ (br_f (by decide) ?_)
    unfold wpY_shape
    exact y1 _ (br_t rfl ⟨hin, nm_r (by rw [ec, c]) (br_t rfl ⟨rfl, hR⟩)⟩)
  · subst e
    have ec := nI_clamp (n := r) (by omega)
    have hin := vp_in_nI (n := r) (N := 8) (by omega) (by omega)
    have es := nI_clamp (n := s) (by omega)
    have es1 := nI_clamp (n := s + 1) (by omega)
    have hins := vp_in_nI (n := s) (N := 96) (by omega) (by omega)
    have hins1 := vp_in_nI (n := s + 1) (N := 97) (by omega) (by omega)
    unfold wpX_shape
    refine x1 _ (br_t rfl ⟨hin, nm_r (e' := nI s) (by rw [ec, t2]) ⟨hins, hins, ?_⟩⟩)
    rw [es]
    unfold wpY_shape
    refine y1 _ (br_t rfl ⟨hin, nm_r (e' := nI (s + 1)) (by rw [ec, t3]) (br_f (nI_ne0 (by omega) (by omega)) ⟨hins1, hins1, ?_, hR⟩)⟩)
    obtain ⟨F, hF, f1, f2⟩ := kr_F H s t1
    rw [es1, kr_K H s t1, f1, f2, Int32.mul_comm]
theorem i_vc_collect {k : Nat} {u : SX} {v : SY} (I : i_Rel k u v) (hk : k + 4 ≤ 2050) : wpX_collect (fun r u' => wpY_collect (fun r' v' => r' = r ∧ i_Rel (k + 4) u' v') v) u := by
  obtain ⟨S, hS, h⟩ := I
  obtain ⟨u', v', r, g1, g0, g2, g3, g4⟩ := kr_coll h
  obtain ⟨cap, rc, fl, co, ls, rg, ex, sr, kd, fc, hr, ct, ra, rd, fs⟩ := u
  obtain ⟨cap', rc', fl', co', ls', rg', ex', sr', kd', fc', hr', ct', ra', rd', fs'⟩ := u'
  unfold wpX_collect
  exact g2 _ (g4 _ (g3 _ ⟨rfl, S, by omega, g1⟩))
theorem i_vc_count {k : Nat} {u : SX} {v : SY} (I : i_Rel k u v) (hk : k + 4 ≤ 2050) (v1 : Int32) : wpX_count (fun r u' => wpY_count (fun r' v' => r' = r ∧ i_Rel (k + 4) u' v') v v1) u v1 := by
  obtain ⟨S, hS, h⟩ := I
  have hR := kr_up (n := 0) hS (by omega) h
  obtain ⟨u', v', q, g1, g2, g3⟩ := kr_reach h
  obtain ⟨cap, rc, fl, co, ls, rg, ex, sr, kd, fc, hr, ct, ra, rd, fs⟩ := u
  obtain ⟨cp, sn, cl, fn, so, ko, fo, fd, ir, re, yg, la⟩ := v
  obtain ⟨h1, h2, h3, h4, h5, h6, h7, H⟩ := h
  unfold wpX_count
  refine br_c (fun a => ?_) (fun a => br_c (fun b => ?_) (fun b => br_c (fun c0 => ?_) (fun c0 => br_c (fun c1 => ?_) (fun c1 => br_c (fun c2 => ?_) (fun c2 => br_c (fun c3 => ?_) (fun c3 => br_c (fun c4 => ?_) (fun c4 => trivial)))))))
  · unfold wpY_count
    exact br_t a ⟨rfl, hR⟩
  · unfold wpY_count
    exact br_f a (br_t b ⟨rfl, hR⟩)
  · refine kb_xw _ _ _ _ _ _ _ _ _ _ _ _ _ _ _ ?_
    unfold wpY_count
    refine br_f a (br_f b (br_t c0 (kb_yw _ _ _ _ _ _ _ _ _ _ _ _ ⟨kr_words H, hR⟩)))
  · refine g2 _ ?_
    obtain ⟨cap', rc', fl', co', ls', rg', ex', sr', kd', fc', hr', ct', ra', rd', fs'⟩ := u'
    obtain ⟨cp', sn', cl', fn', so', ko', fo', fd', ir', re', yg', la'⟩ := v'
    unfold wpY_count
    exact br_f a (br_f b (br_f c0 (br_t c1 (g3 _ ⟨rfl, S, by omega, g1⟩))))
  · unfold wpY_count
    exact br_f a (br_f b (br_f c0 (br_f c1 (br_t c2 ⟨h2, hR⟩))))
  · unfold wpY_count
    exact br_f a (br_f b (br_f c0 (br_f c1 (br_f c2 (br_t c3 ⟨h3, hR⟩)))))
  · unfold wpY_count
    exact br_f a (br_f b (br_f c0 (br_f c1 (br_f c2 (br_f c3 (br_t c4 ⟨h1, hR⟩))))))
theorem i_vc_finalized {k : Nat} {u : SX} {v : SY} (I : i_Rel k u v) (hk : k + 4 ≤ 2050) (v1 : Int32) : wpX_finalized (fun r => wpY_finalized (fun r' => r' = r ∧ i_Rel (k + 4) u v) v v1) u v1 := by
  obtain ⟨S, hS, h⟩ := I
  have hR := kr_up (n := 0) hS (by omega) h
  obtain ⟨cap, rc, fl, co, ls, rg, ex, sr, kd, fc, hr, ct, ra, rd, fs⟩ := u
  obtain ⟨cp, sn, cl, fn, so, ko, fo, fd, ir, re, yg, la⟩ := v
  obtain ⟨h1, h2, h3, h4, h5, h6, h7, H⟩ := h
  subst h1 h2 h3 h4
  have e16 : (16 : Int32) ≤ v1 ↔ 15 < v1 := by
    rw [Int32.le_iff_toInt_le, Int32.lt_iff_toInt_lt, show (16 : Int32).toInt = 16 from by decide, show (15 : Int32).toInt = 15 from by decide]
    omega
  unfold wpX_finalized
  refine br_c (fun a => ?_) (fun a => br_c (fun b => ?_) (fun b => br_c (fun c => ⟨kf_15 _, ?_⟩) (fun c => ?_)))
  · unfold wpY_finalized
    exact br_t a ⟨rfl, hR⟩
  · unfold wpY_finalized
    exact br_f a (br_t (e16.mp b) ⟨rfl, hR⟩)
  · unfold wpY_finalized
    exact br_f a (br_f (fun g => b (e16.mpr g)) (br_t c ⟨kf_15 _, rfl, hR⟩))
  · unfold wpY_finalized
    exact br_f a (br_f (fun g => b (e16.mpr g)) (br_f c ⟨rfl, hR⟩))

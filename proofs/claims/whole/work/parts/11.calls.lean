theorem i_vc_probe {k : Nat} {u : SX} {v : SY} (I : i_Rel k u v) (hk : k + 2 ≤ 1026) (v1 : Int32) : wpX_probe (fun r u' => wpY_probe (fun r' v' => r' = r ∧ i_Rel (k + 2) u' v') v v1) u v1 := by
  obtain ⟨K, M, T, fl, t, rl, pl, L, P, B, cs, le, be, pb, pi, af, ah, op, np, rfl, rfl, g, hf, ht, hL, hL4, hB, hP, hP4, hpl, h⟩ := I
  unfold wpX_probe
  dsimp only
  refine xs_withL g (rl_pr g hP4 hpl) v1 (xs_longer g hpl (fun m hm => ys_probe g hP hP4 hpl v1 (fun pb' P' m' a1 a2 a3 a4 a5 => ?_)))
  cases show m' = m from by omega
  refine ⟨rfl, ?_⟩
  rw [← a5]
  exact rl_mk ⟨g, hf, ht, hL, hL4, hB, a1, a2, a3, h⟩
theorem i_vc_count {k : Nat} {u : SX} {v : SY} (I : i_Rel k u v) (hk : k + 2 ≤ 1026) : wpX_count (fun r => wpY_count (fun r' => r' = r ∧ i_Rel (k + 2) u v) v) u := by
  have I0 : i_Rel (k + 2) u v := I
  obtain ⟨K, M, T, fl, t, rl, pl, L, P, B, cs, le, be, pb, pi, af, ah, op, np, rfl, rfl, g, hf, ht, hL, hL4, hB, hP, hP4, hpl, hT, hc⟩ := I
  have kk := cb_K g
  have pM := rl_pr g hP4 hpl
  unfold wpX_count wpY_count
  dsimp only
  refine pk_eq pl K (fun e => ⟨?_, ys_code (by omega) (by omega) hP (fun _ => br_t (nI_pos' (by omega)) (ys_countOf g ht hL hL4 hB pM ⟨?_, I0⟩)) (fun ne => absurd e ne)⟩) (fun ne => ys_code (by omega) (by omega) hP (fun e => absurd e ne) (fun _ => br_f (by decide) ⟨rfl, I0⟩)) rfl rfl (by omega) (by omega)
  · rw [cb_1023 (by omega)]
    exact vp_in_nI (by omega) (by decide)
  · rw [cb_1023 (by omega), nI_clamp (by omega), hc _ pM]
theorem i_vc_chain {k : Nat} {u : SX} {v : SY} (I : i_Rel k u v) (hk : k + 2 ≤ 1026) : wpX_chain (fun r => wpY_chain (fun r' v' => r' = r ∧ i_Rel (k + 2) u v') v) u := by
  obtain ⟨K, M, T, fl, t, rl, pl, L, P, B, cs, le, be, pb, pi, af, ah, op, np, rfl, rfl, h⟩ := I
  have h' := h
  obtain ⟨g, hf, ht, hL, hL4, hB, hP, hP4, hpl, hT, hc⟩ := h'
  have kk := cb_K g
  have pM := rl_pr g hP4 hpl
  unfold wpX_chain wpY_chain
  dsimp only
  refine xs_probeSolid h (fun e s => br_f (by decide) (xs_chainLen g (rl_S ht hf.2 hc) pM (fun m hl => ?_))) (fun no => br_t rfl ?_)
  · refine ys_probed h (fun n Q pi af ah x hq hpi h1 h2 hx _ ex => ?_) (fun n pi af ah no => absurd ⟨e, s⟩ no)
    dsimp only
    have n2 := hq.1
    refine br_t (nI_pos' (by omega)) (ys_length hq.1 h1 h2 (ga_PI hq.2.2.1 lk_PI) hx (fun m' _ hl' => ⟨?_, rl_mk h⟩))
    have a := (bg_len (bg_R hq) (bg_R' hq) hq.2.2.1 lk_PI hx).mp hl'
    rw [ex] at a
    rw [wk_lenU lk_PI a hl]
  · refine ys_probed h (fun n Q pi af ah x hq hpi h1 h2 hx e ex => absurd ⟨e, ex ▸ (hq.2.1 x hx).2⟩ no) (fun n pi af ah _ => ?_)
    dsimp only
    exact br_f (by decide) ⟨rfl, rl_mk h⟩
theorem i_vc_before {k : Nat} {u : SX} {v : SY} (I : i_Rel k u v) (hk : k + 2 ≤ 1026) : wpX_before (fun r => wpY_before (fun r' v' => r' = r ∧ i_Rel (k + 2) u v') v) u := by
  obtain ⟨K, M, T, fl, t, rl, pl, L, P, B, cs, le, be, pb, pi, af, ah, op, np, rfl, rfl, h⟩ := I
  have h' := h
  obtain ⟨g, hf, ht, hL, hL4, hB, hP, hP4, hpl, hT, hc⟩ := h'
  have kk := cb_K g
  have pM := rl_pr g hP4 hpl
  unfold wpX_before wpY_before
  dsimp only
  refine xs_probeSolid h (fun e s => br_f (by decide) ⟨M + 1, xs_beforeL g (rl_S ht hf.2 hc) pM (fun m d hd => ?_) (fun m rg => ?_) M 0 _ (by omega) pM rfl (fun j h0 hj => by omega)⟩) (fun no => br_t rfl ?_)
  · refine ys_probed h (fun n Q pi af ah x hq hpi h1 h2 hx _ ex => ?_) (fun n pi af ah no => absurd ⟨e, s⟩ no)
    dsimp only
    have n2 := hq.1
    have pI := ga_PI hq.2.2.1 (lk_PI (K := K) (M := M) (T := T) (S := fun c => fl ≤ sn_cn K L B t c))
    have nr : ∀ m, ¬ wk_Ring (ga_R n Q (lk_R K M T (fun c => fl ≤ sn_cn K L B t c))) x m := fun m q => by
      have a := (bg_ring (bg_R hq) hq.2.2.1 hx).mp q
      rw [ex] at a
      exact wk_endNo (wk_cvP lk_PI) hd (wk_ringCv a)
    refine br_t (nI_pos' (by omega)) (ys_ring hq.1 h1 pI hx (fun m' e' _ => br_t rfl (ys_walkB hq.1 h2 (wk_cvP pI) hx (fun b d' hb hb' => ⟨?_, rl_mk h⟩) (fun m' _ rg => absurd (wk_ringCv' rg) (nr m')))) (fun m' rg => absurd rg (nr m')))
    have dn := wk_lt (wk_cvP pI) hx hb'.1
    rw [bg_cv] at hb'
    have a := bg_endU (R := wk_Cv (lk_R K M T (fun c => fl ≤ sn_cn K L B t c))) (fun a b r => bg_R' hq _ _ r) dn hb'
    rw [ex] at a
    rw [(wk_endU (wk_cvP lk_PI) a hd).1]
  · refine ys_probed h (fun n Q pi af ah x hq hpi h1 h2 hx _ ex => ?_) (fun n pi af ah no => absurd ⟨e, s⟩ no)
    dsimp only
    have n2 := hq.1
    have pI := ga_PI hq.2.2.1 (lk_PI (K := K) (M := M) (T := T) (S := fun c => fl ≤ sn_cn K L B t c))
    have rg' := (bg_ring (bg_R hq) hq.2.2.1 hx).mpr (ex ▸ rg)
    exact br_t (nI_pos' (by omega)) (ys_ring hq.1 h1 pI hx (fun m' e' x1 => (wk_endNo pI x1 rg').elim) (fun m' _ => br_f (by decide) ⟨rfl, rl_mk h⟩))
  · refine ys_probed h (fun n Q pi af ah x hq hpi h1 h2 hx e ex => absurd ⟨e, ex ▸ (hq.2.1 x hx).2⟩ no) (fun n pi af ah _ => ?_)
    dsimp only
    exact br_f (by decide) ⟨rfl, rl_mk h⟩
theorem i_vc_step {k : Nat} {u : SX} {v : SY} (I : i_Rel k u v) (hk : k + 2 ≤ 1026) : wpX_step (fun r u' => wpY_step (fun r' v' => r' = r ∧ i_Rel (k + 2) u' v') v) u := by
  obtain ⟨K, M, T, fl, t, rl, pl, L, P, B, cs, le, be, pb, pi, af, ah, op, np, rfl, rfl, h⟩ := I
  have h' := h
  obtain ⟨g, hf, ht, hL, hL4, hB, hP, hP4, hpl, hT, hc⟩ := h'
  have kk := cb_K g
  have pM := rl_pr g hP4 hpl
  have kM : T * 4 = M := kk.2.2.2.2.1.symm
  unfold wpX_step wpY_step
  dsimp only
  refine xs_probeSolid h (fun e s => br_f (by decide) (xs_linkedAfter g (rl_S ht hf.2 hc) pM (fun d hd => ?_) (fun no => br_t rfl ?_))) (fun no => br_t rfl ?_)
  · have dM : d < M := hd.1.1.1
    refine br_f (cb_nm (by omega)) (ys_probed h (fun n Q pi af ah x hq hpi h1 h2 hx _ ex => ?_) (fun n pi af ah no => absurd ⟨e, s⟩ no))
    dsimp only
    have n2 := hq.1
    refine br_f (nI_pos (by omega)) ⟨vp_in_nI (by omega) (by decide), ?_⟩
    rw [nI_clamp (n := x) (by omega)]
    rcases h1 x hx with ⟨b, eb, r⟩ | ⟨eb, no⟩
    · have bn := r.2.1
      have e1 : Q b = d := lk_PI.1 _ _ _ r.2.2 (ex ▸ hd)
      rw [eb, nI_clamp (n := b) (by omega), hpi b bn, e1]
      have e2 : nI d - nI d / 4 * 4 = nI (d % 4) := pk_rem (d := 4) (by omega) (by decide) (by decide)
      refine br_t (nI_pos' (by omega)) ⟨vp_in_nI (by omega) (by decide), vp_in_nI (by omega) (by decide), by decide, nm_r e2 (ys_probe g hP hP4 hpl _ (fun pb' P' m a1 a2 a3 a4 a5 => ?_))⟩
      dsimp only
      have m1 : m = pl := by omega
      subst m1
      refine ⟨?_, ?_⟩
      · rw [cb_and3, cb_lN (by omega)]
      · have e3 : cb_cd P' 0 m = d := by
          rw [a5, cb_lN (by omega)]
          have q : cb_cd P 0 m % T = d / 4 := hd.1.1.2.2
          have q2 : cb_cd P 0 m * 4 % (T * 4) = cb_cd P 0 m % T * 4 := Nat.mul_mod_mul_right _ _ _
          rw [kM, q] at q2
          rw [Nat.add_mod, q2, Nat.mod_eq_of_lt (a := d % 4 % 4) (by omega), show d / 4 * 4 + d % 4 % 4 = d from by omega, Nat.mod_eq_of_lt dM]
        rw [← e3]
        exact rl_mk ⟨g, hf, ht, hL, hL4, hB, a1, a2, a3, hT, hc⟩
    · obtain ⟨y, hy, ey⟩ := bg_R hq _ _ hd
      exact (no y ⟨hx, hy, by rw [ex, ey]; exact hd⟩).elim
  · refine ys_probed h (fun n Q pi af ah x hq hpi h1 h2 hx _ ex => ?_) (fun n pi af ah no => absurd ⟨e, s⟩ no)
    dsimp only
    have n2 := hq.1
    refine br_f (nI_pos (by omega)) ⟨vp_in_nI (by omega) (by decide), ?_⟩
    rw [nI_clamp (n := x) (by omega)]
    rcases h1 x hx with ⟨b, eb, r⟩ | ⟨eb, _⟩
    · exact (no (Q b) (ex ▸ r.2.2)).elim
    · rw [eb]
      exact br_f (by decide) ⟨rfl, rl_mk h⟩
  · refine ys_probed h (fun n Q pi af ah x hq hpi h1 h2 hx e ex => absurd ⟨e, ex ▸ (hq.2.1 x hx).2⟩ no) (fun n pi af ah _ => ?_)
    dsimp only
    exact br_t (by decide) ⟨rfl, rl_mk h⟩
theorem i_vc_solid {k : Nat} {u : SX} {v : SY} (I : i_Rel k u v) (hk : k + 2 ≤ 1026) : wpX_solid (fun r => wpY_solid (fun r' v' => r' = r ∧ i_Rel (k + 2) u v') v) u := by
  obtain ⟨K, M, T, fl, t, rl, pl, L, P, B, cs, le, be, pb, pi, af, ah, op, np, rfl, rfl, h⟩ := I
  have h' := h
  obtain ⟨g, hf, ht, hL, hL4, hB, hP, hP4, hpl, hT, hc⟩ := h'
  unfold wpX_solid wpY_solid
  dsimp only
  refine ⟨M + 1, xs_solidL g (rl_S ht hf.2 hc) ?_ M 0 (by omega)⟩
  refine ys_gather g ht hf.1 hf.2 hL hL4 hB (fun c => Iff.rfl) (rl_m g) (fun n Q pi af ah hq hpi h1 h2 => ?_)
  dsimp only
  exact ⟨by decide, by rw [bg_solid hq], rl_mk h⟩
theorem i_vc_chains {k : Nat} {u : SX} {v : SY} (I : i_Rel k u v) (hk : k + 2 ≤ 1026) : wpX_chains (fun r => wpY_chains (fun r' v' => r' = r ∧ i_Rel (k + 2) u v') v) u := by
  obtain ⟨K, M, T, fl, t, rl, pl, L, P, B, cs, le, be, pb, pi, af, ah, op, np, rfl, rfl, h⟩ := I
  have h' := h
  obtain ⟨g, hf, ht, hL, hL4, hB, hP, hP4, hpl, hT, hc⟩ := h'
  unfold wpX_chains wpY_chains
  dsimp only
  refine ⟨M + 1, xs_chainsL g (rl_S ht hf.2 hc) ?_ M 0 (by omega)⟩
  refine ys_gather g ht hf.1 hf.2 hL hL4 hB (fun c => Iff.rfl) (rl_m g) (fun n Q pi af ah hq hpi h1 h2 => ?_)
  dsimp only
  exact ⟨n + 1, ys_chainsL hq.1 h1 h2 (ga_PI hq.2.2.1 lk_PI) ⟨by rw [bg_chains hq], rl_mk h⟩ n 0 (by omega)⟩
theorem i_vc_longest {k : Nat} {u : SX} {v : SY} (I : i_Rel k u v) (hk : k + 2 ≤ 1026) : wpX_longest (fun r => wpY_longest (fun r' v' => r' = r ∧ i_Rel (k + 2) u v') v) u := by
  obtain ⟨K, M, T, fl, t, rl, pl, L, P, B, cs, le, be, pb, pi, af, ah, op, np, rfl, rfl, h⟩ := I
  have h' := h
  obtain ⟨g, hf, ht, hL, hL4, hB, hP, hP4, hpl, hT, hc⟩ := h'
  unfold wpX_longest wpY_longest
  dsimp only
  refine ⟨M + 1, xs_longestL g (rl_S ht hf.2 hc) (fun w hw => ?_) M 0 0 (by omega) ⟨by omega, fun c m hc => by omega, Or.inl rfl⟩⟩
  refine ys_gather g ht hf.1 hf.2 hL hL4 hB (fun c => Iff.rfl) (rl_m g) (fun n Q pi af ah hq hpi h1 h2 => ?_)
  dsimp only
  exact ⟨n + 1, ys_longestL hq.1 h1 h2 (ga_PI hq.2.2.1 lk_PI) (fun w' hw' => ⟨by rw [bg_longest hq hw hw'], rl_mk h⟩) n 0 0 (by omega) ⟨by omega, fun c m hc => by omega, Or.inl rfl⟩⟩

theorem rd_ct1 {P Q : Nat → Prop} {n p : Nat} (hp : p < n) (hP : P p) (hQ : ¬ Q p) (h : ∀ i, i < n → i ≠ p → (P i ↔ Q i)) : wk_ct P n = wk_ct Q n + 1 := by
  rw [← wk_ct_rm hP hp]
  congr 1
  refine wk_ct_c fun i hi => ⟨fun q => (h i hi q.2).mp q.1, fun q => ?_⟩
  have ne : i ≠ p := fun z => hQ (z ▸ q)
  exact ⟨(h i hi ne).mpr q, ne⟩
section
variable {K M T t rl : Nat} {L : Nat → Nat} {B : Nat → Prop} {l : Nat}
/-- the letters and the beginnings after one letter more -/
def rd_L (L : Nat → Nat) (t l : Nat) : Nat → Nat := fun i => if i = t then l else L i
def rd_B (B : Nat → Prop) (t rl : Nat) : Nat → Prop := fun i => (i = t ∧ rl = 0) ∨ (i ≠ t ∧ B i)
theorem rd_Lo {i : Nat} (h : i ≠ t) : rd_L L t l i = L i := if_neg h
theorem rd_Lt : rd_L L t l t = l := if_pos rfl
theorem rd_Bo {i : Nat} (h : i ≠ t) : rd_B B t rl i ↔ B i := ⟨fun q => by
  rcases q with q | q
  · exact (h q.1).elim
  · exact q.2, fun q => Or.inr ⟨h, q⟩⟩
theorem rd_Bt : rd_B B t rl t ↔ rl = 0 := ⟨fun q => by
  rcases q with q | q
  · exact q.2
  · exact (q.1 rfl).elim, fun q => Or.inl ⟨rfl, q⟩⟩
theorem rd_tail (g : cb_G K M T) (hL4 : ∀ i, L i < 4) (l4 : l < 4) {op : Int32} (h : rl_T K t rl B op) {m : Nat} (hm : (rl < K ∧ m = rl + 1) ∨ (rl = K ∧ m = K)) :
    cb_cd (rd_L L t l) (t + 1 - m) m = (cb_cd L (t - rl) rl * 4 + l) % M := by
  have k := cb_K g
  obtain ⟨h1, h2, h3, h4, h5⟩ := h
  have b : cb_cd (rd_L L t l) (t - rl) rl = cb_cd L (t - rl) rl := cb_cd_c fun i hi => rd_Lo (by omega)
  rcases hm with ⟨lt, rfl⟩ | ⟨e1, e2⟩
  · have q : 4 ^ rl * 4 ≤ M := by
      rw [← k.2.2.2.2.2.2, ← Nat.pow_succ]
      exact Nat.pow_le_pow_right (by decide) (by omega)
    have r := cb_cd_lt hL4 (p := t - rl) rl
    rw [show t + 1 - (rl + 1) = t - rl from by omega]
    show cb_cd (rd_L L t l) (t - rl) rl * 4 + rd_L L t l (t - rl + rl) = _
    rw [b, show t - rl + rl = t from by omega, rd_Lt, Nat.mod_eq_of_lt (by omega)]
  · have a := cb_cd_sh (L := rd_L L t l) (fun i => by
      unfold rd_L
      split
      · exact l4
      · exact hL4 _) (p := t - K) K
    rw [e1] at b ⊢
    rw [e2, show t + 1 - K = t - K + 1 from by omega, a, b, k.2.2.2.2.2.2, show t - K + K = t from by omega, rd_Lt]
theorem rd_T (g : cb_G K M T) {op : Int32} (h : rl_T K t rl B op) {m : Nat} (hm : (rl < K ∧ m = rl + 1) ∨ (rl = K ∧ m = K)) : rl_T K (t + 1) m (rd_B B t rl) 1 := by
  have k := cb_K g
  obtain ⟨h1, h2, h3, h4, h5⟩ := h
  refine ⟨by omega, by omega, fun i h0 hi q => ?_, fun lt h0 => ?_, ⟨fun q => absurd q (by decide), fun q => by omega⟩⟩
  · by_cases z : t + 1 - m + i = t
    · rw [z] at q
      have := rd_Bt.mp q
      omega
    · have q' := (rd_Bo z).mp q
      rcases hm with ⟨lt, rfl⟩ | ⟨e1, e2⟩
      · rw [show t + 1 - (rl + 1) + i = t - rl + i from by omega] at q'
        exact h3 i h0 (by omega) q'
      · rw [show t + 1 - m + i = t - rl + (i + 1) from by omega] at q'
        exact h3 (i + 1) (by omega) (by omega) q'
  · by_cases z : rl = 0
    · rw [show t + 1 - m = t from by omega]
      exact rd_Bt.mpr z
    · refine (rd_Bo (by omega)).mpr ?_
      rw [show t + 1 - m = t - rl from by omega]
      exact h4 (by omega) (by omega)
theorem rd_V {p s : Nat} (h : p + K ≤ t) : sn_V K (rd_L L t l) (rd_B B t rl) (t + 1) p s ↔ sn_V K L B t p s := by
  have a : sn_Ok (rd_B B t rl) p K ↔ sn_Ok B p K := ⟨fun q i h0 hi z => q i h0 hi ((rd_Bo (by omega)).mpr z), fun q i h0 hi z => q i h0 hi ((rd_Bo (by omega)).mp z)⟩
  have b : cb_cd (rd_L L t l) p K = cb_cd L p K := cb_cd_c fun i hi => rd_Lo (by omega)
  unfold sn_V
  rw [a, b]
  exact ⟨fun q => ⟨h, q.2⟩, fun q => ⟨by omega, q.2⟩⟩
theorem rd_no (g : cb_G K M T) {c : Nat} (h : ∀ p s, p + K = t + 1 → sn_V K (rd_L L t l) (rd_B B t rl) (t + 1) p s → s ≠ c ∧ s ≠ cb_mr K c) : sn_cn K (rd_L L t l) (rd_B B t rl) (t + 1) c = sn_cn K L B t c := by
  have k := cb_K g
  unfold sn_cn
  rw [wk_ct_f (P := sn_hit K (rd_L L t l) (rd_B B t rl) (t + 1) c) (fun ⟨s, v, _⟩ => by have := v.1; omega)]
  refine wk_ct_c fun p hp => ?_
  rcases Nat.lt_trichotomy (p + K) (t + 1) with z | z | z
  · exact ⟨fun ⟨s, v, q⟩ => ⟨s, (rd_V (by omega)).mp v, q⟩, fun ⟨s, v, q⟩ => ⟨s, (rd_V (by omega)).mpr v, q⟩⟩
  · refine ⟨fun ⟨s, v, q⟩ => ?_, fun ⟨s, v, q⟩ => by have := v.1; omega⟩
    have := h p s z v
    rcases q with q | q
    · exact (this.1 q).elim
    · exact (this.2 q).elim
  · exact ⟨fun ⟨s, v, q⟩ => by have := v.1; omega, fun ⟨s, v, q⟩ => by have := v.1; omega⟩
theorem rd_yes (g : cb_G K M T) {c p s : Nat} (hp : p + K = t + 1) (v : sn_V K (rd_L L t l) (rd_B B t rl) (t + 1) p s) (q : s = c ∨ s = cb_mr K c) : sn_cn K (rd_L L t l) (rd_B B t rl) (t + 1) c = sn_cn K L B t c + 1 := by
  have k := cb_K g
  unfold sn_cn
  rw [wk_ct_f (P := sn_hit K (rd_L L t l) (rd_B B t rl) (t + 1) c) (fun ⟨s, v, _⟩ => by have := v.1; omega)]
  refine rd_ct1 (p := p) (by omega) ⟨s, v, q⟩ (fun ⟨s, v, _⟩ => by have := v.1; omega) (fun i hi ne => ?_)
  rcases Nat.lt_trichotomy (i + K) (t + 1) with z | z | z
  · exact ⟨fun ⟨s, v, q⟩ => ⟨s, (rd_V (by omega)).mp v, q⟩, fun ⟨s, v, q⟩ => ⟨s, (rd_V (by omega)).mpr v, q⟩⟩
  · omega
  · exact ⟨fun ⟨s, v, q⟩ => by have := v.1; omega, fun ⟨s, v, q⟩ => by have := v.1; omega⟩
end
theorem rd_nar1 : vp_nar .boolean 1 = 1 := by decide
theorem rd_nar0 : vp_nar .boolean 0 = 0 := by decide
/-- Y takes a letter -/
theorem ys_read {post : Int32 → SY → Prop} {t rl : Nat} {L : Nat → Nat} {B : Nat → Prop} {y1 y2 y5 y6 op : Int32} {le be pb pi af ah : Nat → Int32} (ht : t < 96) (hL : ∀ i, le i = nI (L i)) (hB : ∀ i, be i = 0 ↔ ¬ B i) (ho : op = 0 ↔ rl = 0) (v1 : Int32)
    (hp : ∀ le' be', (∀ i, le' i = nI (rd_L L t (cb_l v1) i)) → (∀ i, be' i = 0 ↔ ¬ rd_B B t rl i) → post (nI (t + 1)) (y1, y2, nI (t + 1), 1, y5, y6, le', be', pb, pi, af, ah)) :
    wpY_read post (y1, y2, nI t, op, y5, y6, le, be, pb, pi, af, ah) v1 := by
  have vi : vp_in (nI t) 96 := vp_in_nI ht (by decide)
  have hl : ∀ i, upd le t (nI (cb_l v1)) i = nI (rd_L L t (cb_l v1) i) := fun i => by
    by_cases z : i = t
    · subst z; rw [pk_us, rd_Lt]
    · rw [pk_un z, rd_Lo z, hL]
  unfold wpY_read
  dsimp only
  refine br_f (fun q => by have := (nI_eq (b := 96) (by omega) (by decide)).mp q; omega) ⟨vi, nm_e ?_⟩
  rw [nI_clamp (by omega), cb_and3]
  refine br_c (fun e => ⟨vi, nm_e (nm_r (nI_1 t) (hp _ _ hl (fun i => ?_)))⟩) (fun e => ⟨vi, nm_e (nm_r (nI_1 t) (hp _ _ hl (fun i => ?_)))⟩)
  · rw [nI_clamp (by omega), rd_nar1]
    by_cases z : i = t
    · subst z
      rw [pk_us, rd_Bt]
      exact ⟨fun q => absurd q (by decide), fun q => absurd (ho.mp e) q⟩
    · rw [pk_un z, rd_Bo z, hB]
  · rw [nI_clamp (by omega), rd_nar0]
    by_cases z : i = t
    · subst z
      rw [pk_us, rd_Bt]
      exact ⟨fun _ q => e (ho.mpr q), fun _ => rfl⟩
    · rw [pk_un z, rd_Bo z, hB]
theorem xs_countPiece {post : SX → Prop} {K M T s : Nat} {x4 x5 x6 x7 x8 x9 : Int32} {cs : Nat → Int32} (g : cb_G K M T) (hs : s < M)
    (hp : ∀ cs', (∀ c, c < M → (s = c ∨ s = cb_mr K c) → cs' c = cs c + 1) → (∀ c, c < M → s ≠ c → s ≠ cb_mr K c → cs' c = cs c) → post (nI K, nI (M - 1), nI T, x4, x5, x6, x7, x8, x9, cs')) :
    wpX_countPiece post (nI K, nI (M - 1), nI T, x4, x5, x6, x7, x8, x9, cs) (nI s) := by
  have k := cb_K g
  have mM := cb_mr_lt g hs
  have ne := cb_mr_ne g hs
  unfold wpX_countPiece
  dsimp only
  refine xm_mirrorOf (by omega) (by omega) ?_
  rw [cb_1023 (c := s) (by omega), cb_1023 (c := cb_mr K s) (by omega), nI_clamp (n := s) (by omega), nI_clamp (n := cb_mr K s) (by omega)]
  refine ⟨vp_in_nI (by omega) (by decide), vp_in_nI (by omega) (by decide), nm_e ⟨vp_in_nI (by omega) (by decide), vp_in_nI (by omega) (by decide), nm_e (hp _ (fun c hc q => ?_) (fun c hc n1 n2 => ?_))⟩⟩
  · rcases q with q | q
    · subst q
      rw [pk_un (fun z => ne z.symm), pk_us]
    · have e : c = cb_mr K s := by rw [q, cb_mr_mr g hc]
      rw [e, pk_us, pk_un ne]
  · rw [pk_un (fun z => n2 (by rw [z, cb_mr_mr g hs])), pk_un (fun z => n1 z.symm)]
theorem i_vc_read {k : Nat} {u : SX} {v : SY} (I : i_Rel k u v) (hk : k + 2 ≤ 1026) (v1 : Int32) : wpX_read (fun r u' => wpY_read (fun r' v' => r' = r ∧ i_Rel (k + 2) u' v') v v1) u v1 := by
  obtain ⟨K, M, T, fl, t, rl, pl, L, P, B, cs, le, be, pb, pi, af, ah, op, np, rfl, rfl, h⟩ := I
  have h' := h
  obtain ⟨g, hf, ht, hL, hL4, hB, hP, hP4, hpl, hT, hc⟩ := h'
  have kk := cb_K g
  have l4 := cb_l4 v1
  unfold wpX_read
  dsimp only
  refine pk_lt t 96 (fun lt => ?_) (fun ge => ?_) rfl rfl (by omega) (by omega)
  · have hr : cb_cd L (t - rl) rl < M := by
      rw [← kk.2.2.2.2.2.2]
      exact Nat.lt_of_lt_of_le (cb_cd_lt hL4 rl) (Nat.pow_le_pow_right (by decide) hT.1)
    have L4 : ∀ i, rd_L L t (cb_l v1) i < 4 := fun i => by
      unfold rd_L
      split
      · exact l4
      · exact hL4 _
    refine nm_r (nI_1 t) (xs_withL g hr v1 (xs_longer g hT.1 (fun m hm => ?_)))
    have tl := rd_tail g hL4 l4 hT hm
    have T' := rd_T g hT hm
    rw [← tl]
    have mK : m ≤ K := T'.1
    refine pk_eq m K (fun e => ?_) (fun ne => ?_) rfl rfl (by omega) (by omega)
    · have hs : cb_cd (rd_L L t (cb_l v1)) (t + 1 - m) m < M := by
        rw [← kk.2.2.2.2.2.2, e]
        exact cb_cd_lt L4 K
      refine xs_countPiece g hs (fun cs' c1 c2 => ?_)
      dsimp only
      refine ys_read lt hL hB hT.2.2.2.2 v1 (fun le' be' a1 a2 => ⟨rfl, rl_mk ⟨g, hf, by omega, a1, L4, a2, hP, hP4, hpl, T', fun c hM => ?_⟩⟩)
      have tm : t + 1 - m + K = t + 1 := by have := T'.2.1; omega
      have v : sn_V K (rd_L L t (cb_l v1)) (rd_B B t rl) (t + 1) (t + 1 - m) (cb_cd (rd_L L t (cb_l v1)) (t + 1 - m) m) := ⟨by omega, by have := T'.2.2.1; rw [e] at this ⊢; exact this, by rw [e]⟩
      by_cases q : cb_cd (rd_L L t (cb_l v1)) (t + 1 - m) m = c ∨ cb_cd (rd_L L t (cb_l v1)) (t + 1 - m) m = cb_mr K c
      · rw [c1 c hM q, rd_yes g tm v q, hc c hM, nI_1]
      · have q1 : cb_cd (rd_L L t (cb_l v1)) (t + 1 - m) m ≠ c := fun z => q (Or.inl z)
        have q2 : cb_cd (rd_L L t (cb_l v1)) (t + 1 - m) m ≠ cb_mr K c := fun z => q (Or.inr z)
        rw [c2 c hM q1 q2, hc c hM, rd_no g (fun p s hp vp => ?_)]
        cases show p = t + 1 - m from by omega
        rw [vp.2.2, ← v.2.2]
        exact ⟨q1, q2⟩
    · refine ys_read lt hL hB hT.2.2.2.2 v1 (fun le' be' a1 a2 => ⟨rfl, rl_mk ⟨g, hf, by omega, a1, L4, a2, hP, hP4, hpl, T', fun c hM => ?_⟩⟩)
      rw [hc c hM, rd_no g (fun p s hp vp => ?_)]
      have b := T'.2.2.2.1 (by omega) (by omega)
      refine (vp.2.1 (K - m) (by omega) (by omega) ?_).elim
      rw [show p + (K - m) = t + 1 - m from by omega]
      exact b
  · refine br_t (by rw [show t = 96 from by omega]; decide) ⟨rfl, rl_mk h⟩

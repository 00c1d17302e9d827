/-- the tail of the read that is open: its length, where it begins, whether a read is open -/
def rl_T (K t rl : Nat) (B : Nat → Prop) (op : Int32) : Prop := rl ≤ K ∧ rl ≤ t ∧ sn_Ok B (t - rl) rl ∧ (rl < K → 0 < rl → B (t - rl)) ∧ (op = 0 ↔ rl = 0)
def rl_F (K M T fl t rl pl : Nat) (L P : Nat → Nat) (B : Nat → Prop) (cs le be pb : Nat → Int32) (op : Int32) : Prop :=
  cb_G K M T ∧ (1 ≤ fl ∧ fl ≤ 9) ∧ t ≤ 96 ∧ (∀ i, le i = nI (L i)) ∧ (∀ i, L i < 4) ∧ (∀ i, be i = 0 ↔ ¬ B i) ∧ (∀ i, pb i = nI (P i)) ∧ (∀ i, P i < 4) ∧ pl ≤ K ∧ rl_T K t rl B op ∧ (∀ c, c < M → cs c = nI (sn_cn K L B t c))
def i_Rel (k : Nat) (u : SX) (v : SY) : Prop := ∃ (K M T fl t rl pl : Nat) (L P : Nat → Nat) (B : Nat → Prop) (cs le be pb pi af ah : Nat → Int32) (op np : Int32),
  u = (nI K, nI (M - 1), nI T, nI fl, nI t, nI (cb_cd L (t - rl) rl), nI rl, nI (cb_cd P 0 pl), nI pl, cs) ∧ v = (nI K, nI fl, nI t, op, nI pl, np, le, be, pb, pi, af, ah) ∧ rl_F K M T fl t rl pl L P B cs le be pb op
theorem rl_mk {k K M T fl t rl pl : Nat} {L P : Nat → Nat} {B : Nat → Prop} {cs le be pb pi af ah : Nat → Int32} {op np : Int32} (h : rl_F K M T fl t rl pl L P B cs le be pb op) :
    i_Rel k (nI K, nI (M - 1), nI T, nI fl, nI t, nI (cb_cd L (t - rl) rl), nI rl, nI (cb_cd P 0 pl), nI pl, cs) (nI K, nI fl, nI t, op, nI pl, np, le, be, pb, pi, af, ah) :=
  ⟨K, M, T, fl, t, rl, pl, L, P, B, cs, le, be, pb, pi, af, ah, op, np, rfl, rfl, h⟩
theorem i_up {k : Nat} {u : SX} {v : SY} (h : i_Rel k u v) : i_Rel (k + 2) u v := h
theorem rl_fl (p : Int32) : ∃ fl, (1 ≤ fl ∧ fl ≤ 9) ∧ (∀ A : Int32 → Prop, A (nI fl) → wpX_withinFloors A p) ∧ (∀ (A : SY → Prop) (y1 y2 y3 y4 y5 y6 : Int32) (le be pb pi af ah : Nat → Int32), A (y1, nI fl, y3, y4, y5, y6, le, be, pb, pi, af, ah) → wpY_floor A (y1, y2, y3, y4, y5, y6, le, be, pb, pi, af, ah) p) := by
  by_cases h1 : 1 ≤ p
  · have h0 : ¬ p < 0 := fun q => by
      rw [Int32.lt_iff_toInt_lt] at q
      rw [Int32.le_iff_toInt_le] at h1
      have a : (1 : Int32).toInt = 1 := by decide
      have b : (0 : Int32).toInt = 0 := by decide
      omega
    obtain ⟨j, hj, rfl⟩ := nI_of h0
    have h1' : 1 ≤ j := (nI_leI (a := 1) (by decide) hj).mp h1
    by_cases h9 : nI j ≤ 9
    · have h9' : j ≤ 9 := (nI_leI (b := 9) hj (by decide)).mp h9
      exact ⟨j, ⟨h1', h9'⟩, fun A hA => br_t h1 (br_t h9 hA), fun A y1 y2 y3 y4 y5 y6 le be pb pi af ah hA => br_t h1 (br_t h9 hA)⟩
    · exact ⟨9, by decide, fun A hA => br_t h1 (br_f h9 hA), fun A y1 y2 y3 y4 y5 y6 le be pb pi af ah hA => br_t h1 (br_f h9 hA)⟩
  · exact ⟨1, by decide, fun A hA => br_f h1 hA, fun A y1 y2 y3 y4 y5 y6 le be pb pi af ah hA => br_f h1 hA⟩
theorem rl_cn0 {K c : Nat} {L : Nat → Nat} {B : Nat → Prop} : sn_cn K L B 0 c = 0 := rfl
theorem i_vc0 (k0 : Int32) (k1 : Int32) : wpX_init (fun u => wpY_init (fun v => i_Rel 2 u v) k0 k1) k0 k1 := by
  obtain ⟨fl, hf, A, A'⟩ := rl_fl k1
  have F : ∀ K M T, cb_G K M T → rl_F K M T fl 0 0 0 (fun _ => 0) (fun _ => 0) (fun _ => False) (fun _ => 0) (fun _ => 0) (fun _ => 0) (fun _ => 0) 0 := fun K M T g =>
    ⟨g, hf, by omega, fun i => rfl, fun i => (by decide : (0 : Nat) < 4), fun i => ⟨fun _ q => q, fun _ => rfl⟩, fun i => rfl, fun i => (by decide : (0 : Nat) < 4), by omega, ⟨by omega, by omega, fun i h0 hi => by omega, fun _ h => by omega, ⟨fun _ => rfl, fun _ => rfl⟩⟩, fun c hc => rfl⟩
  by_cases h : 3 < k0
  · refine br_t h (nm_r (e' := nI 1023) (by decide) (nm_r (e' := nI 256) (by decide) (A _ (br_t h (A' _ _ _ _ _ _ _ _ _ _ _ _ _ ?_)))))
    exact rl_mk (F 5 1024 256 (Or.inr ⟨rfl, rfl, rfl⟩))
  · refine br_f h (nm_r (e' := nI 63) (by decide) (nm_r (e' := nI 16) (by decide) (A _ (br_f h (A' _ _ _ _ _ _ _ _ _ _ _ _ _ ?_)))))
    exact rl_mk (F 3 64 16 (Or.inl ⟨rfl, rfl, rfl⟩))
theorem i_vc_endRead {k : Nat} {u : SX} {v : SY} (I : i_Rel k u v) (hk : k + 2 ≤ 1026) : wpX_endRead (fun u' => wpY_endRead (fun v' => i_Rel (k + 2) u' v') v) u := by
  obtain ⟨K, M, T, fl, t, rl, pl, L, P, B, cs, le, be, pb, pi, af, ah, op, np, rfl, rfl, g, hf, ht, hL, hL4, hB, hP, hP4, hpl, hT, hc⟩ := I
  refine ⟨K, M, T, fl, t, 0, pl, L, P, B, cs, le, be, pb, pi, af, ah, 0, np, rfl, rfl, g, hf, ht, hL, hL4, hB, hP, hP4, hpl, ⟨by omega, by omega, fun i h0 hi => by omega, fun _ h => by omega, ⟨fun _ => rfl, fun _ => rfl⟩⟩, hc⟩
theorem i_vc_floor {k : Nat} {u : SX} {v : SY} (I : i_Rel k u v) (hk : k + 2 ≤ 1026) (v1 : Int32) : wpX_floor (fun u' => wpY_floor (fun v' => i_Rel (k + 2) u' v') v v1) u v1 := by
  obtain ⟨K, M, T, fl, t, rl, pl, L, P, B, cs, le, be, pb, pi, af, ah, op, np, rfl, rfl, g, hf, h⟩ := I
  obtain ⟨fl', hf', A, A'⟩ := rl_fl v1
  unfold wpX_floor
  dsimp only
  refine A _ ?_
  exact A' _ _ _ _ _ _ _ _ _ _ _ _ _ (rl_mk ⟨g, hf', h⟩)
section
variable {K M T fl t rl pl : Nat} {L P : Nat → Nat} {B : Nat → Prop} {cs le be pb pi af ah : Nat → Int32} {op np : Int32} {x5 x6 x7 x8 x9 y2 y3 y4 y5 y6 : Int32}
theorem rl_S (ht : t ≤ 96) (hf : fl ≤ 9) (hc : ∀ c, c < M → cs c = nI (sn_cn K L B t c)) : ∀ c, c < M → (cs c < nI fl ↔ ¬ fl ≤ sn_cn K L B t c) := fun c h => by
  have b : sn_cn K L B t c ≤ t := wk_ct_b t
  rw [hc c h, nI_ltI (by omega) (by omega)]
  omega
theorem rl_m (g : cb_G K M T) : ∀ c, c < M → fl ≤ sn_cn K L B t c → fl ≤ sn_cn K L B t (cb_mr K c) := fun c h q => by
  have e : sn_cn K L B t c = sn_cn K L B t (cb_mr K c) := wk_ct_c fun p hp => by
    unfold sn_hit
    rw [cb_mr_mr g h]
    exact ⟨fun ⟨s, v, z⟩ => ⟨s, v, z.symm⟩, fun ⟨s, v, z⟩ => ⟨s, v, z.symm⟩⟩
  rw [← e]
  exact q
theorem rl_pr (g : cb_G K M T) (hP4 : ∀ i, P i < 4) (hpl : pl ≤ K) : cb_cd P 0 pl < M := by
  rw [← (cb_K g).2.2.2.2.2.2]
  exact Nat.lt_of_lt_of_le (cb_cd_lt hP4 pl) (Nat.pow_le_pow_right (by decide) hpl)
theorem xs_withL {post : Int32 → Prop} (g : cb_G K M T) {r : Nat} (hr : r < M) (v1 : Int32) (hp : post (nI ((r * 4 + cb_l v1) % M))) :
    wpX_withLetter post (nI K, nI (M - 1), nI T, y2, x5, x6, x7, x8, x9, cs) (nI r) v1 := by
  have k := cb_K g
  have l4 := cb_l4 v1
  unfold wpX_withLetter
  dsimp only
  rw [cb_and3, cb_or (by omega) l4, cb_mask g (by omega)]
  exact hp
theorem xs_longer {post : Int32 → Prop} (g : cb_G K M T) {n : Nat} (hn : n ≤ K) (hp : ∀ m, (n < K ∧ m = n + 1) ∨ (n = K ∧ m = K) → post (nI m)) :
    wpX_oneLonger post (nI K, nI (M - 1), nI T, y2, x5, x6, x7, x8, x9, cs) (nI n) := by
  have k := cb_K g
  unfold wpX_oneLonger
  dsimp only
  rw [nI_1]
  exact pk_le K n (fun h => hp K (Or.inr ⟨by omega, rfl⟩)) (fun h => hp (n + 1) (Or.inl ⟨by omega, rfl⟩)) rfl rfl (by omega) (by omega)
theorem ys_probe51 {post : Int32 → SY → Prop} {n : Nat} (hn : n < 5) (v1 : Int32) (hp : post (nI (n + 1)) (nI K, y2, y3, y4, nI (n + 1), y6, le, be, upd pb n (nI (cb_l v1)), pi, af, ah)) :
    wY_probe_51 post v1 (nI K) y2 y3 y4 (nI n) y6 le be pb pi af ah := by
  refine ⟨vp_in_nI hn (by decide), nm_e (nm_r (nI_1 n) ?_)⟩
  rw [nI_clamp (by omega), cb_and3]
  exact hp
theorem ys_probeL {post : Int32 → SY → Prop} (hK3 : 3 ≤ K) (hK : K ≤ 5) (v1 : Int32)
    (hp : ∀ pb, (∀ j, pb j = nI (if j + 1 < K then P (j + 1) else P j)) → wY_probe_51 post v1 (nI K) y2 y3 y4 (nI (K - 1)) y6 le be pb pi af ah) :
    ∀ d i pb, i + d = K → 1 ≤ i → (∀ j, pb j = nI (if j + 1 < i then P (j + 1) else P j)) → wY_probe_13 post v1 (nI K) y2 y3 y4 (nI K) y6 (d + 1) (nI i) le be pb pi af ah := by
  intro d
  induction d with
  | zero =>
    intro i pb hi h1 h
    cases show i = K from by omega
    exact br_t (nI_le (by omega) (by omega)) (nm_r (pk_sub (b := 1) (by omega)) (hp pb h))
  | succ d ih =>
    intro i pb hi h1 h
    have e : nI i - 1 = nI (i - 1) := pk_sub (b := 1) (by omega)
    refine br_f (nI_ge (by omega) (by omega)) ⟨vp_in_nI (by omega) (by decide), ?_, nm_e (nm_r (nI_1 i) ?_)⟩
    · rw [e]
      exact vp_in_nI (by omega) (by decide)
    · rw [e, nI_clamp (by omega), nI_clamp (by omega)]
      refine ih (i + 1) _ (by omega) (by omega) (fun j => ?_)
      by_cases z : j = i - 1
      · subst z
        rw [pk_us, h i, if_neg (by omega), if_pos (by omega), show i - 1 + 1 = i from by omega]
      · rw [pk_un z, h j]
        by_cases w : j + 1 < i
        · rw [if_pos w, if_pos (by omega)]
        · rw [if_neg w, if_neg (by omega)]
theorem ys_probe {post : Int32 → SY → Prop} (g : cb_G K M T) (hP : ∀ i, pb i = nI (P i)) (hP4 : ∀ i, P i < 4) (hpl : pl ≤ K) (v1 : Int32)
    (hp : ∀ pb' P' m, (∀ i, pb' i = nI (P' i)) → (∀ i, P' i < 4) → m ≤ K → (pl < K ∧ m = pl + 1) ∨ (pl = K ∧ m = K) → cb_cd P' 0 m = (cb_cd P 0 pl * 4 + cb_l v1) % M → post (nI m) (nI K, y2, y3, y4, nI m, y6, le, be, pb', pi, af, ah)) :
    wpY_probe post (nI K, y2, y3, y4, nI pl, y6, le, be, pb, pi, af, ah) v1 := by
  have k := cb_K g
  have l4 := cb_l4 v1
  unfold wpY_probe
  dsimp only
  refine pk_eq pl K (fun e => ?_) (fun ne => ?_) rfl rfl (by omega) (by omega)
  · subst e
    refine ⟨pl - 1 + 1, ys_probeL (P := P) (by omega) (by omega) v1 (fun pb' h => ys_probe51 (by omega) v1 ?_) (pl - 1) 1 pb (by omega) (by omega) (fun j => by rw [if_neg (by omega), hP])⟩
    rw [show pl - 1 + 1 = pl from by omega]
    refine hp _ (fun j => if j = pl - 1 then cb_l v1 else if j + 1 < pl then P (j + 1) else P j) pl (fun i => ?_) (fun i => ?_) (by omega) (Or.inr ⟨rfl, rfl⟩) ?_
    · try dsimp only
      by_cases z : i = pl - 1
      · rw [if_pos z]; subst z; exact pk_us
      · rw [if_neg z, pk_un z, h]
    · try dsimp only
      split
      · exact l4
      · split
        · exact hP4 _
        · exact hP4 _
    · have a := cb_cd_sh (L := fun j => if j = pl then cb_l v1 else P j) (fun i => by
        try dsimp only
        split
        · exact l4
        · exact hP4 _) (p := 0) pl
      have b : cb_cd (fun j => if j = pl then cb_l v1 else P j) 0 pl = cb_cd P 0 pl := cb_cd_c fun i hi => by
        try dsimp only
        rw [if_neg (by omega)]
      have c : cb_cd (fun j => if j = pl - 1 then cb_l v1 else if j + 1 < pl then P (j + 1) else P j) 0 pl = cb_cd (fun j => if j = pl then cb_l v1 else P j) (0 + 1) pl := cb_cd_c fun i hi => by
        try dsimp only
        by_cases z : i = pl - 1
        · rw [if_pos (by omega), if_pos (by omega)]
        · rw [if_neg (by omega), if_pos (by omega), if_neg (by omega)]
          congr 1
          omega
      rw [c, a, b, k.2.2.2.2.2.2]
      try dsimp only
      rw [if_pos (by omega)]
  · refine ys_probe51 (by omega) v1 (hp _ (fun j => if j = pl then cb_l v1 else P j) (pl + 1) (fun i => ?_) (fun i => ?_) (by omega) (Or.inl ⟨by omega, rfl⟩) ?_)
    · try dsimp only
      by_cases z : i = pl
      · rw [if_pos z]; subst z; exact pk_us
      · rw [if_neg z, pk_un z, hP]
    · try dsimp only
      split
      · exact l4
      · exact hP4 _
    · have b : cb_cd (fun j => if j = pl then cb_l v1 else P j) 0 pl = cb_cd P 0 pl := cb_cd_c fun i hi => by
        try dsimp only
        rw [if_neg (by omega)]
      have q : 4 ^ pl * 4 ≤ M := by
        rw [← k.2.2.2.2.2.2, ← Nat.pow_succ]
        exact Nat.pow_le_pow_right (by decide) (by omega)
      have r := cb_cd_lt hP4 (p := 0) pl
      show cb_cd (fun j => if j = pl then cb_l v1 else P j) 0 pl * 4 + (if 0 + pl = pl then cb_l v1 else P (0 + pl)) = _
      rw [b, if_pos (by omega), Nat.mod_eq_of_lt (by omega)]
theorem ys_probed {post : Int32 → SY → Prop} (h : rl_F K M T fl t rl pl L P B cs le be pb op)
    (hp1 : ∀ n Q pi af ah x, ga_Q M n Q (fun c => fl ≤ sn_cn K L B t c) → (∀ j, j < n → pi j = nI (Q j)) → ga_T n af (ga_R n Q (lk_R K M T (fun c => fl ≤ sn_cn K L B t c))) → ga_T n ah (wk_Cv (ga_R n Q (lk_R K M T (fun c => fl ≤ sn_cn K L B t c)))) → x < n → pl = K → Q x = cb_cd P 0 pl → post (nI x) (nI K, nI fl, nI t, op, nI pl, nI n, le, be, pb, pi, af, ah))
    (hp0 : ∀ n pi af ah, ¬ (pl = K ∧ fl ≤ sn_cn K L B t (cb_cd P 0 pl)) → post (-1) (nI K, nI fl, nI t, op, nI pl, nI n, le, be, pb, pi, af, ah)) :
    wpY_probed post (nI K, nI fl, nI t, op, nI pl, np, le, be, pb, pi, af, ah) := by
  obtain ⟨g, hf, ht, hL, hL4, hB, hP, hP4, hpl, hT, hc⟩ := h
  have k := cb_K g
  have pM := rl_pr g hP4 hpl
  unfold wpY_probed
  dsimp only
  refine ys_gather g ht hf.1 hf.2 hL hL4 hB (fun c => Iff.rfl) (rl_m g) (fun n Q pi af ah hq hpi h1 h2 => ?_)
  dsimp only
  refine ys_code (by omega) (by omega) hP (fun e => ys_find hq.1 (fun i hi q => ?_) (fun no => hp0 n pi af ah fun q => ?_)) (fun ne => ys_find hq.1 (fun i hi q => ?_) (fun no => hp0 n pi af ah fun q => ne q.1))
  · rw [hpi i hi] at q
    exact hp1 n Q pi af ah i hq hpi h1 h2 hi e ((nI_eq (by have := (hq.2.1 i hi).1; omega) (by omega)).mp q)
  · obtain ⟨j, hj, e'⟩ := hq.2.2.2 _ pM q.2
    exact no j hj (by rw [hpi j hj, e'])
  · rw [hpi i hi] at q
    exact (cb_nm (by have := (hq.2.1 i hi).1; omega) q).elim
theorem xs_probeSolid {post : Int32 → Prop} (h : rl_F K M T fl t rl pl L P B cs le be pb op)
    (h1 : pl = K → fl ≤ sn_cn K L B t (cb_cd P 0 pl) → post 1) (h0 : ¬ (pl = K ∧ fl ≤ sn_cn K L B t (cb_cd P 0 pl)) → post 0) :
    wpX_probeIsSolid post (nI K, nI (M - 1), nI T, nI fl, x5, x6, x7, nI (cb_cd P 0 pl), nI pl, cs) := by
  obtain ⟨g, hf, ht, hL, hL4, hB, hP, hP4, hpl, hT, hc⟩ := h
  have k := cb_K g
  unfold wpX_probeIsSolid
  dsimp only
  exact pk_eq pl K (fun e => xs_isSolid g (rl_S ht hf.2 hc) (rl_pr g hP4 hpl) (fun s => br_f (by decide) (h1 e s)) (fun s => br_t rfl (h0 fun q => s q.2))) (fun ne => h0 fun q => ne q.1) rfl rfl (by omega) (by omega)
end

section
variable {n x : Nat} {y1 y2 y3 y4 y5 y6 : Int32} {le be pb pi af ah : Nat → Int32} {R : Nat → Nat → Prop} {post : Int32 → Prop}
theorem ys_walkL {fw : Int32} {A : Nat → Int32} (hn : n ≤ 192) (hA : (fw = 1 ∧ A = af) ∨ (fw = 0 ∧ A = ah)) (hT : ga_T n A R) (pI : wk_PI R n) (hx : x < n)
    (h1 : ∀ m e, m < n → wk_End R x m e → post (nI m)) (h2 : ∀ m, m ≤ n → wk_Ring R x m → post (nI (m - 1))) :
    ∀ d i a, i + d = n → a < n → wk_It R i x a → (∀ j, 0 < j → j ≤ i → ¬ wk_It R j x x) → wY_walk_5 post (nI x) fw y1 y2 y3 y4 y5 y6 le be pb pi af ah (d + 1) (nI a) (nI i) := by
  intro d
  induction d with
  | zero =>
    intro i a hi ha w nr
    have := wk_bound pI hx w nr
    omega
  | succ d ih =>
    intro i a hi ha w nr
    have bd := wk_bound pI hx w nr
    have J : wY_walk_32 post (wY_walk_5 post (nI x) fw y1 y2 y3 y4 y5 y6 le be pb pi af ah (d + 1)) (nI x) fw (nI i) (A (nI a).toNatClampNeg) y1 y2 y3 y4 y5 y6 le be pb pi af ah := by
      rw [nI_clamp (by omega)]
      rcases hT a ha with ⟨b, e, r⟩ | ⟨e, no⟩
      · rw [e]
        have bn := (pI.2.2 _ _ r).2
        have w1 : wk_It R (i + 1) x b := ⟨a, w, r⟩
        refine br_f (nI_pos (by omega)) (pk_eq b x (fun q => ?_) (fun ne => nm_r (nI_1 i) (ih (i + 1) b (by omega) bn w1 (fun j h0 hj q => ?_))) rfl rfl (by omega) (by omega))
        · subst q
          exact h2 (i + 1) (by omega) ⟨by omega, w1, fun j h0 hj => nr j h0 (by omega)⟩
        · rcases Nat.lt_or_ge i j with z | z
          · cases show j = i + 1 from by omega
            exact ne (wk_fun pI w1 q)
          · exact nr j h0 z q
      · rw [e]
        exact br_t (by decide) (h1 i a bd ⟨w, no⟩)
    refine br_f (nI_ge (b := 192) (by omega) (by decide)) ?_
    rcases hA with ⟨rfl, rfl⟩ | ⟨rfl, rfl⟩
    · exact br_f (by decide) ⟨vp_in_nI (by omega) (by decide), J⟩
    · exact br_t rfl ⟨vp_in_nI (by omega) (by decide), J⟩
theorem ys_walkF (hn : n ≤ 192) (hT : ga_T n af R) (pI : wk_PI R n) (hx : x < n)
    (h1 : ∀ m e, m < n → wk_End R x m e → post (nI m)) (h2 : ∀ m, m ≤ n → wk_Ring R x m → post (nI (m - 1))) : wpY_walk post (y1, y2, y3, y4, y5, y6, le, be, pb, pi, af, ah) (nI x) 1 :=
  ⟨n + 1, ys_walkL hn (Or.inl ⟨rfl, rfl⟩) hT pI hx h1 h2 n 0 x (by omega) hx rfl (fun j h0 hj => by omega)⟩
theorem ys_walkB (hn : n ≤ 192) (hT : ga_T n ah R) (pI : wk_PI R n) (hx : x < n)
    (h1 : ∀ m e, m < n → wk_End R x m e → post (nI m)) (h2 : ∀ m, m ≤ n → wk_Ring R x m → post (nI (m - 1))) : wpY_walk post (y1, y2, y3, y4, y5, y6, le, be, pb, pi, af, ah) (nI x) 0 :=
  ⟨n + 1, ys_walkL hn (Or.inr ⟨rfl, rfl⟩) hT pI hx h1 h2 n 0 x (by omega) hx rfl (fun j h0 hj => by omega)⟩
theorem ys_ringL (hn : n ≤ 192) (hT : ga_T n af R) (pI : wk_PI R n) (hx : x < n) (h1 : ∀ m e, wk_End R x m e → post 0) (h2 : ∀ m, wk_Ring R x m → post 1) :
    ∀ d i a, i + d = n → a < n → wk_It R i x a → (∀ j, 0 < j → j ≤ i → ¬ wk_It R j x x) → wY_ring_4 post (nI x) y1 y2 y3 y4 y5 y6 le be pb pi af ah (d + 1) (nI a) (nI i) := by
  intro d
  induction d with
  | zero =>
    intro i a hi ha w nr
    have := wk_bound pI hx w nr
    omega
  | succ d ih =>
    intro i a hi ha w nr
    have bd := wk_bound pI hx w nr
    refine br_f (nI_ge (b := 192) (by omega) (by decide)) ⟨vp_in_nI (by omega) (by decide), ?_⟩
    rw [nI_clamp (by omega)]
    rcases hT a ha with ⟨b, e, r⟩ | ⟨e, no⟩
    · have bn := (pI.2.2 _ _ r).2
      have w1 : wk_It R (i + 1) x b := ⟨a, w, r⟩
      refine nm_r e (br_t (nI_pos' (by omega)) (pk_eq b x (fun q => ?_) (fun ne => nm_r (nI_1 i) (ih (i + 1) b (by omega) bn w1 (fun j h0 hj q => ?_))) rfl rfl (by omega) (by omega)))
      · subst q
        exact h2 (i + 1) ⟨by omega, w1, fun j h0 hj => nr j h0 (by omega)⟩
      · rcases Nat.lt_or_ge i j with z | z
        · cases show j = i + 1 from by omega
          exact ne (wk_fun pI w1 q)
        · exact nr j h0 z q
    · exact nm_r e (br_f (by decide) (h1 i a ⟨w, no⟩))
theorem ys_ring (hn : n ≤ 192) (hT : ga_T n af R) (pI : wk_PI R n) (hx : x < n) (h1 : ∀ m e, wk_End R x m e → post 0) (h2 : ∀ m, wk_Ring R x m → post 1) : wpY_ring post (y1, y2, y3, y4, y5, y6, le, be, pb, pi, af, ah) (nI x) :=
  ⟨n + 1, ys_ringL hn hT pI hx h1 h2 n 0 x (by omega) hx rfl (fun j h0 hj => by omega)⟩
theorem ys_length (hn : n ≤ 192) (hT : ga_T n af R) (hT' : ga_T n ah (wk_Cv R)) (pI : wk_PI R n) (hx : x < n) (hp : ∀ m, m ≤ 400 → wk_Len R x m → post (nI m)) : wpY_length post (y1, y2, y3, y4, y5, y6, le, be, pb, pi, af, ah) (nI x) := by
  unfold wpY_length
  dsimp only
  refine ys_walkF hn hT pI hx (fun a d ha x1 => ys_ring hn hT pI hx (fun _ _ _ => br_t rfl (ys_walkB hn hT' (wk_cvP pI) hx (fun b e hb x2 => ?_) (fun m _ x2 => ?_))) (fun m x2 => ?_)) (fun m hm x1 => ys_ring hn hT pI hx (fun a d x2 => ?_) (fun m' x2 => br_f (by decide) ?_))
  · rw [nI_add, nI_1]
    exact hp _ (by omega) (Or.inr ⟨a, b, d, e, x1, x2, rfl⟩)
  · exact (wk_endNo pI x1 (wk_ringCv' x2)).elim
  · exact (wk_endNo pI x1 x2).elim
  · exact (wk_endNo pI x2 x1).elim
  · have m0 := x1.1
    rw [nI_1, show m - 1 + 1 = m from by omega]
    exact hp m (by omega) (Or.inl x1)
theorem ys_leadsL (hn : n ≤ 192) (hT : ga_T n af R) (pI : wk_PI R n) (hx : x < n) {m : Nat} (rg : wk_Ring R x m) (h1 : wk_Rep R (fun z => z) x → post 1) (h0 : ¬ wk_Rep R (fun z => z) x → post 0) :
    ∀ d i a, i + d = n → a < n → wk_It R i x a → (∀ j, 0 < j → j ≤ i → ¬ wk_It R j x x) → (∀ j y, j ≤ i → wk_It R j x y → x ≤ y) → wY_leads_27 post (nI x) y1 y2 y3 y4 y5 y6 le be pb pi af ah (d + 1) (nI a) (nI i) := by
  intro d
  induction d with
  | zero =>
    intro i a hi ha w nr ml
    have := wk_bound pI hx w nr
    omega
  | succ d ih =>
    intro i a hi ha w nr ml
    have bd := wk_bound pI hx w nr
    refine br_f (nI_ge (b := 192) (by omega) (by decide)) ⟨vp_in_nI (by omega) (by decide), ?_⟩
    rw [nI_clamp (by omega)]
    rcases hT a ha with ⟨b, e, r⟩ | ⟨e, no⟩
    · have bn := (pI.2.2 _ _ r).2
      have w1 : wk_It R (i + 1) x b := ⟨a, w, r⟩
      refine nm_r e (pk_le x b (fun le => pk_eq b x (fun q => ?_) (fun ne => nm_r (nI_1 i) (ih (i + 1) b (by omega) bn w1 (fun j h0 hj q => ?_) (fun j y hj hy => ?_))) rfl rfl (by omega) (by omega)) (fun lt => br_t (nI_pos' (by omega)) (h0 fun rp => ?_)) rfl rfl (by omega) (by omega))
      · subst q
        have rg' : wk_Ring R b (i + 1) := ⟨by omega, w1, fun j h0 hj => nr j h0 (by omega)⟩
        refine h1 (Or.inr ⟨⟨m, rg⟩, fun j y hy => ?_⟩)
        obtain ⟨j', hj', hy'⟩ := wk_small pI rg' hy
        exact ml j' y (by omega) hy'
      · rcases Nat.lt_or_ge i j with z | z
        · cases show j = i + 1 from by omega
          exact ne (wk_fun pI w1 q)
        · exact nr j h0 z q
      · rcases Nat.lt_or_ge i j with z | z
        · cases show j = i + 1 from by omega
          cases wk_fun pI w1 hy
          exact le
        · exact ml j y z hy
      · rcases rp with rp | ⟨_, rp⟩
        · obtain ⟨z, hz⟩ := wk_prev rg
          exact rp _ hz
        · have : x ≤ b := rp _ _ w1
          omega
    · obtain ⟨b, hb⟩ := wk_next pI rg w
      exact (no b hb).elim
theorem ys_leads (hn : n ≤ 192) (hT : ga_T n af R) (hT' : ga_T n ah (wk_Cv R)) (pI : wk_PI R n) (hx : x < n) (h1 : wk_Rep R (fun z => z) x → post 1) (h0 : ¬ wk_Rep R (fun z => z) x → post 0) : wpY_leads post (y1, y2, y3, y4, y5, y6, le, be, pb, pi, af, ah) (nI x) := by
  unfold wpY_leads
  dsimp only
  refine ys_ring hn hT pI hx (fun m e x1 => br_t rfl ⟨vp_in_nI (by omega) (by decide), ?_⟩) (fun m rg => br_f (by decide) ⟨n + 1, ys_leadsL hn hT pI hx rg h1 h0 n 0 x (by omega) hx rfl (fun j h0 hj => by omega) (fun j y hj hy => ?_)⟩)
  · rw [nI_clamp (by omega)]
    rcases hT' x hx with ⟨b, e, r⟩ | ⟨e, no⟩
    · rw [e]
      have bn := (pI.2.2 _ _ r).1
      refine br_t (nI_pos' (by omega)) (h0 fun rp => ?_)
      rcases rp with rp | ⟨⟨m', rp⟩, _⟩
      · exact rp b r
      · exact wk_endNo pI x1 rp
    · rw [e]
      exact br_f (by decide) (h1 (Or.inl no))
  · cases show j = 0 from by omega
    cases hy
    exact Nat.le_refl _
theorem ys_chainsL {post : Int32 → SY → Prop} (hn : n ≤ 192) (hT : ga_T n af R) (hT' : ga_T n ah (wk_Cv R)) (pI : wk_PI R n)
    (hp : post (nI (wk_ct (wk_Rep R (fun z => z)) n) / 2) (y1, y2, y3, y4, y5, nI n, le, be, pb, pi, af, ah)) :
    ∀ d i, i + d = n → wY_chains_8 post y1 y2 y3 y4 y5 (nI n) le be pb pi af ah (d + 1) (nI (wk_ct (wk_Rep R (fun z => z)) i)) (nI i) := by
  intro d
  induction d with
  | zero =>
    intro i hi
    cases show i = n from by omega
    exact br_t (nI_le (by omega) (by omega)) ⟨by decide, hp⟩
  | succ d ih =>
    intro i hi
    refine br_f (nI_ge (by omega) (by omega)) (ys_leads hn hT hT' pI (by omega) (fun rp => br_f (by decide) (nm_r (nI_1 _) (nm_r (nI_1 i) ?_))) (fun rp => br_t rfl (nm_r (nI_1 i) ?_)))
    · rw [← wk_ct_t rp]; exact ih (i + 1) (by omega)
    · rw [← wk_ct_f rp]; exact ih (i + 1) (by omega)
/-- what Y's greatest is after the places below i -/
def ys_Mx (R : Nat → Nat → Prop) (i v : Nat) : Prop := v ≤ 400 ∧ (∀ x m, x < i → wk_Len R x m → m ≤ v) ∧ (v = 0 ∨ ∃ x, x < i ∧ wk_Len R x v)
theorem ys_longestL {post : Int32 → SY → Prop} (hn : n ≤ 192) (hT : ga_T n af R) (hT' : ga_T n ah (wk_Cv R)) (pI : wk_PI R n)
    (hp : ∀ v, ys_Mx R n v → post (nI v) (y1, y2, y3, y4, y5, nI n, le, be, pb, pi, af, ah)) :
    ∀ d i v, i + d = n → ys_Mx R i v → wY_longest_8 post y1 y2 y3 y4 y5 (nI n) le be pb pi af ah (d + 1) (nI v) (nI i) := by
  intro d
  induction d with
  | zero =>
    intro i v hi hv
    cases show i = n from by omega
    exact br_t (nI_le (by omega) (by omega)) (hp v hv)
  | succ d ih =>
    intro i v hi hv
    have v4 := hv.1
    refine br_f (nI_ge (by omega) (by omega)) (ys_length hn hT hT' pI (by omega) (fun m hm hl => ?_))
    refine pk_le m v (fun le => nm_r (nI_1 i) (ih (i + 1) v (by omega) ⟨v4, fun x m' hx hl' => ?_, ?_⟩)) (fun lt => nm_r (nI_1 i) (ih (i + 1) m (by omega) ⟨hm, fun x m' hx hl' => ?_, Or.inr ⟨i, by omega, hl⟩⟩)) rfl rfl (by omega) (by omega)
    · rcases Nat.lt_or_ge x i with z | z
      · exact hv.2.1 x m' z hl'
      · cases show x = i from by omega
        cases wk_lenU pI hl hl'
        exact le
    · rcases hv.2.2 with z | ⟨x, hx, z⟩
      · exact Or.inl z
      · exact Or.inr ⟨x, by omega, z⟩
    · rcases Nat.lt_or_ge x i with z | z
      · have := hv.2.1 x m' z hl'
        omega
      · cases show x = i from by omega
        cases wk_lenU pI hl hl'
        exact Nat.le_refl _
end

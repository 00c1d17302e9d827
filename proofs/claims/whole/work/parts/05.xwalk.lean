theorem wk_split {R : Nat → Nat → Prop} {N : Nat} (h : wk_PI R N) {c b e m d : Nat} (x : wk_End (wk_Cv R) c b e) (y : wk_End R e m d) : ∃ a, wk_End R c a d ∧ m = b + a := by
  have x1 := wk_cv' x.1
  rcases Nat.lt_or_ge m b with z | z
  · obtain ⟨p, ⟨q, a1, r⟩, _⟩ := wk_pre (j := m + 1) x1 z
    cases wk_fun h a1 y.1
    exact (y.2 _ r).elim
  · obtain ⟨p, a1, a2⟩ := wk_pre y.1 z
    cases wk_fun h a1 x1
    exact ⟨m - b, ⟨a2, y.2⟩, by omega⟩
section
variable {K M T fl : Nat} {x5 x6 x7 x8 x9 : Int32} {cs : Nat → Int32} {S : Nat → Prop} {post : Int32 → Prop}
theorem xs_startL (g : cb_G K M T) (hS : ∀ c, c < M → (cs c < nI fl ↔ ¬ S c)) {c : Nat} (hc : c < M)
    (h1 : ∀ m e, e < M → wk_End (wk_Cv (lk_R K M T S)) c m e → post (nI e))
    (h2 : ∀ m l, l < M → wk_Ring (lk_R K M T S) c m → (∃ j, wk_It (lk_R K M T S) j l c) → (∀ j e, wk_It (lk_R K M T S) j e c → l ≤ e) → post (nI l)) :
    ∀ d i l r, i + d = M → r < M → wk_It (lk_R K M T S) i r c → (∀ j, 0 < j → j ≤ i → ¬ wk_It (lk_R K M T S) j c c) → l < M → (∃ j, wk_It (lk_R K M T S) j l c) → (∀ j e, j ≤ i → wk_It (lk_R K M T S) j e c → l ≤ e) →
    wX_startOfChain_7 post (nI c) (nI K) (nI (M - 1)) (nI T) (nI fl) x5 x6 x7 x8 x9 cs (d + 1) (nI l) (nI r) (nI i) := by
  have k := cb_K g
  have pi := lk_PI (K := K) (M := M) (T := T) (S := S)
  intro d
  induction d with
  | zero =>
    intro i l r hi hr w nr hl el ml
    have := wk_bound (wk_cvP pi) hc (wk_cv w) (fun j h0 hj z => nr j h0 hj (wk_cv' z))
    omega
  | succ d ih =>
    intro i l r hi hr w nr hl el ml
    refine br_f (nI_nlt (by omega) (by omega)) (xs_linkedBefore g hS hr (fun z hz => br_f (cb_nm ?_) ?_) (fun no => br_t rfl (h1 i r hr ⟨wk_cv w, fun d' => no d'⟩)))
    · have := (pi.2.2 _ _ hz).1
      omega
    · have zM := (pi.2.2 _ _ hz).1
      have w1 : wk_It (lk_R K M T S) (i + 1) z c := by rw [Nat.add_comm]; exact wk_app (wk_one hz) w
      refine pk_eq z c (fun e => ?_) (fun ne => ?_) rfl rfl (by omega) (by omega)
      · subst e
        have rg : wk_Ring (lk_R K M T S) z (i + 1) := ⟨by omega, w1, fun j h0 hj => nr j h0 (by omega)⟩
        refine h2 (i + 1) l hl rg el (fun j e he => ?_)
        obtain ⟨j', hj', he'⟩ := wk_small (wk_cvP pi) (wk_ringCv rg) (wk_cv he)
        exact ml j' e (by omega) (wk_cv' he')
      · have nr' : ∀ j, 0 < j → j ≤ i + 1 → ¬ wk_It (lk_R K M T S) j c c := fun j h0 hj q => by
          rcases Nat.lt_or_ge i j with z1 | z1
          · have : j = i + 1 := by omega
            subst this
            exact ne (wk_inj pi w1 q)
          · exact nr j h0 z1 q
        refine pk_le l z (fun le => nm_r (nI_1 i) (ih (i + 1) l z (by omega) zM w1 nr' hl el (fun j e hj he => ?_))) (fun lt => nm_r (nI_1 i) (ih (i + 1) z z (by omega) zM w1 nr' zM ⟨_, w1⟩ (fun j e hj he => ?_))) rfl rfl (by omega) (by omega)
        · rcases Nat.lt_or_ge i j with z1 | z1
          · have : j = i + 1 := by omega
            subst this
            cases wk_inj pi w1 he
            exact le
          · exact ml j e z1 he
        · rcases Nat.lt_or_ge i j with z1 | z1
          · have : j = i + 1 := by omega
            subst this
            cases wk_inj pi w1 he
            exact Nat.le_refl _
          · have := ml j e z1 he
            omega
theorem xs_start (g : cb_G K M T) (hS : ∀ c, c < M → (cs c < nI fl ↔ ¬ S c)) {c : Nat} (hc : c < M)
    (h1 : ∀ m e, e < M → wk_End (wk_Cv (lk_R K M T S)) c m e → post (nI e))
    (h2 : ∀ m l, l < M → wk_Ring (lk_R K M T S) c m → (∃ j, wk_It (lk_R K M T S) j l c) → (∀ j e, wk_It (lk_R K M T S) j e c → l ≤ e) → post (nI l)) :
    wpX_startOfChain post (nI K, nI (M - 1), nI T, nI fl, x5, x6, x7, x8, x9, cs) (nI c) :=
  ⟨M + 1, xs_startL g hS hc h1 h2 M 0 c c (by omega) hc rfl (fun j h0 hj => by omega) hc ⟨0, rfl⟩ (fun j e hj he => by
    have : j = 0 := by omega
    subst this
    cases he
    exact Nat.le_refl _)⟩
theorem xs_lenL (g : cb_G K M T) (hS : ∀ c, c < M → (cs c < nI fl ↔ ¬ S c)) {s : Nat} (hs : s < M)
    (h1 : ∀ m e, m < M → wk_End (lk_R K M T S) s m e → post (nI (m + 1)))
    (h2 : ∀ m, m ≤ M → wk_Ring (lk_R K M T S) s m → post (nI m)) :
    ∀ d i r x, i + d = M → r < M → wk_It (lk_R K M T S) i s r → (∀ j, 0 < j → j ≤ i → ¬ wk_It (lk_R K M T S) j s s) → ((∃ z, lk_R K M T S r z ∧ x = nI z) ∨ (x = -1 ∧ ∀ z, ¬ lk_R K M T S r z)) →
    wX_lengthFrom_8 post (nI s) (nI K) (nI (M - 1)) (nI T) (nI fl) x5 x6 x7 x8 x9 cs (d + 1) (nI (i + 1)) x := by
  have k := cb_K g
  have pi := lk_PI (K := K) (M := M) (T := T) (S := S)
  intro d
  induction d with
  | zero =>
    intro i r x hi hr w nr hx
    have := wk_bound pi hs w nr
    omega
  | succ d ih =>
    intro i r x hi hr w nr hx
    have bd := wk_bound pi hs w nr
    rcases hx with ⟨z, hz, rfl⟩ | ⟨rfl, no⟩
    · have zM := (pi.2.2 _ _ hz).2
      have w1 : wk_It (lk_R K M T S) (i + 1) s z := ⟨r, w, hz⟩
      refine br_f (cb_nm (by omega)) (pk_eq z s (fun e => ?_) (fun ne => ?_) rfl rfl (by omega) (by omega))
      · subst e
        exact h2 (i + 1) (by omega) ⟨by omega, w1, fun j h0 hj => nr j h0 (by omega)⟩
      · have nr' : ∀ j, 0 < j → j ≤ i + 1 → ¬ wk_It (lk_R K M T S) j s s := fun j h0 hj q => by
          rcases Nat.lt_or_ge i j with z1 | z1
          · have : j = i + 1 := by omega
            subst this
            exact ne (wk_fun pi w1 q)
          · exact nr j h0 z1 q
        have bd' := wk_bound pi hs w1 nr'
        refine br_f (nI_nlt (by omega) (by omega)) (nm_r (nI_1 (i + 1)) (xs_linkedAfter g hS zM (fun y hy => ih (i + 1) z _ (by omega) zM w1 nr' (Or.inl ⟨y, hy, rfl⟩)) (fun no => ih (i + 1) z _ (by omega) zM w1 nr' (Or.inr ⟨rfl, no⟩))))
    · exact br_t rfl (h1 i r bd ⟨w, no⟩)
theorem xs_len (g : cb_G K M T) (hS : ∀ c, c < M → (cs c < nI fl ↔ ¬ S c)) {s : Nat} (hs : s < M)
    (h1 : ∀ m e, m < M → wk_End (lk_R K M T S) s m e → post (nI (m + 1)))
    (h2 : ∀ m, m ≤ M → wk_Ring (lk_R K M T S) s m → post (nI m)) :
    wpX_lengthFrom post (nI K, nI (M - 1), nI T, nI fl, x5, x6, x7, x8, x9, cs) (nI s) := by
  unfold wpX_lengthFrom
  dsimp only
  have z : ∀ j, 0 < j → j ≤ 0 → ¬ wk_It (lk_R K M T S) j s s := fun j h0 hj => by omega
  exact xs_linkedAfter g hS hs (fun y hy => ⟨M + 1, xs_lenL g hS hs h1 h2 M 0 s _ (by omega) hs rfl z (Or.inl ⟨y, hy, rfl⟩)⟩) (fun no => ⟨M + 1, xs_lenL g hS hs h1 h2 M 0 s _ (by omega) hs rfl z (Or.inr ⟨rfl, no⟩)⟩)
/-- the length of c's chain, by X -/
theorem xs_chainLen (g : cb_G K M T) (hS : ∀ c, c < M → (cs c < nI fl ↔ ¬ S c)) {c : Nat} (hc : c < M) (hp : ∀ m, wk_Len (lk_R K M T S) c m → post (nI m)) :
    wpX_startOfChain (fun r => wpX_lengthFrom post (nI K, nI (M - 1), nI T, nI fl, x5, x6, x7, x8, x9, cs) r) (nI K, nI (M - 1), nI T, nI fl, x5, x6, x7, x8, x9, cs) (nI c) := by
  have pi := lk_PI (K := K) (M := M) (T := T) (S := S)
  refine xs_start g hS hc (fun b e he x => xs_len g hS he (fun m d _ y => ?_) (fun m _ y => ?_)) (fun m l hl x ⟨j, hj⟩ _ => xs_len g hS hl (fun m' d _ y => ?_) (fun m' _ y => ?_))
  · obtain ⟨a, ha, e⟩ := wk_split pi x y
    refine hp (m + 1) (Or.inr ⟨a, b, _, _, ha, x, by omega⟩)
  · obtain ⟨z, hz⟩ := wk_prev y
    exact (x.2 _ hz).elim
  · exact (wk_endNo pi y (wk_ringB pi x hj)).elim
  · cases wk_ringU y (wk_ringB pi x hj)
    exact hp _ (Or.inl x)
/-- X asks whether c is its own chain's start -/
theorem xs_isStart (g : cb_G K M T) (hS : ∀ c, c < M → (cs c < nI fl ↔ ¬ S c)) {c : Nat} (hc : c < M) {A B : Prop}
    (ha : wk_Rep (lk_R K M T S) (fun x => x) c → A) (hb : ¬ wk_Rep (lk_R K M T S) (fun x => x) c → B) :
    wpX_startOfChain (fun r => (r = nI c → A) ∧ (¬ r = nI c → B)) (nI K, nI (M - 1), nI T, nI fl, x5, x6, x7, x8, x9, cs) (nI c) := by
  have k := cb_K g
  have pi := lk_PI (K := K) (M := M) (T := T) (S := S)
  refine xs_start g hS hc (fun b e he x => pk_eq e c (fun q => ?_) (fun ne => ?_) rfl rfl ?_ ?_) (fun m l hl x el ml => pk_eq l c (fun q => ?_) (fun ne => ?_) rfl rfl ?_ ?_)
  · subst q
    exact ha (Or.inl x.2)
  · refine hb fun rp => ?_
    rcases rp with rp | ⟨⟨m, rp⟩, _⟩
    · cases b with
      | zero => exact ne x.1.symm
      | succ b =>
        obtain ⟨y, ⟨z, y1, r⟩, y2⟩ := wk_pre (j := 1) x.1 (by omega)
        cases y1
        exact rp _ r
    · exact wk_endNo (wk_cvP pi) x (wk_ringCv rp)
  · omega
  · omega
  · subst q
    refine ha (Or.inr ⟨⟨m, x⟩, fun j e he => ?_⟩)
    obtain ⟨i, hi⟩ := wk_back pi x he
    exact ml i e hi
  · refine hb fun rp => ?_
    rcases rp with rp | ⟨_, rp⟩
    · obtain ⟨z, hz⟩ := wk_prev x
      exact rp _ hz
    · obtain ⟨j, hj⟩ := el
      obtain ⟨i, hi⟩ := wk_back pi (wk_ringB pi x hj) hj
      have a := rp i l hi
      have b := ml 0 c rfl
      exact ne (Nat.le_antisymm b a)
  · omega
  · omega
theorem xs_repLen (g : cb_G K M T) (hS : ∀ c, c < M → (cs c < nI fl ↔ ¬ S c)) {c : Nat} (hc : c < M) (rp : wk_Rep (lk_R K M T S) (fun x => x) c) (hp : ∀ m, m ≤ M → wk_Len (lk_R K M T S) c m → post (nI m)) :
    wpX_lengthFrom post (nI K, nI (M - 1), nI T, nI fl, x5, x6, x7, x8, x9, cs) (nI c) := by
  have pi := lk_PI (K := K) (M := M) (T := T) (S := S)
  refine xs_len g hS hc (fun m e hm x => ?_) (fun m hm x => hp m hm (Or.inl x))
  rcases rp with rp | ⟨⟨m', rp⟩, _⟩
  · exact hp (m + 1) (by omega) (Or.inr ⟨m, 0, e, c, x, ⟨rfl, rp⟩, by omega⟩)
  · exact (wk_endNo pi x rp).elim
theorem xs_beforeL (g : cb_G K M T) (hS : ∀ c, c < M → (cs c < nI fl ↔ ¬ S c)) {c : Nat} (hc : c < M)
    (h1 : ∀ m e, wk_End (wk_Cv (lk_R K M T S)) c m e → post (nI m)) (h2 : ∀ m, wk_Ring (lk_R K M T S) c m → post (-2)) :
    ∀ d i r, i + d = M → r < M → wk_It (lk_R K M T S) i r c → (∀ j, 0 < j → j ≤ i → ¬ wk_It (lk_R K M T S) j c c) →
    wX_before_16 post (nI K) (nI (M - 1)) (nI T) (nI fl) x5 x6 x7 (nI c) x9 cs (d + 1) (nI r) (nI i) := by
  have k := cb_K g
  have pi := lk_PI (K := K) (M := M) (T := T) (S := S)
  intro d
  induction d with
  | zero =>
    intro i r hi hr w nr
    have := wk_bound (wk_cvP pi) hc (wk_cv w) (fun j h0 hj z => nr j h0 hj (wk_cv' z))
    omega
  | succ d ih =>
    intro i r hi hr w nr
    refine br_f (nI_nlt (by omega) (by omega)) (xs_linkedBefore g hS hr (fun z hz => br_f (cb_nm ?_) ?_) (fun no => br_t rfl (h1 i r ⟨wk_cv w, fun d' => no d'⟩)))
    · have := (pi.2.2 _ _ hz).1
      omega
    · have zM := (pi.2.2 _ _ hz).1
      have w1 : wk_It (lk_R K M T S) (i + 1) z c := by rw [Nat.add_comm]; exact wk_app (wk_one hz) w
      refine pk_eq z c (fun e => ?_) (fun ne => ?_) rfl rfl (by omega) (by omega)
      · subst e
        exact h2 (i + 1) ⟨by omega, w1, fun j h0 hj => nr j h0 (by omega)⟩
      · exact nm_r (nI_1 i) (ih (i + 1) z (by omega) zM w1 (fun j h0 hj q => by
          rcases Nat.lt_or_ge i j with z1 | z1
          · have : j = i + 1 := by omega
            subst this
            exact ne (wk_inj pi w1 q)
          · exact nr j h0 z1 q))
theorem xs_solidL (g : cb_G K M T) (hS : ∀ c, c < M → (cs c < nI fl ↔ ¬ S c)) (hp : post (nI (wk_ct S M) / 2)) :
    ∀ d i, i + d = M → wX_solid_4 post (nI K) (nI (M - 1)) (nI T) (nI fl) x5 x6 x7 x8 x9 cs (d + 1) (nI (wk_ct S i)) (nI i) := by
  have k := cb_K g
  intro d
  induction d with
  | zero =>
    intro i hi
    cases show i = M from by omega
    exact br_t (nI_lt (by omega) (by omega)) ⟨by decide, hp⟩
  | succ d ih =>
    intro i hi
    refine br_f (nI_nlt (by omega) (by omega)) (xs_isSolid g hS (by omega) (fun s => br_f (by decide) (nm_r (nI_1 _) (nm_r (nI_1 i) ?_))) (fun s => br_t rfl (nm_r (nI_1 i) ?_)))
    · rw [← wk_ct_t s]; exact ih (i + 1) (by omega)
    · rw [← wk_ct_f s]; exact ih (i + 1) (by omega)
theorem xs_chainsL (g : cb_G K M T) (hS : ∀ c, c < M → (cs c < nI fl ↔ ¬ S c)) (hp : post (nI (wk_ct (fun c => S c ∧ wk_Rep (lk_R K M T S) (fun x => x) c) M) / 2)) :
    ∀ d i, i + d = M → wX_chains_4 post (nI K) (nI (M - 1)) (nI T) (nI fl) x5 x6 x7 x8 x9 cs (d + 1) (nI (wk_ct (fun c => S c ∧ wk_Rep (lk_R K M T S) (fun x => x) c) i)) (nI i) := by
  have k := cb_K g
  intro d
  induction d with
  | zero =>
    intro i hi
    cases show i = M from by omega
    exact br_t (nI_lt (by omega) (by omega)) ⟨by decide, hp⟩
  | succ d ih =>
    intro i hi
    have hf : (¬ (S i ∧ wk_Rep (lk_R K M T S) (fun x => x) i)) → wX_chains_4 post (nI K) (nI (M - 1)) (nI T) (nI fl) x5 x6 x7 x8 x9 cs (d + 1) (nI (wk_ct (fun c => S c ∧ wk_Rep (lk_R K M T S) (fun x => x) c) i)) (nI (i + 1)) := fun q => by
      rw [← wk_ct_f (P := fun c => S c ∧ wk_Rep (lk_R K M T S) (fun x => x) c) q]
      exact ih (i + 1) (by omega)
    refine br_f (nI_nlt (by omega) (by omega)) (xs_isSolid g hS (by omega) (fun s => br_f (by decide) (xs_isStart g hS (by omega) (fun rp => nm_r (nI_1 _) (nm_r (nI_1 i) ?_)) (fun rp => nm_r (nI_1 i) (hf fun q => rp q.2)))) (fun s => br_t rfl (nm_r (nI_1 i) (hf fun q => s q.1))))
    rw [← wk_ct_t (P := fun c => S c ∧ wk_Rep (lk_R K M T S) (fun x => x) c) ⟨s, rp⟩]
    exact ih (i + 1) (by omega)
/-- what X's greatest is after the pieces below i -/
def xs_Mx (K M T : Nat) (S : Nat → Prop) (i v : Nat) : Prop := v ≤ M ∧ (∀ c m, c < i → S c → wk_Rep (lk_R K M T S) (fun x => x) c → wk_Len (lk_R K M T S) c m → m ≤ v) ∧ (v = 0 ∨ ∃ c, c < i ∧ S c ∧ wk_Len (lk_R K M T S) c v)
theorem xs_mxS {i v : Nat} (h : xs_Mx K M T S i v) (q : ∀ m, S i → wk_Rep (lk_R K M T S) (fun x => x) i → wk_Len (lk_R K M T S) i m → m ≤ v) : xs_Mx K M T S (i + 1) v := by
  refine ⟨h.1, fun c m hc s rp hl => ?_, ?_⟩
  · rcases Nat.lt_or_ge c i with z | z
    · exact h.2.1 c m z s rp hl
    · cases show c = i from by omega
      exact q m s rp hl
  · rcases h.2.2 with z | ⟨c, hc, z⟩
    · exact Or.inl z
    · exact Or.inr ⟨c, by omega, z⟩
theorem xs_longestL (g : cb_G K M T) (hS : ∀ c, c < M → (cs c < nI fl ↔ ¬ S c)) (hp : ∀ v, xs_Mx K M T S M v → post (nI v)) :
    ∀ d i v, i + d = M → xs_Mx K M T S i v → wX_longest_4 post (nI K) (nI (M - 1)) (nI T) (nI fl) x5 x6 x7 x8 x9 cs (d + 1) (nI v) (nI i) := by
  have k := cb_K g
  have pi := lk_PI (K := K) (M := M) (T := T) (S := S)
  intro d
  induction d with
  | zero =>
    intro i v hi hv
    cases show i = M from by omega
    exact br_t (nI_lt (by omega) (by omega)) (hp v hv)
  | succ d ih =>
    intro i v hi hv
    have vM := hv.1
    refine br_f (nI_nlt (by omega) (by omega)) (xs_isSolid g hS (by omega) (fun s => br_f (by decide) (xs_isStart g hS (by omega) (fun rp => xs_repLen g hS (by omega) rp (fun m hm hl => ?_)) (fun rp => nm_r (nI_1 i) (ih (i + 1) v (by omega) (xs_mxS hv fun m _ q => absurd q rp))))) (fun s => br_t rfl (nm_r (nI_1 i) (ih (i + 1) v (by omega) (xs_mxS hv fun m q => absurd q s)))))
    refine pk_le m v (fun le => nm_r (nI_1 i) (ih (i + 1) v (by omega) (xs_mxS hv fun m' _ _ hl' => ?_))) (fun lt => nm_r (nI_1 i) (ih (i + 1) m (by omega) ⟨hm, fun c m' hc s' rp' hl' => ?_, Or.inr ⟨i, by omega, s, hl⟩⟩)) rfl rfl (by omega) (by omega)
    · cases wk_lenU pi hl hl'
      exact le
    · rcases Nat.lt_or_ge c i with z | z
      · have := hv.2.1 c m' z s' rp' hl'
        omega
      · cases show c = i from by omega
        cases wk_lenU pi hl hl'
        exact Nat.le_refl _
end

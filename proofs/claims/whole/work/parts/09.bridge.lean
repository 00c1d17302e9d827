section
variable {n : Nat} {Q : Nat → Nat} {R : Nat → Nat → Prop}
theorem bg_cv : wk_Cv (ga_R n Q R) = ga_R n Q (wk_Cv R) := by
  funext x y
  exact propext ⟨fun h => ⟨h.2.1, h.1, h.2.2⟩, fun h => ⟨h.2.1, h.1, h.2.2⟩⟩
theorem bg_up : ∀ {m x y : Nat}, wk_It (ga_R n Q R) m x y → wk_It R m (Q x) (Q y) := by
  intro m
  induction m with
  | zero => intro x y h; exact congrArg Q h
  | succ m ih =>
    rintro x y ⟨e, h, r⟩
    exact ⟨Q e, ih h, r.2.2⟩
theorem bg_dn (hR : ∀ a b, R a b → ∃ j, j < n ∧ Q j = b) (hi : ∀ i j, i < n → j < n → Q i = Q j → i = j) {x : Nat} (hx : x < n) : ∀ {m d : Nat}, wk_It R m (Q x) d → ∃ y, y < n ∧ Q y = d ∧ wk_It (ga_R n Q R) m x y := by
  intro m
  induction m with
  | zero => intro d h; exact ⟨x, hx, h, rfl⟩
  | succ m ih =>
    rintro d ⟨e, h, r⟩
    obtain ⟨y, hy, rfl, w⟩ := ih h
    obtain ⟨j, hj, rfl⟩ := hR _ _ r
    exact ⟨j, hj, rfl, y, w, hy, hj, r⟩
theorem bg_ring (hR : ∀ a b, R a b → ∃ j, j < n ∧ Q j = b) (hi : ∀ i j, i < n → j < n → Q i = Q j → i = j) {x m : Nat} (hx : x < n) : wk_Ring (ga_R n Q R) x m ↔ wk_Ring R (Q x) m := by
  have it : ∀ j, wk_It (ga_R n Q R) j x x ↔ wk_It R j (Q x) (Q x) := fun j => ⟨bg_up, fun h => by
    obtain ⟨y, hy, e, w⟩ := bg_dn hR hi hx h
    cases hi _ _ hy hx e
    exact w⟩
  exact ⟨fun h => ⟨h.1, (it m).mp h.2.1, fun j a b q => h.2.2 j a b ((it j).mpr q)⟩, fun h => ⟨h.1, (it m).mpr h.2.1, fun j a b q => h.2.2 j a b ((it j).mp q)⟩⟩
theorem bg_endU (hR : ∀ a b, R a b → ∃ j, j < n ∧ Q j = b) {x m d : Nat} (hd : d < n) (h : wk_End (ga_R n Q R) x m d) : wk_End R (Q x) m (Q d) :=
  ⟨bg_up h.1, fun e r => by
    obtain ⟨j, hj, rfl⟩ := hR _ _ r
    exact h.2 j ⟨hd, hj, r⟩⟩
theorem bg_endD (hR : ∀ a b, R a b → ∃ j, j < n ∧ Q j = b) (hi : ∀ i j, i < n → j < n → Q i = Q j → i = j) {x m d : Nat} (hx : x < n) (h : wk_End R (Q x) m d) : ∃ y, wk_End (ga_R n Q R) x m y ∧ Q y = d := by
  obtain ⟨y, hy, rfl, w⟩ := bg_dn hR hi hx h.1
  exact ⟨y, ⟨w, fun e r => h.2 _ r.2.2⟩, rfl⟩
theorem bg_len (hR : ∀ a b, R a b → ∃ j, j < n ∧ Q j = b) (hR' : ∀ a b, R a b → ∃ j, j < n ∧ Q j = a) (hi : ∀ i j, i < n → j < n → Q i = Q j → i = j) {N : Nat} (pI : wk_PI R N) {x m : Nat} (hx : x < n) : wk_Len (ga_R n Q R) x m ↔ wk_Len R (Q x) m := by
  have hc : ∀ a b, wk_Cv R a b → ∃ j, j < n ∧ Q j = b := fun a b r => hR' b a r
  have p := ga_PI hi pI
  constructor
  · rintro (h | ⟨a, b, d, e, h1, h2, rfl⟩)
    · exact Or.inl ((bg_ring hR hi hx).mp h)
    · have dn := wk_lt p hx h1.1
      have en := wk_lt (wk_cvP p) hx h2.1
      rw [bg_cv] at h2
      exact Or.inr ⟨a, b, _, _, bg_endU hR dn h1, bg_endU hc en h2, rfl⟩
  · rintro (h | ⟨a, b, d, e, h1, h2, rfl⟩)
    · exact Or.inl ((bg_ring hR hi hx).mpr h)
    · obtain ⟨d', h1', _⟩ := bg_endD hR hi hx h1
      obtain ⟨e', h2', _⟩ := bg_endD hc hi hx h2
      rw [← bg_cv] at h2'
      exact Or.inr ⟨a, b, _, _, h1', h2', rfl⟩
theorem bg_rep (hR : ∀ a b, R a b → ∃ j, j < n ∧ Q j = b) (hR' : ∀ a b, R a b → ∃ j, j < n ∧ Q j = a) (hi : ∀ i j, i < n → j < n → Q i = Q j → i = j) {N : Nat} (pI : wk_PI R N) {x : Nat} (hx : x < n) : wk_Rep R (fun z => z) (Q x) ↔ wk_Rep (ga_R n Q R) Q x := by
  constructor
  · rintro (h | ⟨⟨m, h⟩, l⟩)
    · exact Or.inl fun z r => h _ r.2.2
    · exact Or.inr ⟨⟨m, (bg_ring hR hi hx).mpr h⟩, fun j e w => l j _ (bg_up w)⟩
  · rintro (h | ⟨⟨m, h⟩, l⟩)
    · refine Or.inl fun z r => ?_
      obtain ⟨j, hj, rfl⟩ := hR' _ _ r
      exact h j ⟨hj, hx, r⟩
    · refine Or.inr ⟨⟨m, (bg_ring hR hi hx).mp h⟩, fun j e w => ?_⟩
      obtain ⟨y, hy, rfl, w'⟩ := bg_dn hR hi hx w
      exact l j y w'
end
section
variable {K M T n : Nat} {Q : Nat → Nat} {S : Nat → Prop}
theorem bg_R (h : ga_Q M n Q S) : ∀ a b, lk_R K M T S a b → ∃ j, j < n ∧ Q j = b := fun a b r => h.2.2.2 b r.1.1.1 r.1.1.2.1
theorem bg_R' (h : ga_Q M n Q S) : ∀ a b, lk_R K M T S a b → ∃ j, j < n ∧ Q j = a := fun a b r => h.2.2.2 a r.2.1.1.1 r.2.1.1.2.1
theorem bg_solid (h : ga_Q M n Q S) : wk_ct S M = n := by
  have a : wk_ct S M ≤ wk_ct (fun _ => True) n := wk_ct_le (fun c x => Q x = c) (fun c hc s => by
    obtain ⟨j, hj, e⟩ := h.2.2.2 c hc s
    exact ⟨j, hj, True.intro, e⟩) (fun c c' x _ _ _ _ _ e e' => e.symm.trans e')
  have b : wk_ct (fun _ => True) n ≤ wk_ct S M := wk_ct_le (fun x c => Q x = c) (fun x hx _ => ⟨Q x, (h.2.1 x hx).1, (h.2.1 x hx).2, rfl⟩) (fun x x' c hx hx' _ _ _ e e' => h.2.2.1 x x' hx hx' (e.trans e'.symm))
  rw [wk_ct_all] at a b
  omega
theorem bg_chains (h : ga_Q M n Q S) : wk_ct (fun c => S c ∧ wk_Rep (lk_R K M T S) (fun z => z) c) M = wk_ct (wk_Rep (ga_R n Q (lk_R K M T S)) (fun z => z)) n := by
  have pI := lk_PI (K := K) (M := M) (T := T) (S := S)
  have p := ga_PI h.2.2.1 pI
  have rp : ∀ x, x < n → (wk_Rep (lk_R K M T S) (fun z => z) (Q x) ↔ wk_Rep (ga_R n Q (lk_R K M T S)) Q x) := fun x hx => bg_rep (bg_R h) (bg_R' h) h.2.2.1 pI hx
  have a : wk_ct (fun c => S c ∧ wk_Rep (lk_R K M T S) (fun z => z) c) M ≤ wk_ct (wk_Rep (ga_R n Q (lk_R K M T S)) Q) n := wk_ct_le (fun c x => Q x = c) (fun c hc s => by
    obtain ⟨j, hj, e⟩ := h.2.2.2 c hc s.1
    subst e
    exact ⟨j, hj, (rp j hj).mp s.2, rfl⟩) (fun c c' x _ _ _ _ _ e e' => e.symm.trans e')
  have b : wk_ct (wk_Rep (ga_R n Q (lk_R K M T S)) Q) n ≤ wk_ct (fun c => S c ∧ wk_Rep (lk_R K M T S) (fun z => z) c) M := wk_ct_le (fun x c => Q x = c) (fun x hx r => ⟨Q x, (h.2.1 x hx).1, ⟨(h.2.1 x hx).2, (rp x hx).mpr r⟩, rfl⟩) (fun x x' c hx hx' _ _ _ e e' => h.2.2.1 x x' hx hx' (e.trans e'.symm))
  have c : wk_ct (wk_Rep (ga_R n Q (lk_R K M T S)) Q) n ≤ wk_ct (wk_Rep (ga_R n Q (lk_R K M T S)) (fun z => z)) n := wk_ct_le (fun x y => ∃ j, wk_It (ga_R n Q (lk_R K M T S)) j x y) (fun x hx r => by
    obtain ⟨d, hd, j, hj⟩ := wk_repX (ρ' := fun z => z) p r
    exact ⟨d, wk_lt p hx hj, hd, j, hj⟩) (fun x x' y hx hx' r r' ry ⟨j, hj⟩ ⟨j', hj'⟩ => by
    rcases wk_repI p ry r r' hj hj' with e | e
    · exact e
    · exact h.2.2.1 _ _ hx hx' e)
  have d : wk_ct (wk_Rep (ga_R n Q (lk_R K M T S)) (fun z => z)) n ≤ wk_ct (wk_Rep (ga_R n Q (lk_R K M T S)) Q) n := wk_ct_le (fun x y => ∃ j, wk_It (ga_R n Q (lk_R K M T S)) j x y) (fun x hx r => by
    obtain ⟨d, hd, j, hj⟩ := wk_repX (ρ' := Q) p r
    exact ⟨d, wk_lt p hx hj, hd, j, hj⟩) (fun x x' y hx hx' r r' ry ⟨j, hj⟩ ⟨j', hj'⟩ => by
    rcases wk_repI p ry r r' hj hj' with e | e
    · exact e
    · exact e)
  omega
theorem bg_S {c j d : Nat} (hc : c < M) (s : S c) (w : wk_It (lk_R K M T S) j c d) : d < M ∧ S d := by
  cases j with
  | zero => cases w; exact ⟨hc, s⟩
  | succ j => obtain ⟨e, _, r⟩ := w; exact ⟨r.1.1.1, r.1.1.2.1⟩
theorem bg_S' {c j d : Nat} (hc : c < M) (s : S c) (w : wk_It (wk_Cv (lk_R K M T S)) j c d) : d < M ∧ S d := by
  cases j with
  | zero => cases w; exact ⟨hc, s⟩
  | succ j => obtain ⟨e, _, r⟩ := w; exact ⟨r.2.1.1.1, r.2.1.1.2.1⟩
theorem bg_longest (h : ga_Q M n Q S) {v v' : Nat} (x : xs_Mx K M T S M v) (y : ys_Mx (ga_R n Q (lk_R K M T S)) n v') : v' = v := by
  have pI := lk_PI (K := K) (M := M) (T := T) (S := S)
  have ln : ∀ x m, x < n → (wk_Len (ga_R n Q (lk_R K M T S)) x m ↔ wk_Len (lk_R K M T S) (Q x) m) := fun x m hx => bg_len (bg_R h) (bg_R' h) h.2.2.1 pI hx
  have a : v ≤ v' := by
    rcases x.2.2 with z | ⟨c, hc, s, l⟩
    · omega
    · obtain ⟨j, hj, e⟩ := h.2.2.2 c hc s
      subst e
      exact y.2.1 j v hj ((ln j v hj).mpr l)
  have b : v' ≤ v := by
    rcases y.2.2 with z | ⟨i, hi, l⟩
    · omega
    · have l' := (ln i v' hi).mp l
      obtain ⟨cM, cS⟩ := h.2.1 i hi
      rcases l' with l' | ⟨a1, b1, d, e, h1, h2, ev⟩
      · obtain ⟨d, hd, j, hj⟩ := wk_repE (ρ := fun z => z) pI l'
        obtain ⟨dM, dS⟩ := bg_S cM cS hj
        exact x.2.1 d v' dM dS hd (Or.inl (wk_ringF pI l' hj))
      · obtain ⟨eM, eS⟩ := bg_S' cM cS h2.1
        exact x.2.1 e v' eM eS (Or.inl h2.2) (Or.inr ⟨b1 + a1, 0, d, e, wk_join h2 h1, ⟨rfl, h2.2⟩, by omega⟩)
  omega
end

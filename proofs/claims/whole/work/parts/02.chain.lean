/-- m steps by R from c to d -/
def wk_It (R : Nat → Nat → Prop) : Nat → Nat → Nat → Prop
  | 0, c, d => c = d
  | m + 1, c, d => ∃ e, wk_It R m c e ∧ R e d
/-- R is a partial injection below N -/
def wk_PI (R : Nat → Nat → Prop) (N : Nat) : Prop := (∀ a b b', R a b → R a b' → b = b') ∧ (∀ a a' b, R a b → R a' b → a = a') ∧ (∀ a b, R a b → a < N ∧ b < N)
def wk_Cv (R : Nat → Nat → Prop) : Nat → Nat → Prop := fun a b => R b a
def wk_End (R : Nat → Nat → Prop) (c m e : Nat) : Prop := wk_It R m c e ∧ ∀ d, ¬ R e d
def wk_Ring (R : Nat → Nat → Prop) (c m : Nat) : Prop := 0 < m ∧ wk_It R m c c ∧ ∀ j, 0 < j → j < m → ¬ wk_It R j c c
theorem wk_one {R : Nat → Nat → Prop} {c d : Nat} (h : R c d) : wk_It R 1 c d := ⟨c, rfl, h⟩
theorem wk_add {R : Nat → Nat → Prop} {a : Nat} : ∀ {b c d : Nat}, wk_It R (a + b) c d ↔ ∃ e, wk_It R a c e ∧ wk_It R b e d := by
  intro b
  induction b with
  | zero =>
    intro c d
    constructor
    · intro h; exact ⟨d, h, rfl⟩
    · rintro ⟨e, h, rfl⟩; exact h
  | succ b ih =>
    intro c d
    constructor
    · rintro ⟨e, h, r⟩
      obtain ⟨x, h1, h2⟩ := ih.mp h
      exact ⟨x, h1, e, h2, r⟩
    · rintro ⟨x, h1, e, h2, r⟩
      exact ⟨e, ih.mpr ⟨x, h1, h2⟩, r⟩
theorem wk_app {R : Nat → Nat → Prop} {a b c d e : Nat} (h : wk_It R a c e) (g : wk_It R b e d) : wk_It R (a + b) c d := wk_add.mpr ⟨e, h, g⟩
theorem wk_fun {R : Nat → Nat → Prop} {N : Nat} (h : wk_PI R N) : ∀ {m c d d' : Nat}, wk_It R m c d → wk_It R m c d' → d = d' := by
  intro m
  induction m with
  | zero => intro c d d' h1 h2; exact h1.symm.trans h2
  | succ m ih =>
    rintro c d d' ⟨e, h1, r1⟩ ⟨e', h2, r2⟩
    cases ih h1 h2
    exact h.1 _ _ _ r1 r2
theorem wk_inj {R : Nat → Nat → Prop} {N : Nat} (h : wk_PI R N) : ∀ {m c c' d : Nat}, wk_It R m c d → wk_It R m c' d → c = c' := by
  intro m
  induction m with
  | zero => intro c c' d h1 h2; exact h1.trans h2.symm
  | succ m ih =>
    rintro c c' d ⟨e, h1, r1⟩ ⟨e', h2, r2⟩
    cases h.2.1 _ _ _ r1 r2
    exact ih h1 h2
theorem wk_cvP {R : Nat → Nat → Prop} {N : Nat} (h : wk_PI R N) : wk_PI (wk_Cv R) N :=
  ⟨fun a b b' x y => h.2.1 _ _ _ x y, fun a a' b x y => h.1 _ _ _ x y, fun a b x => ⟨(h.2.2 _ _ x).2, (h.2.2 _ _ x).1⟩⟩
theorem wk_cv {R : Nat → Nat → Prop} : ∀ {m c d : Nat}, wk_It R m c d → wk_It (wk_Cv R) m d c := by
  intro m
  induction m with
  | zero => intro c d h; exact Eq.symm h
  | succ m ih =>
    rintro c d ⟨e, h1, r⟩
    rw [Nat.add_comm]
    exact wk_app (wk_one (R := wk_Cv R) r) (ih h1)
theorem wk_cv' {R : Nat → Nat → Prop} {m c d : Nat} (h : wk_It (wk_Cv R) m c d) : wk_It R m d c := wk_cv (R := wk_Cv R) h
theorem wk_ringCv {R : Nat → Nat → Prop} {c m : Nat} (h : wk_Ring R c m) : wk_Ring (wk_Cv R) c m :=
  ⟨h.1, wk_cv h.2.1, fun j h0 hj z => h.2.2 j h0 hj (wk_cv' z)⟩
theorem wk_ringCv' {R : Nat → Nat → Prop} {c m : Nat} (h : wk_Ring (wk_Cv R) c m) : wk_Ring R c m := wk_ringCv (R := wk_Cv R) h
theorem wk_ph : ∀ (n m : Nat) (h : Nat → Nat), (∀ i, i < m → h i < n) → (∀ i j, i < m → j < m → h i = h j → i = j) → m ≤ n := by
  intro n
  induction n with
  | zero =>
    intro m h hb hi
    rcases Nat.eq_zero_or_pos m with z | z
    · omega
    · exact absurd (hb 0 z) (Nat.not_lt_zero _)
  | succ n ih =>
    intro m h hb hi
    by_cases z : ∃ i, i < m ∧ h i = n
    · obtain ⟨i0, h0, e0⟩ := z
      have q := ih (m - 1) (fun i => if i = i0 then h (m - 1) else h i) (fun i hm => by
        split
        · rename_i e
          have a := hb (m - 1) (by omega)
          have b : h (m - 1) ≠ n := fun q => by have := hi (m - 1) i0 (by omega) h0 (q.trans e0.symm); omega
          omega
        · rename_i e
          have a := hb i (by omega)
          have b : h i ≠ n := fun q => e (hi i i0 (by omega) h0 (q.trans e0.symm))
          omega) (fun i j hm hn => by
        intro q
        split at q <;> split at q
        · omega
        · rename_i e1 e2
          have := hi (m - 1) j (by omega) (by omega) q
          omega
        · rename_i e1 e2
          have := hi i (m - 1) (by omega) (by omega) q
          omega
        · exact hi i j (by omega) (by omega) q)
      omega
    · exact Nat.le_succ_of_le (ih m h (fun i hm => by
        have a := hb i hm
        have b : h i ≠ n := fun q => z ⟨i, hm, q⟩
        omega) hi)
theorem wk_lt {R : Nat → Nat → Prop} {N : Nat} (h : wk_PI R N) {c : Nat} (hc : c < N) : ∀ {j x : Nat}, wk_It R j c x → x < N := by
  intro j x g
  cases j with
  | zero => cases g; exact hc
  | succ j => obtain ⟨e, _, r⟩ := g; exact (h.2.2 _ _ r).2
theorem wk_pre {R : Nat → Nat → Prop} {m c e j : Nat} (g : wk_It R m c e) (hj : j ≤ m) : ∃ x, wk_It R j c x ∧ wk_It R (m - j) x e := by
  have q : j + (m - j) = m := by omega
  rw [← q] at g
  exact wk_add.mp g
theorem wk_bound {R : Nat → Nat → Prop} {N : Nat} (h : wk_PI R N) {c m e : Nat} (hc : c < N) (g : wk_It R m c e) (hn : ∀ j, 0 < j → j ≤ m → ¬ wk_It R j c c) : m < N := by
  have ex : ∀ j, ∃ x, j ≤ m → wk_It R j c x := fun j => by
    by_cases hj : j ≤ m
    · obtain ⟨x, hx, _⟩ := wk_pre g hj
      exact ⟨x, fun _ => hx⟩
    · exact ⟨0, fun z => absurd z hj⟩
  have hv : ∀ j, j ≤ m → wk_It R j c (Classical.choose (ex j)) := fun j hj => Classical.choose_spec (ex j) hj
  have key : ∀ i j, i < j → j ≤ m → Classical.choose (ex i) = Classical.choose (ex j) → False := fun i j hij hj q => by
    have a := hv i (by omega)
    have b := hv j hj
    rw [← q, show j = (j - i) + i from by omega] at b
    obtain ⟨y, b1, b2⟩ := wk_add.mp b
    cases wk_inj h a b2
    exact hn (j - i) (by omega) (by omega) b1
  have q := wk_ph N (m + 1) (fun j => Classical.choose (ex j)) (fun i hi => wk_lt h hc (hv i (by omega))) (fun i j hi hj q => by
    rcases Nat.lt_trichotomy i j with z | z | z
    · exact (key i j z (by omega) q).elim
    · exact z
    · exact (key j i z (by omega) q.symm).elim)
  omega
theorem wk_mul {R : Nat → Nat → Prop} {c m : Nat} (h : wk_It R m c c) : ∀ q, wk_It R (m * q) c c := by
  intro q
  induction q with
  | zero => exact rfl
  | succ q ih => exact wk_app ih h
theorem wk_ringB {R : Nat → Nat → Prop} {N : Nat} (h : wk_PI R N) {c m j s : Nat} (g : wk_Ring R c m) (hj : wk_It R j s c) : wk_Ring R s m := by
  refine ⟨g.1, ?_, fun i h0 hi z => g.2.2 i h0 hi ?_⟩
  · have a := wk_app hj g.2.1
    rw [Nat.add_comm] at a
    obtain ⟨y, a1, a2⟩ := wk_add.mp a
    cases wk_inj h a2 hj
    exact a1
  · have a := wk_app z hj
    rw [Nat.add_comm] at a
    obtain ⟨y, a1, a2⟩ := wk_add.mp a
    cases wk_fun h a1 hj
    exact a2
theorem wk_ringF {R : Nat → Nat → Prop} {N : Nat} (h : wk_PI R N) {c m j s : Nat} (g : wk_Ring R c m) (hj : wk_It R j c s) : wk_Ring R s m :=
  wk_ringCv' (wk_ringB (wk_cvP h) (wk_ringCv g) (wk_cv hj))
theorem wk_back {R : Nat → Nat → Prop} {N : Nat} (h : wk_PI R N) {c m j e : Nat} (g : wk_Ring R c m) (hj : wk_It R j c e) : ∃ i, wk_It R i e c := by
  have a := wk_mul g.2.1 j
  have q : j ≤ m * j := Nat.le_mul_of_pos_left j g.1
  obtain ⟨x, a1, a2⟩ := wk_pre a q
  cases wk_fun h a1 hj
  exact ⟨_, a2⟩
theorem wk_next {R : Nat → Nat → Prop} {N : Nat} (h : wk_PI R N) {c m j e : Nat} (g : wk_Ring R c m) (hj : wk_It R j c e) : ∃ b, R e b := by
  have a := wk_mul g.2.1 (j + 1)
  have q : j + 1 ≤ m * (j + 1) := Nat.le_mul_of_pos_left (j + 1) g.1
  obtain ⟨x, ⟨y, a1, r⟩, a2⟩ := wk_pre a q
  cases wk_fun h a1 hj
  exact ⟨x, r⟩
theorem wk_prev {R : Nat → Nat → Prop} {c m : Nat} (g : wk_Ring R c m) : ∃ b, R b c := by
  obtain ⟨h0, h1, _⟩ := g
  cases m with
  | zero => omega
  | succ m => obtain ⟨e, _, r⟩ := h1; exact ⟨e, r⟩
theorem wk_small {R : Nat → Nat → Prop} {N : Nat} (h : wk_PI R N) {c m : Nat} (g : wk_Ring R c m) : ∀ {j e : Nat}, wk_It R j c e → ∃ i, i < m ∧ wk_It R i c e := by
  intro j
  induction j using Nat.strongRecOn with
  | ind j ih =>
    intro e he
    by_cases z : j < m
    · exact ⟨j, z, he⟩
    · obtain ⟨x, a1, a2⟩ := wk_pre he (Nat.le_of_not_lt z)
      cases wk_fun h a1 g.2.1
      exact ih (j - m) (by have := g.1; omega) a2
theorem wk_endNo {R : Nat → Nat → Prop} {N : Nat} (h : wk_PI R N) {c m e k : Nat} (a : wk_End R c m e) (b : wk_Ring R c k) : False := by
  obtain ⟨x, r⟩ := wk_next h b a.1
  exact a.2 x r
theorem wk_endU {R : Nat → Nat → Prop} {N : Nat} (h : wk_PI R N) {c m m' e e' : Nat} (a : wk_End R c m e) (b : wk_End R c m' e') : m = m' ∧ e = e' := by
  rcases Nat.lt_trichotomy m m' with z | z | z
  · obtain ⟨x, ⟨y, b1, r⟩, b2⟩ := wk_pre (j := m + 1) b.1 z
    cases wk_fun h b1 a.1
    exact (a.2 _ r).elim
  · cases z
    exact ⟨rfl, wk_fun h a.1 b.1⟩
  · obtain ⟨x, ⟨y, b1, r⟩, b2⟩ := wk_pre (j := m' + 1) a.1 z
    cases wk_fun h b1 b.1
    exact (b.2 _ r).elim
theorem wk_ringU {R : Nat → Nat → Prop} {c m m' : Nat} (a : wk_Ring R c m) (b : wk_Ring R c m') : m = m' := by
  rcases Nat.lt_trichotomy m m' with z | z | z
  · exact (b.2.2 m a.1 z a.2.1).elim
  · exact z
  · exact (a.2.2 m' b.1 z b.2.1).elim
theorem wk_join {R : Nat → Nat → Prop} {a b c d e : Nat} (x : wk_End (wk_Cv R) c b e) (y : wk_End R c a d) : wk_End R e (b + a) d :=
  ⟨wk_app (wk_cv' x.1) y.1, y.2⟩
/-- how long the chain of c is -/
def wk_Len (R : Nat → Nat → Prop) (c m : Nat) : Prop := wk_Ring R c m ∨ ∃ a b d e, wk_End R c a d ∧ wk_End (wk_Cv R) c b e ∧ m = a + b + 1
theorem wk_lenU {R : Nat → Nat → Prop} {N : Nat} (h : wk_PI R N) {c m m' : Nat} (x : wk_Len R c m) (y : wk_Len R c m') : m = m' := by
  rcases x with x | ⟨a, b, d, e, x1, x2, rfl⟩
  · rcases y with y | ⟨a', b', d', e', y1, y2, rfl⟩
    · exact wk_ringU x y
    · exact (wk_endNo h y1 x).elim
  · rcases y with y | ⟨a', b', d', e', y1, y2, rfl⟩
    · exact (wk_endNo h x1 y).elim
    · obtain ⟨p, _⟩ := wk_endU h x1 y1
      obtain ⟨q, _⟩ := wk_endU (wk_cvP h) x2 y2
      omega
/-- c stands for its chain: it has none before it, or it has the least rank of its ring -/
def wk_Rep (R : Nat → Nat → Prop) (ρ : Nat → Nat) (c : Nat) : Prop := (∀ z, ¬ R z c) ∨ ((∃ m, wk_Ring R c m) ∧ ∀ j e, wk_It R j c e → ρ c ≤ ρ e)
theorem wk_repE {R : Nat → Nat → Prop} {N : Nat} (h : wk_PI R N) {ρ : Nat → Nat} {c m : Nat} (g : wk_Ring R c m) : ∃ d, wk_Rep R ρ d ∧ ∃ j, wk_It R j c d := by
  obtain ⟨k, ⟨j, d, hd, hk⟩, hl⟩ := pk_least (fun k => ∃ j d, wk_It R j c d ∧ ρ d = k) ⟨_, 0, c, rfl, rfl⟩
  refine ⟨d, Or.inr ⟨⟨m, wk_ringF h g hd⟩, fun i e he => ?_⟩, j, hd⟩
  rw [hk]
  exact Nat.le_of_not_lt fun q => hl _ q ⟨_, _, wk_app hd he, rfl⟩
theorem wk_repX {R : Nat → Nat → Prop} {N : Nat} (h : wk_PI R N) {ρ ρ' : Nat → Nat} {c : Nat} (g : wk_Rep R ρ c) : ∃ d, wk_Rep R ρ' d ∧ ∃ j, wk_It R j c d := by
  rcases g with g | ⟨⟨m, g⟩, _⟩
  · exact ⟨c, Or.inl g, 0, rfl⟩
  · exact wk_repE h g
theorem wk_repI {R : Nat → Nat → Prop} {N : Nat} (h : wk_PI R N) {ρ ρ' : Nat → Nat} {c c' d j j' : Nat} (gd : wk_Rep R ρ' d) (g : wk_Rep R ρ c) (g' : wk_Rep R ρ c') (hj : wk_It R j c d) (hj' : wk_It R j' c' d) : c = c' ∨ ρ c = ρ c' := by
  rcases gd with gd | ⟨⟨m, gd⟩, _⟩
  · cases j with
    | succ j => obtain ⟨e, _, r⟩ := hj; exact (gd _ r).elim
    | zero =>
      cases j' with
      | succ j' => obtain ⟨e, _, r⟩ := hj'; exact (gd _ r).elim
      | zero => exact Or.inl (hj.trans hj'.symm)
  · have r := wk_ringB h gd hj
    have r' := wk_ringB h gd hj'
    rcases g with g | ⟨_, g⟩
    · obtain ⟨b, hb⟩ := wk_prev r
      exact (g _ hb).elim
    · rcases g' with g' | ⟨_, g'⟩
      · obtain ⟨b, hb⟩ := wk_prev r'
        exact (g' _ hb).elim
      · obtain ⟨i, hi⟩ := wk_back h r hj
        obtain ⟨i', hi'⟩ := wk_back h r' hj'
        have a := g _ _ (wk_app hj hi')
        have b := g' _ _ (wk_app hj' hi)
        exact Or.inr (by omega)
/-- how many numbers below n have P -/
noncomputable def wk_ct (P : Nat → Prop) : Nat → Nat
  | 0 => 0
  | n + 1 => wk_ct P n + @ite _ (P n) (Classical.propDecidable _) 1 0
theorem wk_ct_t {P : Nat → Prop} {n : Nat} (h : P n) : wk_ct P (n + 1) = wk_ct P n + 1 := by
  rw [wk_ct, if_pos h]
theorem wk_ct_f {P : Nat → Prop} {n : Nat} (h : ¬ P n) : wk_ct P (n + 1) = wk_ct P n := by
  rw [wk_ct, if_neg h]
  rfl
theorem wk_ct_c {P Q : Nat → Prop} : ∀ {n : Nat}, (∀ i, i < n → (P i ↔ Q i)) → wk_ct P n = wk_ct Q n := by
  intro n
  induction n with
  | zero => intro _; rfl
  | succ n ih =>
    intro h
    have e := ih (fun i hi => h i (by omega))
    by_cases z : P n
    · rw [wk_ct_t z, wk_ct_t ((h n (by omega)).mp z), e]
    · rw [wk_ct_f z, wk_ct_f (fun q => z ((h n (by omega)).mpr q)), e]
theorem wk_ct_b {P : Nat → Prop} : ∀ n : Nat, wk_ct P n ≤ n := by
  intro n
  induction n with
  | zero => exact Nat.le_refl _
  | succ n ih =>
    by_cases z : P n
    · rw [wk_ct_t z]; omega
    · rw [wk_ct_f z]; omega
theorem wk_ct_e {P : Nat → Prop} : ∀ {n : Nat}, 0 < wk_ct P n → ∃ i, i < n ∧ P i := by
  intro n
  induction n with
  | zero => intro h; exact absurd h (Nat.not_lt_zero _)
  | succ n ih =>
    intro h
    by_cases z : P n
    · exact ⟨n, by omega, z⟩
    · rw [wk_ct_f z] at h
      obtain ⟨i, hi, p⟩ := ih h
      exact ⟨i, by omega, p⟩
theorem wk_ct_all : ∀ n : Nat, wk_ct (fun _ => True) n = n := by
  intro n
  induction n with
  | zero => rfl
  | succ n ih => rw [wk_ct_t True.intro, ih]
theorem wk_ct_rm {P : Nat → Prop} {j : Nat} (hj : P j) : ∀ {m : Nat}, j < m → wk_ct (fun i => P i ∧ i ≠ j) m + 1 = wk_ct P m := by
  intro m
  induction m with
  | zero => intro h; omega
  | succ m ih =>
    intro h
    by_cases z : m = j
    · subst z
      rw [wk_ct_t hj, wk_ct_f (fun q => q.2 rfl)]
      rw [wk_ct_c (P := fun i => P i ∧ i ≠ m) (Q := P) (fun i hi => ⟨fun q => q.1, fun q => ⟨q, by omega⟩⟩)]
    · have e := ih (by omega)
      by_cases y : P m
      · rw [wk_ct_t y, wk_ct_t (P := fun i => P i ∧ i ≠ j) ⟨y, z⟩, e]
      · rw [wk_ct_f y, wk_ct_f (P := fun i => P i ∧ i ≠ j) (fun q => y q.1), e]
theorem wk_ct_le (Z : Nat → Nat → Prop) {m : Nat} {P : Nat → Prop} : ∀ {n : Nat} {Q : Nat → Prop}, (∀ i, i < n → P i → ∃ j, j < m ∧ Q j ∧ Z i j) → (∀ i i' j, i < n → i' < n → P i → P i' → Q j → Z i j → Z i' j → i = i') → wk_ct P n ≤ wk_ct Q m := by
  intro n
  induction n with
  | zero => intro Q _ _; exact Nat.zero_le _
  | succ n ih =>
    intro Q h1 h2
    by_cases z : P n
    · obtain ⟨j, hj, qj, zj⟩ := h1 n (by omega) z
      rw [wk_ct_t z, ← wk_ct_rm qj hj]
      refine Nat.succ_le_succ (ih (fun i hi p => ?_) (fun i i' j' hi hi' p p' q => h2 i i' j' (by omega) (by omega) p p' q.1))
      obtain ⟨j', hj', q', z'⟩ := h1 i (by omega) p
      refine ⟨j', hj', ⟨q', fun e => ?_⟩, z'⟩
      subst e
      have := h2 i n j' (by omega) (by omega) p z q' z' zj
      omega
    · rw [wk_ct_f z]
      exact ih (fun i hi p => h1 i (by omega) p) (fun i i' j' hi hi' => h2 i i' j' (by omega) (by omega))

section
theorem pk_us {f : Nat → Int32} {k : Nat} {x : Int32} : upd f k x k = x := if_pos rfl
theorem pk_un {f : Nat → Int32} {k j : Nat} {x : Int32} (h : j ≠ k) : upd f k x j = f j := if_neg h
theorem pk_sub {a b : Nat} (h : b ≤ a) : nI a - nI b = nI (a - b) := by
  obtain ⟨c, rfl⟩ : ∃ c, a = c + b := ⟨a - b, by omega⟩
  rw [← nI_add, Int32.add_sub_cancel, Nat.add_sub_cancel]
theorem pk_m1 (n : Nat) : nI (n + 1) + (-1) = nI n := by
  rw [← nI_1, Int32.add_assoc, show (1 : Int32) + (-1) = 0 from rfl, Int32.add_zero]
theorem pk_mul (a b : Nat) : nI a * nI b = nI (a * b) := (Int32.ofNat_mul a b).symm
theorem pk_div {a d : Nat} (ha : a < 2 ^ 31) (h0 : 0 < d) (hd : d < 2 ^ 31) : nI a / nI d = nI (a / d) := by
  apply Int32.toInt_inj.mp
  rw [lg_idiv_nonneg (by rw [nI_toInt ha]; omega) (by rw [nI_toInt hd]; omega), nI_toInt ha, nI_toInt hd, nI_toInt (Nat.lt_of_le_of_lt (Nat.div_le_self a d) ha)]
  first | rfl | exact (Int.natCast_ediv _ _).symm
theorem pk_rem {a d : Nat} (ha : a < 2 ^ 31) (h0 : 0 < d) (hd : d < 2 ^ 31) : nI a - nI a / nI d * nI d = nI (a % d) := by
  rw [pk_div ha h0 hd, pk_mul, pk_sub (Nat.div_mul_le_self a d)]
  exact congrArg nI (by have := Nat.div_add_mod' a d; omega)
theorem pk_le {x y : Int32} {A B : Prop} (a b : Nat) (f : a ≤ b → A) (g : b < a → B) (hx : x = nI a := by rfl) (hy : y = nI b := by rfl) (ha : a < 2 ^ 31 := by omega) (hb : b < 2 ^ 31 := by omega) : (x ≤ y → A) ∧ (¬ x ≤ y → B) := by
  subst hx hy
  rw [nI_leI ha hb]
  exact ⟨f, fun z => g (by omega)⟩
theorem pk_lt {x y : Int32} {A B : Prop} (a b : Nat) (f : a < b → A) (g : b ≤ a → B) (hx : x = nI a := by rfl) (hy : y = nI b := by rfl) (ha : a < 2 ^ 31 := by omega) (hb : b < 2 ^ 31 := by omega) : (x < y → A) ∧ (¬ x < y → B) := by
  subst hx hy
  rw [nI_ltI ha hb]
  exact ⟨f, fun z => g (by omega)⟩
theorem pk_eq {x y : Int32} {A B : Prop} (a b : Nat) (f : a = b → A) (g : a ≠ b → B) (hx : x = nI a := by rfl) (hy : y = nI b := by rfl) (ha : a < 2 ^ 31 := by omega) (hb : b < 2 ^ 31 := by omega) : (x = y → A) ∧ (¬ x = y → B) := by
  subst hx hy
  rw [nI_eq ha hb]
  exact ⟨f, g⟩
theorem pk_in {x : Int32} (n N : Nat) (h : n < N) (hx : x = nI n := by rfl) (hN : N < 2 ^ 31 := by omega) : vp_in x N := by
  subst hx
  exact vp_in_nI h hN
theorem pk_cl {x : Int32} (n : Nat) (hx : x = nI n := by rfl) (h : n < 2 ^ 31 := by omega) : x.toNatClampNeg = n := by
  subst hx
  exact nI_clamp h
theorem pk_tn {n : Nat} (h : n < 2 ^ 32) : (nI n).toBitVec.toNat = n := Nat.mod_eq_of_lt h
theorem pk_and (x : Int32) {m : Int32} (k : Nat) (hm : m.toBitVec.toNat = 2 ^ k - 1) : x &&& m = nI (x.toBitVec.toNat % 2 ^ k) := by
  apply Int32.toBitVec_inj.mp
  apply BitVec.eq_of_toNat_eq
  rw [Int32.toBitVec_and, BitVec.toNat_and, hm, Nat.and_two_pow_sub_one_eq_mod]
  show _ = (BitVec.ofNat 32 _).toNat
  rw [BitVec.toNat_ofNat]
  exact (Nat.mod_eq_of_lt (Nat.lt_of_le_of_lt (Nat.mod_le _ _) x.toBitVec.isLt)).symm
theorem pk_andN {n : Nat} (h : n < 2 ^ 32) {m : Int32} (k : Nat) (hm : m.toBitVec.toNat = 2 ^ k - 1) : nI n &&& m = nI (n % 2 ^ k) := by
  rw [pk_and _ k hm, pk_tn h]
theorem pk_andE (x : Int32) {m : Int32} (k : Nat) (hm : m.toBitVec.toNat = 2 ^ k - 1) : ∃ j : Nat, j < 2 ^ k ∧ x &&& m = nI j := ⟨_, Nat.mod_lt _ (Nat.two_pow_pos k), pk_and x k hm⟩
theorem pk_andIn (x : Int32) {m : Int32} (k : Nat) (hm : m.toBitVec.toNat = 2 ^ k - 1) (hk : k ≤ 30) : vp_in (x &&& m) (2 ^ k) := by
  obtain ⟨j, hj, e⟩ := pk_andE x k hm
  rw [e]
  exact vp_in_nI hj (Nat.lt_of_le_of_lt (Nat.pow_le_pow_right (by decide) hk) (by decide))
theorem pk_shl (a s : Int32) (k : Nat) (hs : (s.toBitVec.smod 32).toNat = k) : (a <<< s).toBitVec.toNat = a.toBitVec.toNat * 2 ^ k % 2 ^ 32 := by
  show (a.toBitVec <<< (s.toBitVec.smod 32).toNat).toNat = _
  rw [hs, BitVec.toNat_shiftLeft, Nat.shiftLeft_eq]
theorem pk_shlN {n : Nat} (s : Int32) (k : Nat) (hs : (s.toBitVec.smod 32).toNat = k) (h : n * 2 ^ k < 2 ^ 32) : nI n <<< s = nI (n * 2 ^ k) := by
  apply Int32.toBitVec_inj.mp
  apply BitVec.eq_of_toNat_eq
  have hn : n < 2 ^ 32 := Nat.lt_of_le_of_lt (Nat.le_mul_of_pos_right n (Nat.two_pow_pos k)) h
  rw [pk_shl _ _ k hs, pk_tn hn, pk_tn h, Nat.mod_eq_of_lt h]
theorem pk_shr (a s : Int32) (k : Nat) (hs : (s.toBitVec.smod 32).toNat = k) : (a >>> s).toInt = a.toInt >>> k := by
  show (a.toBitVec.sshiftRight (s.toBitVec.smod 32).toNat).toInt = _
  rw [hs, BitVec.toInt_sshiftRight]
  rfl
theorem pk_shrN {n : Nat} (h : n < 2 ^ 31) (s : Int32) (k : Nat) (hs : (s.toBitVec.smod 32).toNat = k) : nI n >>> s = nI (n / 2 ^ k) := by
  apply Int32.toInt_inj.mp
  have h2 : n / 2 ^ k ≤ n := Nat.div_le_self _ _
  rw [pk_shr _ _ k hs, nI_toInt h, nI_toInt (by omega), Int.shiftRight_eq_div_pow]
  rfl
theorem pk_least (P : Nat → Prop) (h : ∃ k, P k) : ∃ k, P k ∧ ∀ j, j < k → ¬ P j := by
  obtain ⟨k, hk⟩ := h
  induction k using Nat.strongRecOn with
  | ind k ih =>
    by_cases e : ∃ j, j < k ∧ P j
    · obtain ⟨j, hj, pj⟩ := e
      exact ih j hj pj
    · exact ⟨k, hk, fun j hj pj => e ⟨j, hj, pj⟩⟩
end
section
/-- m steps by R from c to d -/
def wk_It (R : Nat → Nat → Prop) : Nat → Nat → Nat → Prop
  | 0, c, d => c = d
  | m + 1, c, d => ∃ e, wk_It R m c e ∧ R e d
/-- R is a partial injection below N -/
def wk_PI (R : Nat → Nat → Prop) (N : Nat) : Prop := (∀ a b b', R a b → R a b' → b = b') ∧ (∀ a a' b, R a b → R a' b → a = a') ∧ (∀ a b, R a b → a < N ∧ b < N)
def wk_Cv (R : Nat → Nat → Prop) : Nat → Nat → Prop := fun a b => R b a
def wk_End (R : Nat → Nat → Prop) (c m e : Nat) : Prop := wk_It R m c e ∧ ∀ d, ¬ R e d
def wk_Ring (R : Nat → Nat → Prop) (c m : Nat) : Prop := 0 < m ∧ wk_It R m c c ∧ ∀ j, 0 < j → j < m → ¬ wk_It R j c c
theorem wk_one {R : Nat → Nat → Prop} {c d : Nat} (h : R c d) : wk_It R 1 c d := ⟨c, rfl, h⟩
theorem wk_add {R : Nat → Nat → Prop} {a : Nat} : ∀ {b c d : Nat}, wk_It R (a + b) c d ↔ ∃ e, wk_It R a c e ∧ wk_It R b e d := by
  intro b
  induction b with
  | zero =>
    intro c d
    constructor
    · intro h; exact ⟨d, h, rfl⟩
    · rintro ⟨e, h, rfl⟩; exact h
  | succ b ih =>
    intro c d
    constructor
    · rintro ⟨e, h, r⟩
      obtain ⟨x, h1, h2⟩ := ih.mp h
      exact ⟨x, h1, e, h2, r⟩
    · rintro ⟨x, h1, e, h2, r⟩
      exact ⟨e, ih.mpr ⟨x, h1, h2⟩, r⟩
theorem wk_app {R : Nat → Nat → Prop} {a b c d e : Nat} (h : wk_It R a c e) (g : wk_It R b e d) : wk_It R (a + b) c d := wk_add.mpr ⟨e, h, g⟩
theorem wk_fun {R : Nat → Nat → Prop} {N : Nat} (h : wk_PI R N) : ∀ {m c d d' : Nat}, wk_It R m c d → wk_It R m c d' → d = d' := by
  intro m
  induction m with
  | zero => intro c d d' h1 h2; exact h1.symm.trans h2
  | succ m ih =>
    rintro c d d' ⟨e, h1, r1⟩ ⟨e', h2, r2⟩
    cases ih h1 h2
    exact h.1 _ _ _ r1 r2
theorem wk_inj {R : Nat → Nat → Prop} {N : Nat} (h : wk_PI R N) : ∀ {m c c' d : Nat}, wk_It R m c d → wk_It R m c' d → c = c' := by
  intro m
  induction m with
  | zero => intro c c' d h1 h2; exact h1.trans h2.symm
  | succ m ih =>
    rintro c c' d ⟨e, h1, r1⟩ ⟨e', h2, r2⟩
    cases h.2.1 _ _ _ r1 r2
    exact ih h1 h2
theorem wk_cvP {R : Nat → Nat → Prop} {N : Nat} (h : wk_PI R N) : wk_PI (wk_Cv R) N :=
  ⟨fun a b b' x y => h.2.1 _ _ _ x y, fun a a' b x y => h.1 _ _ _ x y, fun a b x => ⟨(h.2.2 _ _ x).2, (h.2.2 _ _ x).1⟩⟩
theorem wk_cv {R : Nat → Nat → Prop} : ∀ {m c d : Nat}, wk_It R m c d → wk_It (wk_Cv R) m d c := by
  intro m
  induction m with
  | zero => intro c d h; exact Eq.symm h
  | succ m ih =>
    rintro c d ⟨e, h1, r⟩
    rw [Nat.add_comm]
    exact wk_app (wk_one (R := wk_Cv R) r) (ih h1)
theorem wk_cv' {R : Nat → Nat → Prop} {m c d : Nat} (h : wk_It (wk_Cv R) m c d) : wk_It R m d c := wk_cv (R := wk_Cv R) h
theorem wk_ringCv {R : Nat → Nat → Prop} {c m : Nat} (h : wk_Ring R c m) : wk_Ring (wk_Cv R) c m :=
  ⟨h.1, wk_cv h.2.1, fun j h0 hj z => h.2.2 j h0 hj (wk_cv' z)⟩
theorem wk_ringCv' {R : Nat → Nat → Prop} {c m : Nat} (h : wk_Ring (wk_Cv R) c m) : wk_Ring R c m := wk_ringCv (R := wk_Cv R) h
theorem wk_ph : ∀ (n m : Nat) (h : Nat → Nat), (∀ i, i < m → h i < n) → (∀ i j, i < m → j < m → h i = h j → i = j) → m ≤ n := by
  intro n
  induction n with
  | zero =>
    intro m h hb hi
    rcases Nat.eq_zero_or_pos m with z | z
    · omega
    · exact absurd (hb 0 z) (Nat.not_lt_zero _)
  | succ n ih =>
    intro m h hb hi
    by_cases z : ∃ i, i < m ∧ h i = n
    · obtain ⟨i0, h0, e0⟩ := z
      have q := ih (m - 1) (fun i => if i = i0 then h (m - 1) else h i) (fun i hm => by
        split
        · rename_i e
          have a := hb (m - 1) (by omega)
          have b : h (m - 1) ≠ n := fun q => by have := hi (m - 1) i0 (by omega) h0 (q.trans e0.symm); omega
          omega
        · rename_i e
          have a := hb i (by omega)
          have b : h i ≠ n := fun q => e (hi i i0 (by omega) h0 (q.trans e0.symm))
          omega) (fun i j hm hn => by
        intro q
        split at q <;> split at q
        · omega
        · rename_i e1 e2
          have := hi (m - 1) j (by omega) (by omega) q
          omega
        · rename_i e1 e2
          have := hi i (m - 1) (by omega) (by omega) q
          omega
        · exact hi i j (by omega) (by omega) q)
      omega
    · exact Nat.le_succ_of_le (ih m h (fun i hm => by
        have a := hb i hm
        have b : h i ≠ n := fun q => z ⟨i, hm, q⟩
        omega) hi)
theorem wk_lt {R : Nat → Nat → Prop} {N : Nat} (h : wk_PI R N) {c : Nat} (hc : c < N) : ∀ {j x : Nat}, wk_It R j c x → x < N := by
  intro j x g
  cases j with
  | zero => cases g; exact hc
  | succ j => obtain ⟨e, _, r⟩ := g; exact (h.2.2 _ _ r).2
theorem wk_pre {R : Nat → Nat → Prop} {m c e j : Nat} (g : wk_It R m c e) (hj : j ≤ m) : ∃ x, wk_It R j c x ∧ wk_It R (m - j) x e := by
  have q : j + (m - j) = m := by omega
  rw [← q] at g
  exact wk_add.mp g
theorem wk_bound {R : Nat → Nat → Prop} {N : Nat} (h : wk_PI R N) {c m e : Nat} (hc : c < N) (g : wk_It R m c e) (hn : ∀ j, 0 < j → j ≤ m → ¬ wk_It R j c c) : m < N := by
  have ex : ∀ j, ∃ x, j ≤ m → wk_It R j c x := fun j => by
    by_cases hj : j ≤ m
    · obtain ⟨x, hx, _⟩ := wk_pre g hj
      exact ⟨x, fun _ => hx⟩
    · exact ⟨0, fun z => absurd z hj⟩
  have hv : ∀ j, j ≤ m → wk_It R j c (Classical.choose (ex j)) := fun j hj => Classical.choose_spec (ex j) hj
  have key : ∀ i j, i < j → j ≤ m → Classical.choose (ex i) = Classical.choose (ex j) → False := fun i j hij hj q => by
    have a := hv i (by omega)
    have b := hv j hj
    rw [← q, show j = (j - i) + i from by omega] at b
    obtain ⟨y, b1, b2⟩ := wk_add.mp b
    cases wk_inj h a b2
    exact hn (j - i) (by omega) (by omega) b1
  have q := wk_ph N (m + 1) (fun j => Classical.choose (ex j)) (fun i hi => wk_lt h hc (hv i (by omega))) (fun i j hi hj q => by
    rcases Nat.lt_trichotomy i j with z | z | z
    · exact (key i j z (by omega) q).elim
    · exact z
    · exact (key j i z (by omega) q.symm).elim)
  omega
theorem wk_mul {R : Nat → Nat → Prop} {c m : Nat} (h : wk_It R m c c) : ∀ q, wk_It R (m * q) c c := by
  intro q
  induction q with
  | zero => exact rfl
  | succ q ih => exact wk_app ih h
theorem wk_ringB {R : Nat → Nat → Prop} {N : Nat} (h : wk_PI R N) {c m j s : Nat} (g : wk_Ring R c m) (hj : wk_It R j s c) : wk_Ring R s m := by
  refine ⟨g.1, ?_, fun i h0 hi z => g.2.2 i h0 hi ?_⟩
  · have a := wk_app hj g.2.1
    rw [Nat.add_comm] at a
    obtain ⟨y, a1, a2⟩ := wk_add.mp a
    cases wk_inj h a2 hj
    exact a1
  · have a := wk_app z hj
    rw [Nat.add_comm] at a
    obtain ⟨y, a1, a2⟩ := wk_add.mp a
    cases wk_fun h a1 hj
    exact a2
theorem wk_ringF {R : Nat → Nat → Prop} {N : Nat} (h : wk_PI R N) {c m j s : Nat} (g : wk_Ring R c m) (hj : wk_It R j c s) : wk_Ring R s m :=
  wk_ringCv' (wk_ringB (wk_cvP h) (wk_ringCv g) (wk_cv hj))
theorem wk_back {R : Nat → Nat → Prop} {N : Nat} (h : wk_PI R N) {c m j e : Nat} (g : wk_Ring R c m) (hj : wk_It R j c e) : ∃ i, wk_It R i e c := by
  have a := wk_mul g.2.1 j
  have q : j ≤ m * j := Nat.le_mul_of_pos_left j g.1
  obtain ⟨x, a1, a2⟩ := wk_pre a q
  cases wk_fun h a1 hj
  exact ⟨_, a2⟩
theorem wk_next {R : Nat → Nat → Prop} {N : Nat} (h : wk_PI R N) {c m j e : Nat} (g : wk_Ring R c m) (hj : wk_It R j c e) : ∃ b, R e b := by
  have a := wk_mul g.2.1 (j + 1)
  have q : j + 1 ≤ m * (j + 1) := Nat.le_mul_of_pos_left (j + 1) g.1
  obtain ⟨x, ⟨y, a1, r⟩, a2⟩ := wk_pre a q
  cases wk_fun h a1 hj
  exact ⟨x, r⟩
theorem wk_prev {R : Nat → Nat → Prop} {c m : Nat} (g : wk_Ring R c m) : ∃ b, R b c := by
  obtain ⟨h0, h1, _⟩ := g
  cases m with
  | zero => omega
  | succ m => obtain ⟨e, _, r⟩ := h1; exact ⟨e, r⟩
theorem wk_small {R : Nat → Nat → Prop} {N : Nat} (h : wk_PI R N) {c m : Nat} (g : wk_Ring R c m) : ∀ {j e : Nat}, wk_It R j c e → ∃ i, i < m ∧ wk_It R i c e := by
  intro j
  induction j using Nat.strongRecOn with
  | ind j ih =>
    intro e he
    by_cases z : j < m
    · exact ⟨j, z, he⟩
    · obtain ⟨x, a1, a2⟩ := wk_pre he (Nat.le_of_not_lt z)
      cases wk_fun h a1 g.2.1
      exact ih (j - m) (by have := g.1; omega) a2
theorem wk_endNo {R : Nat → Nat → Prop} {N : Nat} (h : wk_PI R N) {c m e k : Nat} (a : wk_End R c m e) (b : wk_Ring R c k) : False := by
  obtain ⟨x, r⟩ := wk_next h b a.1
  exact a.2 x r
theorem wk_endU {R : Nat → Nat → Prop} {N : Nat} (h : wk_PI R N) {c m m' e e' : Nat} (a : wk_End R c m e) (b : wk_End R c m' e') : m = m' ∧ e = e' := by
  rcases Nat.lt_trichotomy m m' with z | z | z
  · obtain ⟨x, ⟨y, b1, r⟩, b2⟩ := wk_pre (j := m + 1) b.1 z
    cases wk_fun h b1 a.1
    exact (a.2 _ r).elim
  · cases z
    exact ⟨rfl, wk_fun h a.1 b.1⟩
  · obtain ⟨x, ⟨y, b1, r⟩, b2⟩ := wk_pre (j := m' + 1) a.1 z
    cases wk_fun h b1 b.1
    exact (b.2 _ r).elim
theorem wk_ringU {R : Nat → Nat → Prop} {c m m' : Nat} (a : wk_Ring R c m) (b : wk_Ring R c m') : m = m' := by
  rcases Nat.lt_trichotomy m m' with z | z | z
  · exact (b.2.2 m a.1 z a.2.1).elim
  · exact z
  · exact (a.2.2 m' b.1 z b.2.1).elim
theorem wk_join {R : Nat → Nat → Prop} {a b c d e : Nat} (x : wk_End (wk_Cv R) c b e) (y : wk_End R c a d) : wk_End R e (b + a) d :=
  ⟨wk_app (wk_cv' x.1) y.1, y.2⟩
/-- how long the chain of c is -/
def wk_Len (R : Nat → Nat → Prop) (c m : Nat) : Prop := wk_Ring R c m ∨ ∃ a b d e, wk_End R c a d ∧ wk_End (wk_Cv R) c b e ∧ m = a + b + 1
theorem wk_lenU {R : Nat → Nat → Prop} {N : Nat} (h : wk_PI R N) {c m m' : Nat} (x : wk_Len R c m) (y : wk_Len R c m') : m = m' := by
  rcases x with x | ⟨a, b, d, e, x1, x2, rfl⟩
  · rcases y with y | ⟨a', b', d', e', y1, y2, rfl⟩
    · exact wk_ringU x y
    · exact (wk_endNo h y1 x).elim
  · rcases y with y | ⟨a', b', d', e', y1, y2, rfl⟩
    · exact (wk_endNo h x1 y).elim
    · obtain ⟨p, _⟩ := wk_endU h x1 y1
      obtain ⟨q, _⟩ := wk_endU (wk_cvP h) x2 y2
      omega
/-- c stands for its chain: it has none before it, or it has the least rank of its ring -/
def wk_Rep (R : Nat → Nat → Prop) (ρ : Nat → Nat) (c : Nat) : Prop := (∀ z, ¬ R z c) ∨ ((∃ m, wk_Ring R c m) ∧ ∀ j e, wk_It R j c e → ρ c ≤ ρ e)
theorem wk_repE {R : Nat → Nat → Prop} {N : Nat} (h : wk_PI R N) {ρ : Nat → Nat} {c m : Nat} (g : wk_Ring R c m) : ∃ d, wk_Rep R ρ d ∧ ∃ j, wk_It R j c d := by
  obtain ⟨k, ⟨j, d, hd, hk⟩, hl⟩ := pk_least (fun k => ∃ j d, wk_It R j c d ∧ ρ d = k) ⟨_, 0, c, rfl, rfl⟩
  refine ⟨d, Or.inr ⟨⟨m, wk_ringF h g hd⟩, fun i e he => ?_⟩, j, hd⟩
  rw [hk]
  exact Nat.le_of_not_lt fun q => hl _ q ⟨_, _, wk_app hd he, rfl⟩
theorem wk_repX {R : Nat → Nat → Prop} {N : Nat} (h : wk_PI R N) {ρ ρ' : Nat → Nat} {c : Nat} (g : wk_Rep R ρ c) : ∃ d, wk_Rep R ρ' d ∧ ∃ j, wk_It R j c d := by
  rcases g with g | ⟨⟨m, g⟩, _⟩
  · exact ⟨c, Or.inl g, 0, rfl⟩
  · exact wk_repE h g
theorem wk_repI {R : Nat → Nat → Prop} {N : Nat} (h : wk_PI R N) {ρ ρ' : Nat → Nat} {c c' d j j' : Nat} (gd : wk_Rep R ρ' d) (g : wk_Rep R ρ c) (g' : wk_Rep R ρ c') (hj : wk_It R j c d) (hj' : wk_It R j' c' d) : c = c' ∨ ρ c = ρ c' := by
  rcases gd with gd | ⟨⟨m, gd⟩, _⟩
  · cases j with
    | succ j => obtain ⟨e, _, r⟩ := hj; exact (gd _ r).elim
    | zero =>
      cases j' with
      | succ j' => obtain ⟨e, _, r⟩ := hj'; exact (gd _ r).elim
      | zero => exact Or.inl (hj.trans hj'.symm)
  · have r := wk_ringB h gd hj
    have r' := wk_ringB h gd hj'
    rcases g with g | ⟨_, g⟩
    · obtain ⟨b, hb⟩ := wk_prev r
      exact (g _ hb).elim
    · rcases g' with g' | ⟨_, g'⟩
      · obtain ⟨b, hb⟩ := wk_prev r'
        exact (g' _ hb).elim
      · obtain ⟨i, hi⟩ := wk_back h r hj
        obtain ⟨i', hi'⟩ := wk_back h r' hj'
        have a := g _ _ (wk_app hj hi')
        have b := g' _ _ (wk_app hj' hi)
        exact Or.inr (by omega)
/-- how many numbers below n have P -/
noncomputable def wk_ct (P : Nat → Prop) : Nat → Nat
  | 0 => 0
  | n + 1 => wk_ct P n + @ite _ (P n) (Classical.propDecidable _) 1 0
theorem wk_ct_t {P : Nat → Prop} {n : Nat} (h : P n) : wk_ct P (n + 1) = wk_ct P n + 1 := by
  rw [wk_ct, if_pos h]
theorem wk_ct_f {P : Nat → Prop} {n : Nat} (h : ¬ P n) : wk_ct P (n + 1) = wk_ct P n := by
  rw [wk_ct, if_neg h]
  rfl
theorem wk_ct_c {P Q : Nat → Prop} : ∀ {n : Nat}, (∀ i, i < n → (P i ↔ Q i)) → wk_ct P n = wk_ct Q n := by
  intro n
  induction n with
  | zero => intro _; rfl
  | succ n ih =>
    intro h
    have e := ih (fun i hi => h i (by omega))
    by_cases z : P n
    · rw [wk_ct_t z, wk_ct_t ((h n (by omega)).mp z), e]
    · rw [wk_ct_f z, wk_ct_f (fun q => z ((h n (by omega)).mpr q)), e]
theorem wk_ct_b {P : Nat → Prop} : ∀ n : Nat, wk_ct P n ≤ n := by
  intro n
  induction n with
  | zero => exact Nat.le_refl _
  | succ n ih =>
    by_cases z : P n
    · rw [wk_ct_t z]; omega
    · rw [wk_ct_f z]; omega
theorem wk_ct_e {P : Nat → Prop} : ∀ {n : Nat}, 0 < wk_ct P n → ∃ i, i < n ∧ P i := by
  intro n
  induction n with
  | zero => intro h; exact absurd h (Nat.not_lt_zero _)
  | succ n ih =>
    intro h
    by_cases z : P n
    · exact ⟨n, by omega, z⟩
    · rw [wk_ct_f z] at h
      obtain ⟨i, hi, p⟩ := ih h
      exact ⟨i, by omega, p⟩
theorem wk_ct_all : ∀ n : Nat, wk_ct (fun _ => True) n = n := by
  intro n
  induction n with
  | zero => rfl
  | succ n ih => rw [wk_ct_t True.intro, ih]
theorem wk_ct_rm {P : Nat → Prop} {j : Nat} (hj : P j) : ∀ {m : Nat}, j < m → wk_ct (fun i => P i ∧ i ≠ j) m + 1 = wk_ct P m := by
  intro m
  induction m with
  | zero => intro h; omega
  | succ m ih =>
    intro h
    by_cases z : m = j
    · subst z
      rw [wk_ct_t hj, wk_ct_f (fun q => q.2 rfl)]
      rw [wk_ct_c (P := fun i => P i ∧ i ≠ m) (Q := P) (fun i hi => ⟨fun q => q.1, fun q => ⟨q, by omega⟩⟩)]
    · have e := ih (by omega)
      by_cases y : P m
      · rw [wk_ct_t y, wk_ct_t (P := fun i => P i ∧ i ≠ j) ⟨y, z⟩, e]
      · rw [wk_ct_f y, wk_ct_f (P := fun i => P i ∧ i ≠ j) (fun q => y q.1), e]
theorem wk_ct_le (Z : Nat → Nat → Prop) {m : Nat} {P : Nat → Prop} : ∀ {n : Nat} {Q : Nat → Prop}, (∀ i, i < n → P i → ∃ j, j < m ∧ Q j ∧ Z i j) → (∀ i i' j, i < n → i' < n → P i → P i' → Q j → Z i j → Z i' j → i = i') → wk_ct P n ≤ wk_ct Q m := by
  intro n
  induction n with
  | zero => intro Q _ _; exact Nat.zero_le _
  | succ n ih =>
    intro Q h1 h2
    by_cases z : P n
    · obtain ⟨j, hj, qj, zj⟩ := h1 n (by omega) z
      rw [wk_ct_t z, ← wk_ct_rm qj hj]
      refine Nat.succ_le_succ (ih (fun i hi p => ?_) (fun i i' j' hi hi' p p' q => h2 i i' j' (by omega) (by omega) p p' q.1))
      obtain ⟨j', hj', q', z'⟩ := h1 i (by omega) p
      refine ⟨j', hj', ⟨q', fun e => ?_⟩, z'⟩
      subst e
      have := h2 i n j' (by omega) (by omega) p z q' z' zj
      omega
    · rw [wk_ct_f z]
      exact ih (fun i hi p => h1 i (by omega) p) (fun i i' j' hi hi' => h2 i i' j' (by omega) (by omega))
end
section
/-- n letters of c, the last first, each mirrored, behind a -/
def cb_mi : Nat → Nat → Nat → Nat
  | 0, _, a => a
  | n + 1, c, a => cb_mi n (c / 4) (a * 4 + (3 - c % 4))
def cb_mr (n c : Nat) : Nat := cb_mi n c 0
/-- the two shapes: letters of a piece, number of pieces, number of tails -/
def cb_G (K M T : Nat) : Prop := (K = 3 ∧ M = 64 ∧ T = 16) ∨ (K = 5 ∧ M = 1024 ∧ T = 256)
theorem cb_t3 : ∀ c, c < 64 → cb_mr 3 c < 64 ∧ cb_mr 3 (cb_mr 3 c) = c ∧ cb_mr 3 c ≠ c := by decide +kernel
theorem cb_t5 : ∀ c, c < 1024 → cb_mr 5 c < 1024 ∧ cb_mr 5 (cb_mr 5 c) = c ∧ cb_mr 5 c ≠ c := by decide +kernel
theorem cb_mrT {K M T c : Nat} (g : cb_G K M T) (hc : c < M) : cb_mr K c < M ∧ cb_mr K (cb_mr K c) = c ∧ cb_mr K c ≠ c := by
  rcases g with ⟨rfl, rfl, rfl⟩ | ⟨rfl, rfl, rfl⟩
  · exact cb_t3 c hc
  · exact cb_t5 c hc
theorem cb_mr_lt {K M T c : Nat} (g : cb_G K M T) (hc : c < M) : cb_mr K c < M := (cb_mrT g hc).1
theorem cb_mr_mr {K M T c : Nat} (g : cb_G K M T) (hc : c < M) : cb_mr K (cb_mr K c) = c := (cb_mrT g hc).2.1
theorem cb_mr_ne {K M T c : Nat} (g : cb_G K M T) (hc : c < M) : cb_mr K c ≠ c := (cb_mrT g hc).2.2
theorem cb_K {K M T : Nat} (g : cb_G K M T) : 3 ≤ K ∧ K ≤ 5 ∧ M ≤ 1024 ∧ 64 ≤ M ∧ M = T * 4 ∧ 16 ≤ T ∧ 4 ^ K = M := by
  rcases g with ⟨rfl, rfl, rfl⟩ | ⟨rfl, rfl, rfl⟩ <;> decide
/-- the number that n letters of L, from p on, stand for -/
def cb_cd (L : Nat → Nat) (p : Nat) : Nat → Nat
  | 0 => 0
  | n + 1 => cb_cd L p n * 4 + L (p + n)
theorem cb_cd_lt {L : Nat → Nat} (h : ∀ i, L i < 4) {p : Nat} : ∀ n, cb_cd L p n < 4 ^ n := by
  intro n
  induction n with
  | zero => exact Nat.one_pos
  | succ n ih =>
    have a := h (p + n)
    have e : 4 ^ (n + 1) = 4 ^ n * 4 := Nat.pow_succ _ _
    show cb_cd L p n * 4 + L (p + n) < 4 ^ (n + 1)
    omega
theorem cb_cd_c {L L' : Nat → Nat} {p p' : Nat} : ∀ {n : Nat}, (∀ i, i < n → L (p + i) = L' (p' + i)) → cb_cd L p n = cb_cd L' p' n := by
  intro n
  induction n with
  | zero => intro _; rfl
  | succ n ih =>
    intro h
    show cb_cd L p n * 4 + L (p + n) = cb_cd L' p' n * 4 + L' (p' + n)
    rw [ih (fun i hi => h i (by omega)), h n (by omega)]
theorem cb_cd_hd {L : Nat → Nat} {p : Nat} : ∀ n, cb_cd L p (n + 1) = L p * 4 ^ n + cb_cd L (p + 1) n := by
  intro n
  induction n with
  | zero =>
    show cb_cd L p 0 * 4 + L (p + 0) = _
    simp [cb_cd]
  | succ n ih =>
    have e : 4 ^ (n + 1) = 4 ^ n * 4 := Nat.pow_succ _ _
    show cb_cd L p (n + 1) * 4 + L (p + (n + 1)) = L p * 4 ^ (n + 1) + (cb_cd L (p + 1) n * 4 + L (p + 1 + n))
    rw [ih, e, ← Nat.mul_assoc, show p + 1 + n = p + (n + 1) from by omega]
    generalize L p * 4 ^ n = z
    omega
theorem cb_cd_sh {L : Nat → Nat} (h : ∀ i, L i < 4) {p : Nat} (n : Nat) : cb_cd L (p + 1) n = (cb_cd L p n * 4 + L (p + n)) % 4 ^ n := by
  have a : cb_cd L p n * 4 + L (p + n) = L p * 4 ^ n + cb_cd L (p + 1) n := cb_cd_hd n
  rw [a, Nat.mul_comm, Nat.mul_add_mod, Nat.mod_eq_of_lt (cb_cd_lt h n)]
theorem cb_mi_cd {P : Nat → Nat} (h : ∀ i, P i < 4) : ∀ n a, cb_mi n (cb_cd P 0 n) a = a * 4 ^ n + cb_cd (fun i => 3 - P (n - 1 - i)) 0 n := by
  intro n
  induction n with
  | zero => intro a; show a = a * 1 + 0; omega
  | succ n ih =>
    intro a
    have hn := h (0 + n)
    have e1 : cb_cd P 0 (n + 1) / 4 = cb_cd P 0 n := by
      show (cb_cd P 0 n * 4 + P (0 + n)) / 4 = _
      omega
    have e2 : cb_cd P 0 (n + 1) % 4 = P n := by
      show (cb_cd P 0 n * 4 + P (0 + n)) % 4 = _
      rw [Nat.zero_add] at hn ⊢
      omega
    show cb_mi n (cb_cd P 0 (n + 1) / 4) (a * 4 + (3 - cb_cd P 0 (n + 1) % 4)) = _
    rw [e1, e2, ih, cb_cd_hd n]
    have e3 : cb_cd (fun i => 3 - P (n - 1 - i)) 0 n = cb_cd (fun i => 3 - P (n + 1 - 1 - i)) (0 + 1) n := cb_cd_c (fun i hi => by
      show 3 - P (n - 1 - (0 + i)) = 3 - P (n + 1 - 1 - (0 + 1 + i))
      congr 2
      omega)
    rw [e3]
    show (a * 4 + (3 - P n)) * 4 ^ n + _ = a * 4 ^ (n + 1) + ((3 - P n) * 4 ^ n + _)
    rw [Nat.add_mul, Nat.pow_succ, Nat.mul_assoc, Nat.mul_comm 4, Nat.add_assoc]
theorem cb_mr_cd {P : Nat → Nat} (h : ∀ i, P i < 4) (n : Nat) : cb_mr n (cb_cd P 0 n) = cb_cd (fun i => 3 - P (n - 1 - i)) 0 n := by
  unfold cb_mr
  rw [cb_mi_cd h, Nat.zero_mul, Nat.zero_add]
theorem cb_nm {n : Nat} (h : n < 2 ^ 31) : ¬ nI n = -1 := fun q => by
  have a := nI_toInt h
  rw [q, show (-1 : Int32).toInt = -1 from by decide] at a
  omega
theorem cb_or {a d : Nat} (ha : a < 2 ^ 20) (hd : d < 4) : (nI a <<< ((2 : Int32) &&& 31)) ||| nI d = nI (a * 4 + d) := by
  rw [pk_shlN (n := a) ((2 : Int32) &&& 31) 2 (by decide) (by omega)]
  apply Int32.toBitVec_inj.mp
  apply BitVec.eq_of_toNat_eq
  rw [Int32.toBitVec_or, BitVec.toNat_or, pk_tn (by omega), pk_tn (by omega), pk_tn (by omega)]
  have e := Nat.two_pow_add_eq_or_of_lt (i := 2) (b := d) (by omega) a
  rw [Nat.mul_comm a]
  exact e.symm
/-- the letter that an int stands for -/
def cb_l (v : Int32) : Nat := v.toBitVec.toNat % 4
theorem cb_l4 (v : Int32) : cb_l v < 4 := Nat.mod_lt _ (by decide)
theorem cb_and3 (v : Int32) : v &&& 3 = nI (cb_l v) := pk_and v 2 (by decide)
theorem cb_lN {n : Nat} (h : n < 2 ^ 31) : cb_l (nI n) = n % 4 := by
  unfold cb_l
  rw [pk_tn (by omega)]
theorem cb_mask {K M T : Nat} (g : cb_G K M T) {x : Nat} (hx : x < 2 ^ 31) : nI x &&& nI (M - 1) = nI (x % M) := by
  rcases g with ⟨rfl, rfl, rfl⟩ | ⟨rfl, rfl, rfl⟩
  · exact pk_andN (by omega) 6 (by decide)
  · exact pk_andN (by omega) 10 (by decide)
theorem cb_1023 {c : Nat} (h : c < 1024) : nI c &&& 1023 = nI c := by
  rw [pk_andN (by omega) 10 (by decide), Nat.mod_eq_of_lt h]
end
section
theorem xm_loop {post : Int32 → Prop} {n : Nat} (hn : n ≤ 5) : ∀ d i c a, i + d = n → c < 1024 → a < 4 ^ i → post (nI (cb_mi d c a)) → wX_mirrorOf_7 post (nI n) (d + 1) (nI c) (nI a) (nI i) := by
  intro d
  induction d with
  | zero =>
    intro i c a hi hc ha hp
    exact br_t (nI_le (by omega) (by omega)) hp
  | succ d ih =>
    intro i c a hi hc ha hp
    have a1 : 4 ^ i ≤ 4 ^ 5 := Nat.pow_le_pow_right (by decide) (by omega)
    have a2 : a < 1024 := Nat.lt_of_lt_of_le ha a1
    have e4 : 4 ^ (i + 1) = 4 ^ i * 4 := Nat.pow_succ _ _
    refine br_f (nI_ge (by omega) (by omega)) (nm_r (e' := nI (a * 4 + (3 - c % 4))) ?_ (nm_r (e' := nI (c / 4)) ?_ (nm_r (nI_1 i) (ih (i + 1) (c / 4) (a * 4 + (3 - c % 4)) (by omega) (by omega) (by omega) hp))))
    · rw [cb_and3, cb_lN (by omega), show (3 : Int32) = nI 3 from by decide, pk_sub (by omega)]
      exact cb_or (by omega) (by omega)
    · exact pk_shrN (by omega) _ 2 (by decide)
theorem xm_mirrorOf {post : Int32 → Prop} {n c : Nat} (hn : n ≤ 5) (hc : c < 1024) (hp : post (nI (cb_mr n c))) : wpX_mirrorOf post (nI c) (nI n) :=
  ⟨n + 1, xm_loop hn n 0 c 0 (by omega) hc (by decide) hp⟩
/-- d and no other has P -/
def lk_Un (P : Nat → Prop) (d : Nat) : Prop := P d ∧ ∀ e, P e → e = d
/-- e is solid and follows c -/
def lk_Fo (M T : Nat) (S : Nat → Prop) (c e : Nat) : Prop := e < M ∧ S e ∧ c % T = e / 4
/-- e is solid and leads to d -/
def lk_Le (M T : Nat) (S : Nat → Prop) (d e : Nat) : Prop := e < M ∧ S e ∧ e % T = d / 4
/-- c is linked to d -/
def lk_R (K M T : Nat) (S : Nat → Prop) (c d : Nat) : Prop := lk_Un (lk_Fo M T S c) d ∧ lk_Un (lk_Le M T S d) c ∧ c ≠ d ∧ cb_mr K c ≠ d
theorem lk_UnU {P : Nat → Prop} {a b : Nat} (x : lk_Un P a) (y : lk_Un P b) : a = b := y.2 a x.1
theorem lk_PI {K M T : Nat} {S : Nat → Prop} : wk_PI (lk_R K M T S) M :=
  ⟨fun a b b' x y => lk_UnU x.1 y.1, fun a a' b x y => lk_UnU x.2.1 y.2.1, fun a b x => ⟨x.2.1.1.1, x.1.1.1⟩⟩
section
variable {K M T fl : Nat} {x5 x6 x7 x8 x9 : Int32} {cs : Nat → Int32} {S : Nat → Prop} {post : Int32 → Prop}
theorem xs_isSolid (g : cb_G K M T) (hS : ∀ c, c < M → (cs c < nI fl ↔ ¬ S c)) {c : Nat} (hc : c < M) (h1 : S c → post 1) (h0 : ¬ S c → post 0) :
    wpX_isSolid post (nI K, nI (M - 1), nI T, nI fl, x5, x6, x7, x8, x9, cs) (nI c) := by
  have k := cb_K g
  unfold wpX_isSolid
  dsimp only
  rw [cb_1023 (by omega), nI_clamp (by omega)]
  exact ⟨vp_in_nI (by omega) (by decide), fun h => h0 ((hS c hc).mp h), fun h => h1 (Classical.byContradiction fun q => h ((hS c hc).mpr q))⟩
theorem xs_o4L (g : cb_G K M T) (hS : ∀ c, c < M → (cs c < nI fl ↔ ¬ S c)) {a b : Nat} (hg : ∀ l, l < 4 → a + l * b < M)
    (h1 : ∀ l, l < 4 → S (a + l * b) → (∀ j, j < 4 → S (a + j * b) → j = l) → post (nI (a + l * b)))
    (h0 : (∀ l, l < 4 → S (a + l * b) → (∀ j, j < 4 → S (a + j * b) → j = l) → False) → post (-1)) :
    ∀ d i x, i + d = 4 → ((x = -1 ∧ ∀ l, l < i → ¬ S (a + l * b)) ∨ (∃ l, l < i ∧ x = nI (a + l * b) ∧ S (a + l * b) ∧ ∀ j, j < i → S (a + j * b) → j = l)) →
    wX_onlySolidOfFour_5 post (nI a) (nI b) (nI K) (nI (M - 1)) (nI T) (nI fl) x5 x6 x7 x8 x9 cs (d + 1) x (nI i) := by
  have k := cb_K g
  intro d
  induction d with
  | zero =>
    intro i x hi hx
    have i4 : i = 4 := by omega
    subst i4
    refine br_t (nI_le (a := 4) (by omega) (by decide)) ?_
    rcases hx with ⟨rfl, hx⟩ | ⟨l, hl, rfl, hs, hu⟩
    · exact h0 fun l hl s _ => hx l hl s
    · exact h1 l hl hs hu
  | succ d ih =>
    intro i x hi hx
    refine br_f (nI_ge (b := 4) (by omega) (by decide)) (nm_r (e' := nI (a + i * b)) (by rw [pk_mul, nI_add]) (xs_isSolid g hS (hg i (by omega)) (fun s => br_f (by decide) ?_) (fun s => br_t rfl (nm_r (nI_1 i) (ih (i + 1) x (by omega) ?_)))))
    · rcases hx with ⟨rfl, hx⟩ | ⟨l, hl, rfl, hs, hu⟩
      · exact br_t rfl (nm_r (nI_1 i) (ih (i + 1) _ (by omega) (Or.inr ⟨i, by omega, rfl, s, fun j hj sj => by
          rcases Nat.lt_or_ge j i with z | z
          · exact (hx j z sj).elim
          · omega⟩)))
      · have q := hg l (by omega)
        refine br_f (cb_nm (by omega)) (h0 fun m hm sm um => ?_)
        have z1 := um l (by omega) hs
        have z2 := um i (by omega) s
        omega
    · rcases hx with ⟨rfl, hx⟩ | ⟨l, hl, rfl, hs, hu⟩
      · exact Or.inl ⟨rfl, fun l hl sl => by
          rcases Nat.lt_or_ge l i with z | z
          · exact hx l z sl
          · have : l = i := by omega
            subst this
            exact s sl⟩
      · exact Or.inr ⟨l, by omega, rfl, hs, fun j hj sj => by
          rcases Nat.lt_or_ge j i with z | z
          · exact hu j z sj
          · have : j = i := by omega
            subst this
            exact (s sj).elim⟩
theorem xs_o4 (g : cb_G K M T) (hS : ∀ c, c < M → (cs c < nI fl ↔ ¬ S c)) {a b : Nat} (hg : ∀ l, l < 4 → a + l * b < M)
    (h1 : ∀ l, l < 4 → S (a + l * b) → (∀ j, j < 4 → S (a + j * b) → j = l) → post (nI (a + l * b)))
    (h0 : (∀ l, l < 4 → S (a + l * b) → (∀ j, j < 4 → S (a + j * b) → j = l) → False) → post (-1)) :
    wpX_onlySolidOfFour post (nI K, nI (M - 1), nI T, nI fl, x5, x6, x7, x8, x9, cs) (nI a) (nI b) :=
  ⟨5, xs_o4L g hS hg h1 h0 4 0 (-1) rfl (Or.inl ⟨rfl, fun l hl => absurd hl (Nat.not_lt_zero _)⟩)⟩
theorem xs_onlyFollower (g : cb_G K M T) (hS : ∀ c, c < M → (cs c < nI fl ↔ ¬ S c)) {c : Nat} (hc : c < M)
    (h1 : ∀ d, lk_Un (lk_Fo M T S c) d → post (nI d)) (h0 : (∀ d, ¬ lk_Un (lk_Fo M T S c) d) → post (-1)) :
    wpX_onlyFollower post (nI K, nI (M - 1), nI T, nI fl, x5, x6, x7, x8, x9, cs) (nI c) := by
  have k := cb_K g
  have tp : c % T < T := Nat.mod_lt _ (by omega)
  have e : (nI c <<< ((2 : Int32) &&& 31)) &&& nI (M - 1) = nI (c % T * 4) := by
    rw [pk_shlN (n := c) ((2 : Int32) &&& 31) 2 (by decide) (by omega), cb_mask g (by omega)]
    rw [show c * 2 ^ 2 = c * 4 from rfl, k.2.2.2.2.1, Nat.mul_mod_mul_right]
  have fo : ∀ d, lk_Fo M T S c d → ∃ l, l < 4 ∧ d = c % T * 4 + l * 1 ∧ S d := fun d ⟨h1, h2, h3⟩ => ⟨d % 4, by omega, by omega, h2⟩
  have of : ∀ l, l < 4 → S (c % T * 4 + l * 1) → lk_Fo M T S c (c % T * 4 + l * 1) := fun l hl s => ⟨by omega, s, by omega⟩
  unfold wpX_onlyFollower
  dsimp only
  refine nm_r e (xs_o4 (b := 1) g hS (fun l hl => by omega) (fun l hl s u => h1 _ ⟨of l hl s, fun d hd => ?_⟩) (fun no => h0 fun d hd => ?_))
  · obtain ⟨j, hj, rfl, sj⟩ := fo d hd
    rw [u j hj sj]
  · obtain ⟨j, hj, rfl, sj⟩ := fo d hd.1
    refine no j hj sj fun i hi si => ?_
    have := hd.2 _ (of i hi si)
    omega
theorem xs_onlyLeader (g : cb_G K M T) (hS : ∀ c, c < M → (cs c < nI fl ↔ ¬ S c)) {c : Nat} (hc : c < M)
    (h1 : ∀ d, lk_Un (lk_Le M T S c) d → post (nI d)) (h0 : (∀ d, ¬ lk_Un (lk_Le M T S c) d) → post (-1)) :
    wpX_onlyLeader post (nI K, nI (M - 1), nI T, nI fl, x5, x6, x7, x8, x9, cs) (nI c) := by
  have k := cb_K g
  have e : nI c >>> ((2 : Int32) &&& 31) = nI (c / 4) := pk_shrN (by omega) _ 2 (by decide)
  have fo : ∀ d, lk_Le M T S c d → ∃ l, l < 4 ∧ d = c / 4 + l * T ∧ S d := fun d ⟨h1, h2, h3⟩ => by
    refine ⟨d / T, Nat.div_lt_of_lt_mul (by omega), ?_, h2⟩
    have := Nat.mod_add_div' d T
    omega
  have of : ∀ l, l < 4 → S (c / 4 + l * T) → lk_Le M T S c (c / 4 + l * T) := fun l hl s => by
    refine ⟨?_, s, ?_⟩
    · have : l * T ≤ 3 * T := Nat.mul_le_mul_right T (by omega)
      omega
    · rw [Nat.add_mul_mod_self_right, Nat.mod_eq_of_lt (by omega)]
  have bd : ∀ l, l < 4 → c / 4 + l * T < M := fun l hl => by
    have : l * T ≤ 3 * T := Nat.mul_le_mul_right T (by omega)
    omega
  unfold wpX_onlyLeader
  dsimp only
  refine nm_r e (xs_o4 g hS bd (fun l hl s u => h1 _ ⟨of l hl s, fun d hd => ?_⟩) (fun no => h0 fun d hd => ?_))
  · obtain ⟨j, hj, rfl, sj⟩ := fo d hd
    rw [u j hj sj]
  · obtain ⟨j, hj, rfl, sj⟩ := fo d hd.1
    refine no j hj sj fun i hi si => ?_
    have := hd.2 _ (of i hi si)
    have q : i * T = j * T := by omega
    exact Nat.eq_of_mul_eq_mul_right (by omega) q
theorem xs_same (g : cb_G K M T) {c d : Nat} (hc : c < M) (hd : d < M) (h1 : (c = d ∨ cb_mr K c = d) → post 1) (h0 : c ≠ d → cb_mr K c ≠ d → post 0) :
    wpX_areSameOrMirrors post (nI K, nI (M - 1), nI T, nI fl, x5, x6, x7, x8, x9, cs) (nI c) (nI d) := by
  have k := cb_K g
  have hm := cb_mr_lt g hc
  unfold wpX_areSameOrMirrors
  dsimp only
  refine pk_eq c d (fun e => h1 (Or.inl e)) (fun ne => xm_mirrorOf (by omega) (by omega) (pk_eq (cb_mr K c) d (fun e => h1 (Or.inr e)) (fun ne' => h0 ne ne') rfl rfl ?_ ?_)) rfl rfl ?_ ?_ <;> omega
theorem xs_linkedAfter (g : cb_G K M T) (hS : ∀ c, c < M → (cs c < nI fl ↔ ¬ S c)) {c : Nat} (hc : c < M)
    (h1 : ∀ d, lk_R K M T S c d → post (nI d)) (h0 : (∀ d, ¬ lk_R K M T S c d) → post (-1)) :
    wpX_linkedAfter post (nI K, nI (M - 1), nI T, nI fl, x5, x6, x7, x8, x9, cs) (nI c) := by
  have k := cb_K g
  unfold wpX_linkedAfter
  dsimp only
  refine xs_onlyFollower g hS hc (fun d hd => ?_) (fun no => br_t rfl (h0 fun d hd => no d hd.1))
  have dM : d < M := hd.1.1
  refine br_f (cb_nm (by omega)) (xs_onlyLeader g hS dM (fun e he => ?_) (fun no => ?_))
  · have eM : e < M := he.1.1
    refine pk_eq e c (fun ec => ?_) (fun ne => h0 fun d' hd' => ?_) rfl rfl ?_ ?_
    · subst ec
      exact xs_same g hc dM (fun q => br_f (by decide) (h0 fun d' hd' => by
        cases lk_UnU hd hd'.1
        rcases q with q | q
        · exact hd'.2.2.1 q
        · exact hd'.2.2.2 q)) (fun n1 n2 => br_t rfl (h1 d ⟨hd, he, n1, n2⟩))
    · cases lk_UnU hd hd'.1
      exact ne (lk_UnU he hd'.2.1)
    · omega
    · omega
  · refine br_f (fun q => cb_nm (n := c) (by omega) q.symm) (h0 fun d' hd' => ?_)
    cases lk_UnU hd hd'.1
    exact no c hd'.2.1
theorem xs_linkedBefore (g : cb_G K M T) (hS : ∀ c, c < M → (cs c < nI fl ↔ ¬ S c)) {c : Nat} (hc : c < M)
    (h1 : ∀ d, lk_R K M T S d c → post (nI d)) (h0 : (∀ d, ¬ lk_R K M T S d c) → post (-1)) :
    wpX_linkedBefore post (nI K, nI (M - 1), nI T, nI fl, x5, x6, x7, x8, x9, cs) (nI c) := by
  have k := cb_K g
  unfold wpX_linkedBefore
  dsimp only
  refine xs_onlyLeader g hS hc (fun d hd => ?_) (fun no => br_t rfl (h0 fun d hd => no d hd.2.1))
  have dM : d < M := hd.1.1
  refine br_f (cb_nm (by omega)) (xs_onlyFollower g hS dM (fun e he => ?_) (fun no => ?_))
  · have eM : e < M := he.1.1
    refine pk_eq e c (fun ec => ?_) (fun ne => h0 fun d' hd' => ?_) rfl rfl ?_ ?_
    · subst ec
      exact xs_same g hc dM (fun q => br_f (by decide) (h0 fun d' hd' => by
        cases lk_UnU hd hd'.2.1
        rcases q with q | q
        · exact hd'.2.2.1 q.symm
        · exact hd'.2.2.2 (by rw [← q]; exact cb_mr_mr g hc))) (fun n1 n2 => br_t rfl (h1 d ⟨he, hd, fun q => n1 q.symm, fun q => n2 (by rw [← q]; exact cb_mr_mr g dM)⟩))
    · cases lk_UnU hd hd'.2.1
      exact ne (lk_UnU he hd'.1)
    · omega
    · omega
  · refine br_f (fun q => cb_nm (n := c) (by omega) q.symm) (h0 fun d' hd' => ?_)
    cases lk_UnU hd hd'.2.1
    exact no c hd'.1
end
end
section
theorem wk_split {R : Nat → Nat → Prop} {N : Nat} (h : wk_PI R N) {c b e m d : Nat} (x : wk_End (wk_Cv R) c b e) (y : wk_End R e m d) : ∃ a, wk_End R c a d ∧ m = b + a := by
  have x1 := wk_cv' x.1
  rcases Nat.lt_or_ge m b with z | z
  · obtain ⟨p, ⟨q, a1, r⟩, _⟩ := wk_pre (j := m + 1) x1 z
    cases wk_fun h a1 y.1
    exact (y.2 _ r).elim
  · obtain ⟨p, a1, a2⟩ := wk_pre y.1 z
    cases wk_fun h a1 x1
    exact ⟨m - b, ⟨a2, y.2⟩, by omega⟩
section
variable {K M T fl : Nat} {x5 x6 x7 x8 x9 : Int32} {cs : Nat → Int32} {S : Nat → Prop} {post : Int32 → Prop}
theorem xs_startL (g : cb_G K M T) (hS : ∀ c, c < M → (cs c < nI fl ↔ ¬ S c)) {c : Nat} (hc : c < M)
    (h1 : ∀ m e, e < M → wk_End (wk_Cv (lk_R K M T S)) c m e → post (nI e))
    (h2 : ∀ m l, l < M → wk_Ring (lk_R K M T S) c m → (∃ j, wk_It (lk_R K M T S) j l c) → (∀ j e, wk_It (lk_R K M T S) j e c → l ≤ e) → post (nI l)) :
    ∀ d i l r, i + d = M → r < M → wk_It (lk_R K M T S) i r c → (∀ j, 0 < j → j ≤ i → ¬ wk_It (lk_R K M T S) j c c) → l < M → (∃ j, wk_It (lk_R K M T S) j l c) → (∀ j e, j ≤ i → wk_It (lk_R K M T S) j e c → l ≤ e) →
    wX_startOfChain_7 post (nI c) (nI K) (nI (M - 1)) (nI T) (nI fl) x5 x6 x7 x8 x9 cs (d + 1) (nI l) (nI r) (nI i) := by
  have k := cb_K g
  have pi := lk_PI (K := K) (M := M) (T := T) (S := S)
  intro d
  induction d with
  | zero =>
    intro i l r hi hr w nr hl el ml
    have := wk_bound (wk_cvP pi) hc (wk_cv w) (fun j h0 hj z => nr j h0 hj (wk_cv' z))
    omega
  | succ d ih =>
    intro i l r hi hr w nr hl el ml
    refine br_f (nI_nlt (by omega) (by omega)) (xs_linkedBefore g hS hr (fun z hz => br_f (cb_nm ?_) ?_) (fun no => br_t rfl (h1 i r hr ⟨wk_cv w, fun d' => no d'⟩)))
    · have := (pi.2.2 _ _ hz).1
      omega
    · have zM := (pi.2.2 _ _ hz).1
      have w1 : wk_It (lk_R K M T S) (i + 1) z c := by rw [Nat.add_comm]; exact wk_app (wk_one hz) w
      refine pk_eq z c (fun e => ?_) (fun ne => ?_) rfl rfl (by omega) (by omega)
      · subst e
        have rg : wk_Ring (lk_R K M T S) z (i + 1) := ⟨by omega, w1, fun j h0 hj => nr j h0 (by omega)⟩
        refine h2 (i + 1) l hl rg el (fun j e he => ?_)
        obtain ⟨j', hj', he'⟩ := wk_small (wk_cvP pi) (wk_ringCv rg) (wk_cv he)
        exact ml j' e (by omega) (wk_cv' he')
      · have nr' : ∀ j, 0 < j → j ≤ i + 1 → ¬ wk_It (lk_R K M T S) j c c := fun j h0 hj q => by
          rcases Nat.lt_or_ge i j with z1 | z1
          · have : j = i + 1 := by omega
            subst this
            exact ne (wk_inj pi w1 q)
          · exact nr j h0 z1 q
        refine pk_le l z (fun le => nm_r (nI_1 i) (ih (i + 1) l z (by omega) zM w1 nr' hl el (fun j e hj he => ?_))) (fun lt => nm_r (nI_1 i) (ih (i + 1) z z (by omega) zM w1 nr' zM ⟨_, w1⟩ (fun j e hj he => ?_))) rfl rfl (by omega) (by omega)
        · rcases Nat.lt_or_ge i j with z1 | z1
          · have : j = i + 1 := by omega
            subst this
            cases wk_inj pi w1 he
            exact le
          · exact ml j e z1 he
        · rcases Nat.lt_or_ge i j with z1 | z1
          · have : j = i + 1 := by omega
            subst this
            cases wk_inj pi w1 he
            exact Nat.le_refl _
          · have := ml j e z1 he
            omega
theorem xs_start (g : cb_G K M T) (hS : ∀ c, c < M → (cs c < nI fl ↔ ¬ S c)) {c : Nat} (hc : c < M)
    (h1 : ∀ m e, e < M → wk_End (wk_Cv (lk_R K M T S)) c m e → post (nI e))
    (h2 : ∀ m l, l < M → wk_Ring (lk_R K M T S) c m → (∃ j, wk_It (lk_R K M T S) j l c) → (∀ j e, wk_It (lk_R K M T S) j e c → l ≤ e) → post (nI l)) :
    wpX_startOfChain post (nI K, nI (M - 1), nI T, nI fl, x5, x6, x7, x8, x9, cs) (nI c) :=
  ⟨M + 1, xs_startL g hS hc h1 h2 M 0 c c (by omega) hc rfl (fun j h0 hj => by omega) hc ⟨0, rfl⟩ (fun j e hj he => by
    have : j = 0 := by omega
    subst this
    cases he
    exact Nat.le_refl _)⟩
theorem xs_lenL (g : cb_G K M T) (hS : ∀ c, c < M → (cs c < nI fl ↔ ¬ S c)) {s : Nat} (hs : s < M)
    (h1 : ∀ m e, m < M → wk_End (lk_R K M T S) s m e → post (nI (m + 1)))
    (h2 : ∀ m, m ≤ M → wk_Ring (lk_R K M T S) s m → post (nI m)) :
    ∀ d i r x, i + d = M → r < M → wk_It (lk_R K M T S) i s r → (∀ j, 0 < j → j ≤ i → ¬ wk_It (lk_R K M T S) j s s) → ((∃ z, lk_R K M T S r z ∧ x = nI z) ∨ (x = -1 ∧ ∀ z, ¬ lk_R K M T S r z)) →
    wX_lengthFrom_8 post (nI s) (nI K) (nI (M - 1)) (nI T) (nI fl) x5 x6 x7 x8 x9 cs (d + 1) (nI (i + 1)) x := by
  have k := cb_K g
  have pi := lk_PI (K := K) (M := M) (T := T) (S := S)
  intro d
  induction d with
  | zero =>
    intro i r x hi hr w nr hx
    have := wk_bound pi hs w nr
    omega
  | succ d ih =>
    intro i r x hi hr w nr hx
    have bd := wk_bound pi hs w nr
    rcases hx with ⟨z, hz, rfl⟩ | ⟨rfl, no⟩
    · have zM := (pi.2.2 _ _ hz).2
      have w1 : wk_It (lk_R K M T S) (i + 1) s z := ⟨r, w, hz⟩
      refine br_f (cb_nm (by omega)) (pk_eq z s (fun e => ?_) (fun ne => ?_) rfl rfl (by omega) (by omega))
      · subst e
        exact h2 (i + 1) (by omega) ⟨by omega, w1, fun j h0 hj => nr j h0 (by omega)⟩
      · have nr' : ∀ j, 0 < j → j ≤ i + 1 → ¬ wk_It (lk_R K M T S) j s s := fun j h0 hj q => by
          rcases Nat.lt_or_ge i j with z1 | z1
          · have : j = i + 1 := by omega
            subst this
            exact ne (wk_fun pi w1 q)
          · exact nr j h0 z1 q
        have bd' := wk_bound pi hs w1 nr'
        refine br_f (nI_nlt (by omega) (by omega)) (nm_r (nI_1 (i + 1)) (xs_linkedAfter g hS zM (fun y hy => ih (i + 1) z _ (by omega) zM w1 nr' (Or.inl ⟨y, hy, rfl⟩)) (fun no => ih (i + 1) z _ (by omega) zM w1 nr' (Or.inr ⟨rfl, no⟩))))
    · exact br_t rfl (h1 i r bd ⟨w, no⟩)
theorem xs_len (g : cb_G K M T) (hS : ∀ c, c < M → (cs c < nI fl ↔ ¬ S c)) {s : Nat} (hs : s < M)
    (h1 : ∀ m e, m < M → wk_End (lk_R K M T S) s m e → post (nI (m + 1)))
    (h2 : ∀ m, m ≤ M → wk_Ring (lk_R K M T S) s m → post (nI m)) :
    wpX_lengthFrom post (nI K, nI (M - 1), nI T, nI fl, x5, x6, x7, x8, x9, cs) (nI s) := by
  unfold wpX_lengthFrom
  dsimp only
  have z : ∀ j, 0 < j → j ≤ 0 → ¬ wk_It (lk_R K M T S) j s s := fun j h0 hj => by omega
  exact xs_linkedAfter g hS hs (fun y hy => ⟨M + 1, xs_lenL g hS hs h1 h2 M 0 s _ (by omega) hs rfl z (Or.inl ⟨y, hy, rfl⟩)⟩) (fun no => ⟨M + 1, xs_lenL g hS hs h1 h2 M 0 s _ (by omega) hs rfl z (Or.inr ⟨rfl, no⟩)⟩)
/-- the length of c's chain, by X -/
theorem xs_chainLen (g : cb_G K M T) (hS : ∀ c, c < M → (cs c < nI fl ↔ ¬ S c)) {c : Nat} (hc : c < M) (hp : ∀ m, wk_Len (lk_R K M T S) c m → post (nI m)) :
    wpX_startOfChain (fun r => wpX_lengthFrom post (nI K, nI (M - 1), nI T, nI fl, x5, x6, x7, x8, x9, cs) r) (nI K, nI (M - 1), nI T, nI fl, x5, x6, x7, x8, x9, cs) (nI c) := by
  have pi := lk_PI (K := K) (M := M) (T := T) (S := S)
  refine xs_start g hS hc (fun b e he x => xs_len g hS he (fun m d _ y => ?_) (fun m _ y => ?_)) (fun m l hl x ⟨j, hj⟩ _ => xs_len g hS hl (fun m' d _ y => ?_) (fun m' _ y => ?_))
  · obtain ⟨a, ha, e⟩ := wk_split pi x y
    refine hp (m + 1) (Or.inr ⟨a, b, _, _, ha, x, by omega⟩)
  · obtain ⟨z, hz⟩ := wk_prev y
    exact (x.2 _ hz).elim
  · exact (wk_endNo pi y (wk_ringB pi x hj)).elim
  · cases wk_ringU y (wk_ringB pi x hj)
    exact hp _ (Or.inl x)
/-- X asks whether c is its own chain's start -/
theorem xs_isStart (g : cb_G K M T) (hS : ∀ c, c < M → (cs c < nI fl ↔ ¬ S c)) {c : Nat} (hc : c < M) {A B : Prop}
    (ha : wk_Rep (lk_R K M T S) (fun x => x) c → A) (hb : ¬ wk_Rep (lk_R K M T S) (fun x => x) c → B) :
    wpX_startOfChain (fun r => (r = nI c → A) ∧ (¬ r = nI c → B)) (nI K, nI (M - 1), nI T, nI fl, x5, x6, x7, x8, x9, cs) (nI c) := by
  have k := cb_K g
  have pi := lk_PI (K := K) (M := M) (T := T) (S := S)
  refine xs_start g hS hc (fun b e he x => pk_eq e c (fun q => ?_) (fun ne => ?_) rfl rfl ?_ ?_) (fun m l hl x el ml => pk_eq l c (fun q => ?_) (fun ne => ?_) rfl rfl ?_ ?_)
  · subst q
    exact ha (Or.inl x.2)
  · refine hb fun rp => ?_
    rcases rp with rp | ⟨⟨m, rp⟩, _⟩
    · cases b with
      | zero => exact ne x.1.symm
      | succ b =>
        obtain ⟨y, ⟨z, y1, r⟩, y2⟩ := wk_pre (j := 1) x.1 (by omega)
        cases y1
        exact rp _ r
    · exact wk_endNo (wk_cvP pi) x (wk_ringCv rp)
  · omega
  · omega
  · subst q
    refine ha (Or.inr ⟨⟨m, x⟩, fun j e he => ?_⟩)
    obtain ⟨i, hi⟩ := wk_back pi x he
    exact ml i e hi
  · refine hb fun rp => ?_
    rcases rp with rp | ⟨_, rp⟩
    · obtain ⟨z, hz⟩ := wk_prev x
      exact rp _ hz
    · obtain ⟨j, hj⟩ := el
      obtain ⟨i, hi⟩ := wk_back pi (wk_ringB pi x hj) hj
      have a := rp i l hi
      have b := ml 0 c rfl
      exact ne (Nat.le_antisymm b a)
  · omega
  · omega
theorem xs_repLen (g : cb_G K M T) (hS : ∀ c, c < M → (cs c < nI fl ↔ ¬ S c)) {c : Nat} (hc : c < M) (rp : wk_Rep (lk_R K M T S) (fun x => x) c) (hp : ∀ m, m ≤ M → wk_Len (lk_R K M T S) c m → post (nI m)) :
    wpX_lengthFrom post (nI K, nI (M - 1), nI T, nI fl, x5, x6, x7, x8, x9, cs) (nI c) := by
  have pi := lk_PI (K := K) (M := M) (T := T) (S := S)
  refine xs_len g hS hc (fun m e hm x => ?_) (fun m hm x => hp m hm (Or.inl x))
  rcases rp with rp | ⟨⟨m', rp⟩, _⟩
  · exact hp (m + 1) (by omega) (Or.inr ⟨m, 0, e, c, x, ⟨rfl, rp⟩, by omega⟩)
  · exact (wk_endNo pi x rp).elim
theorem xs_beforeL (g : cb_G K M T) (hS : ∀ c, c < M → (cs c < nI fl ↔ ¬ S c)) {c : Nat} (hc : c < M)
    (h1 : ∀ m e, wk_End (wk_Cv (lk_R K M T S)) c m e → post (nI m)) (h2 : ∀ m, wk_Ring (lk_R K M T S) c m → post (-2)) :
    ∀ d i r, i + d = M → r < M → wk_It (lk_R K M T S) i r c → (∀ j, 0 < j → j ≤ i → ¬ wk_It (lk_R K M T S) j c c) →
    wX_before_16 post (nI K) (nI (M - 1)) (nI T) (nI fl) x5 x6 x7 (nI c) x9 cs (d + 1) (nI r) (nI i) := by
  have k := cb_K g
  have pi := lk_PI (K := K) (M := M) (T := T) (S := S)
  intro d
  induction d with
  | zero =>
    intro i r hi hr w nr
    have := wk_bound (wk_cvP pi) hc (wk_cv w) (fun j h0 hj z => nr j h0 hj (wk_cv' z))
    omega
  | succ d ih =>
    intro i r hi hr w nr
    refine br_f (nI_nlt (by omega) (by omega)) (xs_linkedBefore g hS hr (fun z hz => br_f (cb_nm ?_) ?_) (fun no => br_t rfl (h1 i r ⟨wk_cv w, fun d' => no d'⟩)))
    · have := (pi.2.2 _ _ hz).1
      omega
    · have zM := (pi.2.2 _ _ hz).1
      have w1 : wk_It (lk_R K M T S) (i + 1) z c := by rw [Nat.add_comm]; exact wk_app (wk_one hz) w
      refine pk_eq z c (fun e => ?_) (fun ne => ?_) rfl rfl (by omega) (by omega)
      · subst e
        exact h2 (i + 1) ⟨by omega, w1, fun j h0 hj => nr j h0 (by omega)⟩
      · exact nm_r (nI_1 i) (ih (i + 1) z (by omega) zM w1 (fun j h0 hj q => by
          rcases Nat.lt_or_ge i j with z1 | z1
          · have : j = i + 1 := by omega
            subst this
            exact ne (wk_inj pi w1 q)
          · exact nr j h0 z1 q))
theorem xs_solidL (g : cb_G K M T) (hS : ∀ c, c < M → (cs c < nI fl ↔ ¬ S c)) (hp : post (nI (wk_ct S M) / 2)) :
    ∀ d i, i + d = M → wX_solid_4 post (nI K) (nI (M - 1)) (nI T) (nI fl) x5 x6 x7 x8 x9 cs (d + 1) (nI (wk_ct S i)) (nI i) := by
  have k := cb_K g
  intro d
  induction d with
  | zero =>
    intro i hi
    cases show i = M from by omega
    exact br_t (nI_lt (by omega) (by omega)) ⟨by decide, hp⟩
  | succ d ih =>
    intro i hi
    refine br_f (nI_nlt (by omega) (by omega)) (xs_isSolid g hS (by omega) (fun s => br_f (by decide) (nm_r (nI_1 _) (nm_r (nI_1 i) ?_))) (fun s => br_t rfl (nm_r (nI_1 i) ?_)))
    · rw [← wk_ct_t s]; exact ih (i + 1) (by omega)
    · rw [← wk_ct_f s]; exact ih (i + 1) (by omega)
theorem xs_chainsL (g : cb_G K M T) (hS : ∀ c, c < M → (cs c < nI fl ↔ ¬ S c)) (hp : post (nI (wk_ct (fun c => S c ∧ wk_Rep (lk_R K M T S) (fun x => x) c) M) / 2)) :
    ∀ d i, i + d = M → wX_chains_4 post (nI K) (nI (M - 1)) (nI T) (nI fl) x5 x6 x7 x8 x9 cs (d + 1) (nI (wk_ct (fun c => S c ∧ wk_Rep (lk_R K M T S) (fun x => x) c) i)) (nI i) := by
  have k := cb_K g
  intro d
  induction d with
  | zero =>
    intro i hi
    cases show i = M from by omega
    exact br_t (nI_lt (by omega) (by omega)) ⟨by decide, hp⟩
  | succ d ih =>
    intro i hi
    have hf : (¬ (S i ∧ wk_Rep (lk_R K M T S) (fun x => x) i)) → wX_chains_4 post (nI K) (nI (M - 1)) (nI T) (nI fl) x5 x6 x7 x8 x9 cs (d + 1) (nI (wk_ct (fun c => S c ∧ wk_Rep (lk_R K M T S) (fun x => x) c) i)) (nI (i + 1)) := fun q => by
      rw [← wk_ct_f (P := fun c => S c ∧ wk_Rep (lk_R K M T S) (fun x => x) c) q]
      exact ih (i + 1) (by omega)
    refine br_f (nI_nlt (by omega) (by omega)) (xs_isSolid g hS (by omega) (fun s => br_f (by decide) (xs_isStart g hS (by omega) (fun rp => nm_r (nI_1 _) (nm_r (nI_1 i) ?_)) (fun rp => nm_r (nI_1 i) (hf fun q => rp q.2)))) (fun s => br_t rfl (nm_r (nI_1 i) (hf fun q => s q.1))))
    rw [← wk_ct_t (P := fun c => S c ∧ wk_Rep (lk_R K M T S) (fun x => x) c) ⟨s, rp⟩]
    exact ih (i + 1) (by omega)
/-- what X's greatest is after the pieces below i -/
def xs_Mx (K M T : Nat) (S : Nat → Prop) (i v : Nat) : Prop := v ≤ M ∧ (∀ c m, c < i → S c → wk_Rep (lk_R K M T S) (fun x => x) c → wk_Len (lk_R K M T S) c m → m ≤ v) ∧ (v = 0 ∨ ∃ c, c < i ∧ S c ∧ wk_Len (lk_R K M T S) c v)
theorem xs_mxS {i v : Nat} (h : xs_Mx K M T S i v) (q : ∀ m, S i → wk_Rep (lk_R K M T S) (fun x => x) i → wk_Len (lk_R K M T S) i m → m ≤ v) : xs_Mx K M T S (i + 1) v := by
  refine ⟨h.1, fun c m hc s rp hl => ?_, ?_⟩
  · rcases Nat.lt_or_ge c i with z | z
    · exact h.2.1 c m z s rp hl
    · cases show c = i from by omega
      exact q m s rp hl
  · rcases h.2.2 with z | ⟨c, hc, z⟩
    · exact Or.inl z
    · exact Or.inr ⟨c, by omega, z⟩
theorem xs_longestL (g : cb_G K M T) (hS : ∀ c, c < M → (cs c < nI fl ↔ ¬ S c)) (hp : ∀ v, xs_Mx K M T S M v → post (nI v)) :
    ∀ d i v, i + d = M → xs_Mx K M T S i v → wX_longest_4 post (nI K) (nI (M - 1)) (nI T) (nI fl) x5 x6 x7 x8 x9 cs (d + 1) (nI v) (nI i) := by
  have k := cb_K g
  have pi := lk_PI (K := K) (M := M) (T := T) (S := S)
  intro d
  induction d with
  | zero =>
    intro i v hi hv
    cases show i = M from by omega
    exact br_t (nI_lt (by omega) (by omega)) (hp v hv)
  | succ d ih =>
    intro i v hi hv
    have vM := hv.1
    refine br_f (nI_nlt (by omega) (by omega)) (xs_isSolid g hS (by omega) (fun s => br_f (by decide) (xs_isStart g hS (by omega) (fun rp => xs_repLen g hS (by omega) rp (fun m hm hl => ?_)) (fun rp => nm_r (nI_1 i) (ih (i + 1) v (by omega) (xs_mxS hv fun m _ q => absurd q rp))))) (fun s => br_t rfl (nm_r (nI_1 i) (ih (i + 1) v (by omega) (xs_mxS hv fun m q => absurd q s)))))
    refine pk_le m v (fun le => nm_r (nI_1 i) (ih (i + 1) v (by omega) (xs_mxS hv fun m' _ _ hl' => ?_))) (fun lt => nm_r (nI_1 i) (ih (i + 1) m (by omega) ⟨hm, fun c m' hc s' rp' hl' => ?_, Or.inr ⟨i, by omega, s, hl⟩⟩)) rfl rfl (by omega) (by omega)
    · cases wk_lenU pi hl hl'
      exact le
    · rcases Nat.lt_or_ge c i with z | z
      · have := hv.2.1 c m' z s' rp' hl'
        omega
      · cases show c = i from by omega
        cases wk_lenU pi hl hl'
        exact Nat.le_refl _
end
end
section
/-- no read begins inside the n letters from p on -/
def sn_Ok (B : Nat → Prop) (p n : Nat) : Prop := ∀ i, 0 < i → i < n → ¬ B (p + i)
/-- the piece s was seen at p -/
def sn_V (K : Nat) (L : Nat → Nat) (B : Nat → Prop) (t p s : Nat) : Prop := p + K ≤ t ∧ sn_Ok B p K ∧ s = cb_cd L p K
def sn_hit (K : Nat) (L : Nat → Nat) (B : Nat → Prop) (t c p : Nat) : Prop := ∃ s, sn_V K L B t p s ∧ (s = c ∨ s = cb_mr K c)
/-- how often c or its mirror was seen -/
noncomputable def sn_cn (K : Nat) (L : Nat → Nat) (B : Nat → Prop) (t c : Nat) : Nat := wk_ct (sn_hit K L B t c) t
section
variable {K M T t : Nat} {y2 y3 y4 y5 y6 : Int32} {le be pb pi af ah : Nat → Int32} {L : Nat → Nat} {B : Nat → Prop} {post : Int32 → Prop}
theorem ys_mirL (hK : K ≤ 5) : ∀ d i c a, i + d = K → c < 1024 → a < 4 ^ i → post (nI (cb_mi d c a)) → wY_mirror_7 post (nI K) y2 y3 y4 y5 y6 le be pb pi af ah (d + 1) (nI a) (nI c) (nI i) := by
  intro d
  induction d with
  | zero =>
    intro i c a hi hc ha hp
    exact br_t (nI_le (by omega) (by omega)) hp
  | succ d ih =>
    intro i c a hi hc ha hp
    have a1 : 4 ^ i ≤ 4 ^ 5 := Nat.pow_le_pow_right (by decide) (by omega)
    have a2 : a < 1024 := Nat.lt_of_lt_of_le ha a1
    have e4 : 4 ^ (i + 1) = 4 ^ i * 4 := Nat.pow_succ _ _
    have e1 : nI a * 4 + 3 = nI (a * 4 + 3) := (by rw [pk_mul, nI_add] : nI a * nI 4 + nI 3 = nI (a * 4 + 3))
    have e2 : nI c - nI c / 4 * 4 = nI (c % 4) := pk_rem (d := 4) (by omega) (by decide) (by decide)
    have e3 : nI c / 4 = nI (c / 4) := pk_div (d := 4) (by omega) (by decide) (by decide)
    refine br_f (nI_ge (by omega) (by omega)) ⟨by decide, nm_r (e' := nI (a * 4 + (3 - c % 4))) ?_ ⟨by decide, nm_r e3 (nm_r (nI_1 i) (ih (i + 1) (c / 4) (a * 4 + (3 - c % 4)) (by omega) (by omega) (by omega) hp))⟩⟩
    rw [e1, e2, pk_sub (by omega)]
    congr 1
    omega
theorem ys_mirror (hK : K ≤ 5) {c : Nat} (hc : c < 1024) (hp : post (nI (cb_mr K c))) : wpY_mirror post (nI K, y2, y3, y4, y5, y6, le, be, pb, pi, af, ah) (nI c) :=
  ⟨K + 1, ys_mirL hK K 0 c 0 (by omega) hc (by decide) hp⟩
theorem ys_seenL (hL : ∀ i, le i = nI (L i)) (hB : ∀ i, be i = 0 ↔ ¬ B i) {p : Nat} (hp : p + K ≤ 96) (h1 : sn_Ok B p K → post (nI (cb_cd L p K))) (h0 : ¬ sn_Ok B p K → post (-1)) :
    ∀ d i, i + d = K → sn_Ok B p i → wY_seen_19 post (nI p) (nI K) y2 y3 y4 y5 y6 le be pb pi af ah (d + 1) (nI (cb_cd L p i)) (nI (p + i)) := by
  intro d
  induction d with
  | zero =>
    intro i hi ok
    cases show i = K from by omega
    exact br_t (by rw [nI_add]; exact nI_le (by omega) (by omega)) (h1 ok)
  | succ d ih =>
    intro i hi ok
    have e : nI (cb_cd L p i) * 4 + le (nI (p + i)).toNatClampNeg = nI (cb_cd L p (i + 1)) := by
      rw [nI_clamp (by omega), hL]
      exact (by rw [pk_mul, nI_add]; rfl : nI (cb_cd L p i) * nI 4 + nI (L (p + i)) = nI (cb_cd L p (i + 1)))
    have J : sn_Ok B p (i + 1) → wY_seen_45 post (wY_seen_19 post (nI p) (nI K) y2 y3 y4 y5 y6 le be pb pi af ah (d + 1)) (nI p) (nI (cb_cd L p i)) (nI (p + i)) (nI K) y2 y3 y4 y5 y6 le be pb pi af ah :=
      fun ok' => ⟨vp_in_nI (by omega) (by decide), nm_r e (nm_r (nI_1 _) (ih (i + 1) (by omega) ok'))⟩
    refine br_f (by rw [nI_add]; exact nI_ge (by omega) (by omega)) ?_
    rcases Nat.eq_zero_or_pos i with z | z
    · subst z
      exact br_t (nI_le (by omega) (by omega)) (J fun j h0 hj => by omega)
    · refine br_f (nI_ge (by omega) (by omega)) ⟨vp_in_nI (by omega) (by decide), ?_⟩
      rw [nI_clamp (by omega)]
      by_cases b : B (p + i)
      · exact br_f (fun q => (hB _).mp q b) (h0 fun q => q i z (by omega) b)
      · refine br_t ((hB _).mpr b) (J fun j h0 hj => ?_)
        rcases Nat.lt_or_ge j i with y | y
        · exact ok j h0 y
        · cases show j = i from by omega
          exact b
theorem ys_seen (ht : t ≤ 96) (hK : K ≤ 5) (hL : ∀ i, le i = nI (L i)) (hB : ∀ i, be i = 0 ↔ ¬ B i) {p : Nat} (hp : p ≤ 96) (h1 : ∀ s, sn_V K L B t p s → post (nI s)) (h0 : (∀ s, ¬ sn_V K L B t p s) → post (-1)) :
    wpY_seen post (nI K, y2, nI t, y4, y5, y6, le, be, pb, pi, af, ah) (nI p) := by
  unfold wpY_seen
  dsimp only
  rw [nI_add]
  exact pk_le (p + K) t (fun h => ⟨K + 1, ys_seenL hL hB (by omega) (fun ok => h1 _ ⟨h, ok, rfl⟩) (fun no => h0 fun s q => no q.2.1) K 0 (by omega) (fun j h0 hj => by omega)⟩) (fun h => h0 fun s q => by have := q.1; omega) rfl rfl (by omega) (by omega)
theorem ys_countL (g : cb_G K M T) (ht : t ≤ 96) (hL : ∀ i, le i = nI (L i)) (hL4 : ∀ i, L i < 4) (hB : ∀ i, be i = 0 ↔ ¬ B i) {c : Nat} (hc : c < M) (hp : post (nI (sn_cn K L B t c))) :
    ∀ d i, i + d = t → wY_countOf_4 post (nI c) (nI K) y2 (nI t) y4 y5 y6 le be pb pi af ah (d + 1) (nI (wk_ct (sn_hit K L B t c) i)) (nI i) := by
  have k := cb_K g
  have hm := cb_mr_lt g hc
  intro d
  induction d with
  | zero =>
    intro i hi
    cases show i = t from by omega
    exact br_t (nI_le (by omega) (by omega)) hp
  | succ d ih =>
    intro i hi
    have yes : sn_hit K L B t c i → wY_countOf_4 post (nI c) (nI K) y2 (nI t) y4 y5 y6 le be pb pi af ah (d + 1) (nI (wk_ct (sn_hit K L B t c) i + 1)) (nI (i + 1)) := fun h => by
      rw [← wk_ct_t h]; exact ih (i + 1) (by omega)
    have no : ¬ sn_hit K L B t c i → wY_countOf_4 post (nI c) (nI K) y2 (nI t) y4 y5 y6 le be pb pi af ah (d + 1) (nI (wk_ct (sn_hit K L B t c) i)) (nI (i + 1)) := fun h => by
      rw [← wk_ct_f h]; exact ih (i + 1) (by omega)
    refine br_f (nI_ge (by omega) (by omega)) (ys_seen ht (by omega) hL hB (by omega) (fun s hs => ?_) (fun ns => br_t (by decide) (nm_r (nI_1 i) (no fun ⟨s, hs, _⟩ => ns s hs))))
    have sM : s < M := by
      rw [hs.2.2, ← k.2.2.2.2.2.2]
      exact cb_cd_lt hL4 K
    have un : ∀ s', sn_V K L B t i s' → s' = s := fun s' q => q.2.2.trans hs.2.2.symm
    refine br_f (nI_pos (by omega)) (pk_eq s c (fun e => nm_r (nI_1 _) (nm_r (nI_1 i) (yes ⟨s, hs, Or.inl e⟩))) (fun ne => ys_mirror (by omega) (by omega) (pk_eq s (cb_mr K c) (fun e => nm_r (nI_1 _) (nm_r (nI_1 i) (yes ⟨s, hs, Or.inr e⟩))) (fun ne' => nm_r (nI_1 i) (no fun ⟨s', hs', q⟩ => ?_)) rfl rfl ?_ ?_)) rfl rfl ?_ ?_)
    · cases un s' hs'
      rcases q with q | q
      · exact ne q
      · exact ne' q
    all_goals omega
theorem ys_countOf (g : cb_G K M T) (ht : t ≤ 96) (hL : ∀ i, le i = nI (L i)) (hL4 : ∀ i, L i < 4) (hB : ∀ i, be i = 0 ↔ ¬ B i) {c : Nat} (hc : c < M) (hp : post (nI (sn_cn K L B t c))) :
    wpY_countOf post (nI K, y2, nI t, y4, y5, y6, le, be, pb, pi, af, ah) (nI c) :=
  ⟨t + 1, ys_countL g ht hL hL4 hB hc hp t 0 (by omega)⟩
theorem ys_findL {y1 : Int32} {n : Nat} {x : Int32} (hn : n ≤ 192) (h1 : ∀ i, i < n → pi i = x → post (nI i)) (h0 : (∀ i, i < n → pi i ≠ x) → post (-1)) :
    ∀ d i, i + d = n → (∀ j, j < i → pi j ≠ x) → wY_find_2 post x y1 y2 y3 y4 y5 (nI n) le be pb pi af ah (d + 1) (nI i) := by
  intro d
  induction d with
  | zero =>
    intro i hi hj
    cases show i = n from by omega
    exact br_t (nI_le (by omega) (by omega)) (h0 hj)
  | succ d ih =>
    intro i hi hj
    refine br_f (nI_ge (by omega) (by omega)) ⟨vp_in_nI (by omega) (by decide), ?_⟩
    rw [nI_clamp (by omega)]
    refine br_c (fun e => h1 i (by omega) e) (fun ne => nm_r (nI_1 i) (ih (i + 1) (by omega) (lt_s hj ne)))
theorem ys_find {y1 : Int32} {n : Nat} {x : Int32} (hn : n ≤ 192) (h1 : ∀ i, i < n → pi i = x → post (nI i)) (h0 : (∀ i, i < n → pi i ≠ x) → post (-1)) :
    wpY_find post (y1, y2, y3, y4, y5, nI n, le, be, pb, pi, af, ah) x :=
  ⟨n + 1, ys_findL hn h1 h0 n 0 (by omega) (fun j hj => by omega)⟩
theorem ys_codeL {pl : Nat} {P : Nat → Nat} (hK : K ≤ 5) (hl : pl ≤ 5) (hP : ∀ i, pb i = nI (P i)) (h1 : pl = K → post (nI (cb_cd P 0 pl))) (h0 : pl ≠ K → post (-1)) :
    ∀ d i, i + d = pl → wY_probeCode_4 post (nI K) y2 y3 y4 (nI pl) y6 le be pb pi af ah (d + 1) (nI (cb_cd P 0 i)) (nI i) := by
  intro d
  induction d with
  | zero =>
    intro i hi
    cases show i = pl from by omega
    exact br_t (nI_le (by omega) (by omega)) (pk_eq pl K h1 h0 rfl rfl (by omega) (by omega))
  | succ d ih =>
    intro i hi
    refine br_f (nI_ge (by omega) (by omega)) ⟨vp_in_nI (by omega) (by decide), nm_r (e' := nI (cb_cd P 0 (i + 1))) ?_ (nm_r (nI_1 i) (ih (i + 1) (by omega)))⟩
    rw [nI_clamp (by omega), hP]
    exact (by rw [pk_mul, nI_add]; show nI (cb_cd P 0 i * 4 + P i) = nI (cb_cd P 0 i * 4 + P (0 + i)); rw [Nat.zero_add] : nI (cb_cd P 0 i) * nI 4 + nI (P i) = nI (cb_cd P 0 (i + 1)))
theorem ys_code {pl : Nat} {P : Nat → Nat} (hK : K ≤ 5) (hl : pl ≤ 5) (hP : ∀ i, pb i = nI (P i)) (h1 : pl = K → post (nI (cb_cd P 0 pl))) (h0 : pl ≠ K → post (-1)) :
    wpY_probeCode post (nI K, y2, y3, y4, nI pl, y6, le, be, pb, pi, af, ah) :=
  ⟨pl + 1, ys_codeL hK hl hP h1 h0 pl 0 (by omega)⟩
theorem ys_only59 (g : cb_G K M T) {J8 : Int32 → Int32 → Int32 → Prop} {x1 x2 x3 x4 x5 : Int32} {a b : Nat} (ha : a < M) (hb : b < M)
    (h1 : a % T = b / 4 → J8 x5 (x4 + 1) (x5 + 1)) (h0 : a % T ≠ b / 4 → J8 x3 x4 (x5 + 1)) :
    wY_only_59 post J8 x1 x2 x3 x4 x5 (nI a) (nI b) (nI K) y2 y3 y4 y5 y6 le be pb pi af ah := by
  have k := cb_K g
  have e3 : nI b / 4 = nI (b / 4) := pk_div (d := 4) (by omega) (by decide) (by decide)
  have tT : T < 2 ^ 31 := by omega
  have e2 : nI a - nI a / nI T * nI T = nI (a % T) := pk_rem (by omega) (by omega) tT
  have am := Nat.mod_lt a (show T > 0 by omega)
  have fin : ∀ r, r = nI T → (¬ r = 0 ∧ (¬ (4 : Int32) = 0 ∧ ((((nI a - nI a / r * r) = (nI b / 4) → (∀ x4_24 : Int32, x4_24 = x4 + 1 → (∀ x5_25 : Int32, x5_25 = x5 + 1 → (J8 x5 x4_24 x5_25)))) ∧ (¬ (nI a - nI a / r * r) = (nI b / 4) → (∀ x5_23 : Int32, x5_23 = x5 + 1 → (J8 x3 x4 x5_23))))))) := by
    intro r er
    subst er
    refine ⟨nI_ne0 (by omega) (by omega), by decide, ?_⟩
    rw [e2, e3]
    exact pk_eq (a % T) (b / 4) (fun e => nm_e (nm_e (h1 e))) (fun ne => nm_e (h0 ne)) rfl rfl (by omega) (by omega)
  unfold wY_only_59 wpY_tail
  dsimp only
  rcases g with ⟨rfl, rfl, rfl⟩ | ⟨rfl, rfl, rfl⟩
  · exact br_t (by decide) (fin 16 (by decide))
  · exact br_f (by decide) (fin 256 (by decide))
theorem ys_onlyL (g : cb_G K M T) {n x : Nat} {fw : Int32} {Q : Nat → Nat} {P : Nat → Prop} (hn : n ≤ 192) (hx : x < n) (hQ : ∀ i, i < n → pi i = nI (Q i) ∧ Q i < M)
    (hf : (fw = 1 ∧ ∀ y, P y ↔ Q x % T = Q y / 4) ∨ (fw = 0 ∧ ∀ y, P y ↔ Q y % T = Q x / 4))
    (h1 : ∀ y, y < n → P y → (∀ z, z < n → P z → z = y) → post (nI y)) (h0 : (∀ y, y < n → P y → (∀ z, z < n → P z → z = y) → False) → post (-1)) :
    ∀ d i f m, i + d = n → ((m = 0 ∧ ∀ y, y < i → ¬ P y) ∨ (m = 1 ∧ ∃ y, y < i ∧ f = nI y ∧ P y ∧ ∀ z, z < i → P z → z = y) ∨ (2 ≤ m ∧ m ≤ i ∧ ∃ y z, y < i ∧ z < i ∧ P y ∧ P z ∧ y ≠ z)) →
    wY_only_8 post (nI x) fw (nI K) y2 y3 y4 y5 (nI n) le be pb pi af ah (d + 1) f (nI m) (nI i) := by
  have k := cb_K g
  intro d
  induction d with
  | zero =>
    intro i f m hi inv
    cases show i = n from by omega
    refine br_t (nI_le (by omega) (by omega)) ?_
    rcases inv with ⟨rfl, no⟩ | ⟨rfl, y, hy, rfl, py, uy⟩ | ⟨hm, hmi, y, z, hy, hz, py, pz, ne⟩
    · exact br_f (by decide) (h0 fun y hy py _ => no y hy py)
    · exact br_t (by decide) (h1 y hy py uy)
    · exact br_f (fun q => by have := (nI_eq (b := 1) (by omega) (by decide)).mp q; omega) (h0 fun w hw pw uw => ne ((uw y hy py).trans (uw z hz pz).symm))
  | succ d ih =>
    intro i f m hi inv
    have mi : m ≤ i := by
      rcases inv with ⟨rfl, no⟩ | ⟨rfl, y, hy, rfl, py, uy⟩ | ⟨hm, hmi, y, z, hy, hz, py, pz, ne⟩ <;> omega
    have yes : P i → wY_only_8 post (nI x) fw (nI K) y2 y3 y4 y5 (nI n) le be pb pi af ah (d + 1) (nI i) (nI m + 1) (nI i + 1) := fun p => by
      rw [nI_1, nI_1]
      refine ih (i + 1) _ _ (by omega) ?_
      rcases inv with ⟨rfl, no⟩ | ⟨rfl, y, hy, rfl, py, uy⟩ | ⟨hm, hmi, y, z, hy, hz, py, pz, ne⟩
      · exact Or.inr (Or.inl ⟨rfl, i, by omega, rfl, p, fun z hz pz => by
          rcases Nat.lt_or_ge z i with q | q
          · exact (no z q pz).elim
          · omega⟩)
      · exact Or.inr (Or.inr ⟨by omega, by omega, y, i, by omega, by omega, py, p, by omega⟩)
      · exact Or.inr (Or.inr ⟨by omega, by omega, y, z, by omega, by omega, py, pz, ne⟩)
    have no : ¬ P i → wY_only_8 post (nI x) fw (nI K) y2 y3 y4 y5 (nI n) le be pb pi af ah (d + 1) f (nI m) (nI i + 1) := fun p => by
      rw [nI_1]
      refine ih (i + 1) _ _ (by omega) ?_
      rcases inv with ⟨rfl, no⟩ | ⟨rfl, y, hy, rfl, py, uy⟩ | ⟨hm, hmi, y, z, hy, hz, py, pz, ne⟩
      · exact Or.inl ⟨rfl, lt_s no p⟩
      · exact Or.inr (Or.inl ⟨rfl, y, by omega, rfl, py, fun z hz pz => by
          rcases Nat.lt_or_ge z i with q | q
          · exact uy z q pz
          · cases show z = i from by omega
            exact (p pz).elim⟩)
      · exact Or.inr (Or.inr ⟨hm, by omega, y, z, by omega, by omega, py, pz, ne⟩)
    obtain ⟨qx, lx⟩ := hQ x hx
    obtain ⟨qi, li⟩ := hQ i (by omega)
    have vx : vp_in (nI x) 192 := vp_in_nI (by omega) (by decide)
    have vi : vp_in (nI i) 192 := vp_in_nI (by omega) (by decide)
    have cx : (nI x).toNatClampNeg = x := nI_clamp (by omega)
    have ci : (nI i).toNatClampNeg = i := nI_clamp (by omega)
    refine br_f (nI_ge (by omega) (by omega)) ?_
    rcases hf with ⟨rfl, hf⟩ | ⟨rfl, hf⟩
    · refine br_f (by decide) ⟨vx, br_f (by decide) ⟨vi, ?_⟩⟩
      rw [cx, ci, qx, qi]
      exact ys_only59 g lx li (fun e => yes ((hf i).mpr e)) (fun ne => no fun q => ne ((hf i).mp q))
    · refine br_t rfl ⟨vi, br_t rfl ⟨vx, ?_⟩⟩
      rw [cx, ci, qx, qi]
      exact ys_only59 g li lx (fun e => yes ((hf i).mpr e)) (fun ne => no fun q => ne ((hf i).mp q))
theorem ys_only (g : cb_G K M T) {n x : Nat} {fw : Int32} {Q : Nat → Nat} {P : Nat → Prop} (hn : n ≤ 192) (hx : x < n) (hQ : ∀ i, i < n → pi i = nI (Q i) ∧ Q i < M)
    (hf : (fw = 1 ∧ ∀ y, P y ↔ Q x % T = Q y / 4) ∨ (fw = 0 ∧ ∀ y, P y ↔ Q y % T = Q x / 4))
    (h1 : ∀ y, y < n → P y → (∀ z, z < n → P z → z = y) → post (nI y)) (h0 : (∀ y, y < n → P y → (∀ z, z < n → P z → z = y) → False) → post (-1)) :
    wpY_only post (nI K, y2, y3, y4, y5, nI n, le, be, pb, pi, af, ah) (nI x) fw :=
  ⟨n + 1, ys_onlyL g hn hx hQ hf h1 h0 n 0 (-1) 0 (by omega) (Or.inl ⟨rfl, fun y hy => by omega⟩)⟩
end
end
section
/-- Q lists the solid pieces, each once -/
def ga_Q (M n : Nat) (Q : Nat → Nat) (S : Nat → Prop) : Prop := n ≤ 192 ∧ (∀ i, i < n → Q i < M ∧ S (Q i)) ∧ (∀ i j, i < n → j < n → Q i = Q j → i = j) ∧ (∀ c, c < M → S c → ∃ i, i < n ∧ Q i = c)
/-- a relation of pieces, by their places in the list -/
def ga_R (n : Nat) (Q : Nat → Nat) (R : Nat → Nat → Prop) (x y : Nat) : Prop := x < n ∧ y < n ∧ R (Q x) (Q y)
/-- the array holds the relation -/
def ga_T (n : Nat) (A : Nat → Int32) (R : Nat → Nat → Prop) : Prop := ∀ a, a < n → (∃ b, A a = nI b ∧ R a b) ∨ (A a = -1 ∧ ∀ b, ¬ R a b)
theorem ga_PI {n N : Nat} {Q : Nat → Nat} {R : Nat → Nat → Prop} (hi : ∀ i j, i < n → j < n → Q i = Q j → i = j) (h : wk_PI R N) : wk_PI (ga_R n Q R) n :=
  ⟨fun a b b' x y => hi _ _ x.2.1 y.2.1 (h.1 _ _ _ x.2.2 y.2.2), fun a a' b x y => hi _ _ x.1 y.1 (h.2.1 _ _ _ x.2.2 y.2.2), fun a b x => ⟨x.1, x.2.1⟩⟩
theorem ga_fo {M T n : Nat} {Q : Nat → Nat} {S : Nat → Prop} (h : ga_Q M n Q S) {x y : Nat} (hy : y < n) : (Q x % T = Q y / 4 ∧ ∀ z, z < n → Q x % T = Q z / 4 → z = y) ↔ lk_Un (lk_Fo M T S (Q x)) (Q y) := by
  obtain ⟨h0, h1, h2, h3⟩ := h
  constructor
  · rintro ⟨a, b⟩
    refine ⟨⟨(h1 y hy).1, (h1 y hy).2, a⟩, fun e he => ?_⟩
    obtain ⟨z, hz, rfl⟩ := h3 e he.1 he.2.1
    rw [b z hz he.2.2]
  · rintro ⟨a, b⟩
    exact ⟨a.2.2, fun z hz q => h2 _ _ hz hy (b _ ⟨(h1 z hz).1, (h1 z hz).2, q⟩)⟩
theorem ga_le {M T n : Nat} {Q : Nat → Nat} {S : Nat → Prop} (h : ga_Q M n Q S) {x y : Nat} (hy : y < n) : (Q y % T = Q x / 4 ∧ ∀ z, z < n → Q z % T = Q x / 4 → z = y) ↔ lk_Un (lk_Le M T S (Q x)) (Q y) := by
  obtain ⟨h0, h1, h2, h3⟩ := h
  constructor
  · rintro ⟨a, b⟩
    refine ⟨⟨(h1 y hy).1, (h1 y hy).2, a⟩, fun e he => ?_⟩
    obtain ⟨z, hz, rfl⟩ := h3 e he.1 he.2.1
    rw [b z hz he.2.2]
  · rintro ⟨a, b⟩
    exact ⟨a.2.2, fun z hz q => h2 _ _ hz hy (b _ ⟨(h1 z hz).1, (h1 z hz).2, q⟩)⟩
/-- the arrays after the links of the places below i -/
def ga_A (n i : Nat) (R : Nat → Nat → Prop) (af ah : Nat → Int32) : Prop := (∀ a, a < n → (∃ b, af a = nI b ∧ R a b ∧ a < i) ∨ (af a = -1 ∧ ∀ b, R a b → i ≤ a)) ∧ (∀ b, b < n → (∃ a, ah b = nI a ∧ R a b ∧ a < i) ∨ (ah b = -1 ∧ ∀ a, R a b → i ≤ a))
theorem ga_skip {n i : Nat} {R : Nat → Nat → Prop} {af ah : Nat → Int32} (h : ga_A n i R af ah) (no : ∀ b, ¬ R i b) : ga_A n (i + 1) R af ah := by
  refine ⟨fun a ha => ?_, fun b hb => ?_⟩
  · rcases h.1 a ha with ⟨b, e, r, l⟩ | ⟨e, q⟩
    · exact Or.inl ⟨b, e, r, by omega⟩
    · refine Or.inr ⟨e, fun b r => ?_⟩
      have := q b r
      have : a ≠ i := fun z => no b (z ▸ r)
      omega
  · rcases h.2 b hb with ⟨a, e, r, l⟩ | ⟨e, q⟩
    · exact Or.inl ⟨a, e, r, by omega⟩
    · refine Or.inr ⟨e, fun a r => ?_⟩
      have := q a r
      have : a ≠ i := fun z => no b (z ▸ r)
      omega
theorem ga_store {n i y N : Nat} {R : Nat → Nat → Prop} {af ah : Nat → Int32} (pi : wk_PI R N) (h : ga_A n i R af ah) (r : R i y) : ga_A n (i + 1) R (upd af i (nI y)) (upd ah y (nI i)) := by
  refine ⟨fun a ha => ?_, fun b hb => ?_⟩
  · by_cases z : a = i
    · subst z
      exact Or.inl ⟨y, pk_us, r, by omega⟩
    · rw [pk_un z]
      rcases h.1 a ha with ⟨b, e, r, l⟩ | ⟨e, q⟩
      · exact Or.inl ⟨b, e, r, by omega⟩
      · refine Or.inr ⟨e, fun b r => ?_⟩
        have := q b r
        omega
  · by_cases z : b = y
    · subst z
      exact Or.inl ⟨i, pk_us, r, by omega⟩
    · rw [pk_un z]
      rcases h.2 b hb with ⟨a, e, r, l⟩ | ⟨e, q⟩
      · exact Or.inl ⟨a, e, r, by omega⟩
      · refine Or.inr ⟨e, fun a r' => ?_⟩
        have := q a r'
        have : a ≠ i := fun w => z (pi.1 _ _ _ (w ▸ r') r)
        omega
section
variable {K M T t fl n : Nat} {y2 y3 y4 y5 y6 : Int32} {le be pb pi af ah : Nat → Int32} {L Q : Nat → Nat} {B S : Nat → Prop} {post : SY → Prop}
theorem ys_g129 (g : cb_G K M T) (hq : ga_Q M n Q S) (hpi : ∀ j, j < n → pi j = nI (Q j))
    (hp : ∀ af ah, ga_T n af (ga_R n Q (lk_R K M T S)) → ga_T n ah (wk_Cv (ga_R n Q (lk_R K M T S))) → post (nI K, y2, y3, y4, y5, nI n, le, be, pb, pi, af, ah)) :
    ∀ d i af ah, i + d = n → ga_A n i (ga_R n Q (lk_R K M T S)) af ah → wY_gather_129 post (nI K) y2 y3 y4 y5 (nI n) (d + 1) (nI i) le be pb pi af ah := by
  have k := cb_K g
  have pI := ga_PI hq.2.2.1 (lk_PI (K := K) (M := M) (T := T) (S := S))
  have hn := hq.1
  have hQ : ∀ i, i < n → pi i = nI (Q i) ∧ Q i < M := fun i hi => ⟨hpi i hi, (hq.2.1 i hi).1⟩
  intro d
  induction d with
  | zero =>
    intro i af ah hi hA
    cases show i = n from by omega
    refine br_t (nI_le (by omega) (by omega)) (hp af ah (fun a ha => ?_) (fun a ha => ?_))
    · rcases hA.1 a ha with ⟨b, e, r, l⟩ | ⟨e, q⟩
      · exact Or.inl ⟨b, e, r⟩
      · exact Or.inr ⟨e, fun b r => by have := q b r; omega⟩
    · rcases hA.2 a ha with ⟨b, e, r, l⟩ | ⟨e, q⟩
      · exact Or.inl ⟨b, e, r⟩
      · exact Or.inr ⟨e, fun b r => by have := q b r; have := r.1; omega⟩
  | succ d ih =>
    intro i af ah hi hA
    have iN : i < n := by omega
    have skip : (∀ b, ¬ ga_R n Q (lk_R K M T S) i b) → wY_gather_129 post (nI K) y2 y3 y4 y5 (nI n) (d + 1) (nI (i + 1)) le be pb pi af ah := fun no => ih (i + 1) af ah (by omega) (ga_skip hA no)
    refine br_f (nI_ge (by omega) (by omega)) (ys_only g (P := fun y => Q i % T = Q y / 4) hn iN hQ (Or.inl ⟨rfl, fun y => Iff.rfl⟩) (fun y hy py uy => ?_) (fun no => br_t (by decide) (nm_r (nI_1 i) (skip fun b r => ?_))))
    · have fy := (ga_fo (T := T) hq (x := i) hy).mp ⟨py, uy⟩
      refine br_f (nI_pos (by omega)) (ys_only g (P := fun z => Q z % T = Q y / 4) hn hy hQ (Or.inr ⟨rfl, fun y => Iff.rfl⟩) (fun z hz pz uz => ?_) (fun no => br_f (fun q => cb_nm (n := i) (by omega) q.symm) (nm_r (nI_1 i) (skip fun b r => ?_))))
      · have fz := (ga_le (T := T) hq (x := y) hz).mp ⟨pz, uz⟩
        refine pk_eq z i (fun e => ?_) (fun ne => nm_r (nI_1 i) (skip fun b r => ?_)) rfl rfl (by omega) (by omega)
        · subst e
          refine pk_eq y z (fun e => nm_r (nI_1 z) (skip fun b r => ?_)) (fun ne => ⟨vp_in_nI (by omega) (by decide), vp_in_nI (by omega) (by decide), ?_⟩) rfl rfl (by omega) (by omega)
          · subst e
            have := lk_UnU fy r.2.2.1
            exact r.2.2.2.2.1 this
          · rw [nI_clamp (n := z) (by omega), nI_clamp (n := y) (by omega), hpi z iN, hpi y hy]
            have hz1 := (hQ z iN).2
            have hy1 := (hQ y hy).2
            have hm := cb_mr_lt g hz1
            refine ys_mirror (by omega) (by omega) (pk_eq (Q y) (cb_mr K (Q z)) (fun e => nm_r (nI_1 z) (skip fun b r => ?_)) (fun ne' => ⟨vp_in_nI (by omega) (by decide), nm_e ⟨vp_in_nI (by omega) (by decide), nm_e (nm_r (nI_1 z) ?_)⟩⟩) rfl rfl (by omega) (by omega))
            · have := lk_UnU fy r.2.2.1
              exact r.2.2.2.2.2 (e.symm.trans this)
            · exact ih (z + 1) _ _ (by omega) (ga_store pI hA ⟨iN, hy, fy, fz, fun q => ne (hq.2.2.1 _ _ hy iN q.symm), fun q => ne' q.symm⟩)
        · have e1 := lk_UnU fy r.2.2.1
          cases hq.2.2.1 _ _ hy r.2.1 e1
          exact ne (hq.2.2.1 _ _ hz iN (lk_UnU fz r.2.2.2.1))
      · have e1 := lk_UnU fy r.2.2.1
        cases hq.2.2.1 _ _ hy r.2.1 e1
        have q := (ga_le (T := T) hq (x := y) iN).mpr r.2.2.2.1
        exact no i iN q.1 q.2
    · have q := (ga_fo (T := T) hq (x := i) r.2.1).mpr r.2.2.1
      exact no b r.2.1 q.1 q.2
theorem ys_g99 {y1 : Int32} (hn : n ≤ 192) (hp : ∀ af ah, (∀ j, j < n → af j = -1 ∧ ah j = -1) → ∃ m, wY_gather_129 post y1 y2 y3 y4 y5 (nI n) m 0 le be pb pi af ah) :
    ∀ d i af ah, i + d = n → (∀ j, j < i → af j = -1 ∧ ah j = -1) → wY_gather_99 post y1 y2 y3 y4 y5 (nI n) (d + 1) (nI i) le be pb pi af ah := by
  intro d
  induction d with
  | zero =>
    intro i af ah hi h
    cases show i = n from by omega
    exact br_t (nI_le (by omega) (by omega)) (hp af ah h)
  | succ d ih =>
    intro i af ah hi h
    refine br_f (nI_ge (by omega) (by omega)) ⟨vp_in_nI (by omega) (by decide), nm_e ⟨vp_in_nI (by omega) (by decide), nm_e (nm_r (nI_1 i) ?_)⟩⟩
    rw [nI_clamp (by omega)]
    refine ih (i + 1) _ _ (by omega) (fun j hj => ?_)
    by_cases z : j = i
    · subst z
      exact ⟨pk_us, pk_us⟩
    · rw [pk_un z, pk_un z]
      exact h j (by omega)
/-- the list as it grows: the positions below i are done -/
def ga_I (K M i n : Nat) (Q : Nat → Nat) (V : Nat → Nat → Prop) (S : Nat → Prop) : Prop := n ≤ 2 * i ∧ (∀ j, j < n → Q j < M ∧ S (Q j)) ∧ (∀ a b, a < n → b < n → Q a = Q b → a = b) ∧ (∀ j, j < n → ∃ j', j' < n ∧ Q j' = cb_mr K (Q j)) ∧ (∀ q s, q < i → V q s → S s → ∃ j, j < n ∧ Q j = s)
theorem ga_I_skip {K M i n : Nat} {Q : Nat → Nat} {V : Nat → Nat → Prop} {S : Nat → Prop} (h : ga_I K M i n Q V S) (q : ∀ s, V i s → S s → ∃ j, j < n ∧ Q j = s) : ga_I K M (i + 1) n Q V S := by
  obtain ⟨h1, h2, h3, h4, h5⟩ := h
  refine ⟨by omega, h2, h3, h4, fun p s hp v hs => ?_⟩
  rcases Nat.lt_or_ge p i with z | z
  · exact h5 p s z v hs
  · cases show p = i from by omega
    exact q s v hs
theorem ga_I_add {K M T i n s : Nat} {Q : Nat → Nat} {V : Nat → Nat → Prop} {S : Nat → Prop} (g : cb_G K M T) (hm : ∀ c, c < M → S c → S (cb_mr K c)) (h : ga_I K M i n Q V S) (sM : s < M) (ss : S s) (no : ∀ j, j < n → Q j ≠ s) (un : ∀ s', V i s' → s' = s) :
    ga_I K M (i + 1) (n + 2) (fun j => if j = n + 1 then cb_mr K s else if j = n then s else Q j) V S := by
  obtain ⟨h1, h2, h3, h4, h5⟩ := h
  have e0 : ∀ j, j < n → (if j = n + 1 then cb_mr K s else if j = n then s else Q j) = Q j := fun j hj => by
    rw [if_neg (by omega), if_neg (by omega)]
  have e1 : (if n = n + 1 then cb_mr K s else if n = n then s else Q n) = s := by
    rw [if_neg (by omega), if_pos rfl]
  have e2 : (if n + 1 = n + 1 then cb_mr K s else if n + 1 = n then s else Q (n + 1)) = cb_mr K s := if_pos rfl
  have mM := cb_mr_lt g sM
  have nm : ∀ j, j < n → Q j ≠ cb_mr K s := fun j hj q => by
    obtain ⟨j', hj', e⟩ := h4 j hj
    rw [q, cb_mr_mr g sM] at e
    exact no j' hj' e
  have cs : ∀ j, j < n + 2 → j < n ∨ j = n ∨ j = n + 1 := fun j hj => by omega
  refine ⟨by omega, fun j hj => ?_, fun a b ha hb q => ?_, fun j hj => ?_, fun p s' hp v hs => ?_⟩
  · rcases cs j hj with z | z | z
    · dsimp only; rw [e0 j z]; exact h2 j z
    · subst z; dsimp only; rw [e1]; exact ⟨sM, ss⟩
    · subst z; dsimp only; rw [e2]; exact ⟨mM, hm s sM ss⟩
  · dsimp only at q
    rcases cs a ha with z | z | z <;> rcases cs b hb with w | w | w
    · rw [e0 a z, e0 b w] at q; exact h3 a b z w q
    · subst w; rw [e0 a z, e1] at q; exact (no a z q).elim
    · subst w; rw [e0 a z, e2] at q; exact (nm a z q).elim
    · subst z; rw [e0 b w, e1] at q; exact (no b w q.symm).elim
    · omega
    · subst w; subst z; rw [e1, e2] at q; exact (cb_mr_ne g sM q.symm).elim
    · subst z; rw [e0 b w, e2] at q; exact (nm b w q.symm).elim
    · subst w; subst z; rw [e1, e2] at q; exact (cb_mr_ne g sM q).elim
    · omega
  · dsimp only
    rcases cs j hj with z | z | z
    · obtain ⟨j', hj', e⟩ := h4 j z
      exact ⟨j', by omega, by rw [e0 j z, e0 j' hj', e]⟩
    · subst z
      exact ⟨j + 1, by omega, by rw [e1, e2]⟩
    · subst z
      exact ⟨n, by omega, by rw [e1, e2, cb_mr_mr g sM]⟩
  · dsimp only
    rcases Nat.lt_or_ge p i with z | z
    · obtain ⟨j, hj, e⟩ := h5 p s' z v hs
      exact ⟨j, by omega, by rw [e0 j hj, e]⟩
    · cases show p = i from by omega
      exact ⟨n, by omega, by rw [e1, un s' v]⟩
theorem ys_g7 (g : cb_G K M T) (ht : t ≤ 96) (hf : fl ≤ 9) (hL : ∀ i, le i = nI (L i)) (hL4 : ∀ i, L i < 4) (hB : ∀ i, be i = 0 ↔ ¬ B i)
    (hs : ∀ c, S c ↔ fl ≤ sn_cn K L B t c) (hm : ∀ c, c < M → S c → S (cb_mr K c))
    (hp : ∀ n Q pi, ga_I K M t n Q (sn_V K L B t) S → (∀ j, j < n → pi j = nI (Q j)) → ∃ m, wY_gather_99 post (nI K) (nI fl) (nI t) y4 y5 (nI n) m 0 le be pb pi af ah) :
    ∀ d i n Q pi, i + d = t → ga_I K M i n Q (sn_V K L B t) S → (∀ j, j < n → pi j = nI (Q j)) → wY_gather_7 post (nI K) (nI fl) (nI t) y4 y5 (d + 1) (nI i) (nI n) le be pb pi af ah := by
  have k := cb_K g
  intro d
  induction d with
  | zero =>
    intro i n Q pi hi h hq
    cases show i = t from by omega
    exact br_t (nI_le (by omega) (by omega)) (hp n Q pi h hq)
  | succ d ih =>
    intro i n Q pi hi h hq
    have hn := h.1
    have skip : (∀ s, sn_V K L B t i s → S s → ∃ j, j < n ∧ Q j = s) → wY_gather_7 post (nI K) (nI fl) (nI t) y4 y5 (d + 1) (nI (i + 1)) (nI n) le be pb pi af ah := fun q => ih (i + 1) n Q pi (by omega) (ga_I_skip h q) hq
    refine br_f (nI_ge (by omega) (by omega)) (ys_seen ht (by omega) hL hB (by omega) (fun s v => ?_) (fun no => br_t (by decide) (nm_r (nI_1 i) (skip fun s v => (no s v).elim))))
    have sM : s < M := by
      rw [v.2.2, ← k.2.2.2.2.2.2]
      exact cb_cd_lt hL4 K
    have un : ∀ s', sn_V K L B t i s' → s' = s := fun s' q => q.2.2.trans v.2.2.symm
    have cb : sn_cn K L B t s ≤ t := wk_ct_b t
    refine br_f (nI_pos (by omega)) (ys_find (by omega) (fun j hj e => br_t (nI_pos' (by omega)) (nm_r (nI_1 i) (skip fun s' v' _ => ⟨j, hj, ?_⟩))) (fun no => br_f (by decide) (ys_countOf g ht hL hL4 hB sM ?_)))
    · rw [hq j hj] at e
      have := (nI_eq (by have := (h.2.1 j hj).1; omega) (by omega)).mp e
      rw [this, un s' v']
    · refine pk_lt (sn_cn K L B t s) fl (fun lt => nm_r (nI_1 i) (skip fun s' v' ss => ?_)) (fun ge => br_f (nI_ge (b := 191) (by omega) (by decide)) ⟨vp_in_nI (by omega) (by decide), nm_e (ys_mirror (by omega) (by omega) ⟨?_, nm_e (nm_r (e' := nI (n + 2)) ?_ (nm_r (nI_1 i) ?_))⟩)⟩) rfl rfl (by omega) (by omega)
      · cases un s' v'
        have := (hs s).mp ss
        omega
      · rw [nI_1]
        exact vp_in_nI (by omega) (by decide)
      · exact nI_add n 2
      · rw [nI_1, nI_clamp (n := n + 1) (by omega), nI_clamp (n := n) (by omega)]
        refine ih (i + 1) (n + 2) _ _ (by omega) (ga_I_add g hm h sM ((hs s).mpr ge) (fun j hj e => ?_) un) (fun j hj => ?_)
        · exact no j hj (by rw [hq j hj, e])
        · by_cases z : j = n + 1
          · rw [if_pos z]
            subst z
            exact pk_us
          · rw [if_neg z, pk_un z]
            by_cases w : j = n
            · rw [if_pos w]
              subst w
              exact pk_us
            · rw [if_neg w, pk_un w]
              exact hq j (by omega)
theorem ga_Iend (g : cb_G K M T) (ht : t ≤ 96) (hf0 : 1 ≤ fl) (hL4 : ∀ i, L i < 4) (hs : ∀ c, S c ↔ fl ≤ sn_cn K L B t c) (hm : ∀ c, c < M → S c → S (cb_mr K c)) (h : ga_I K M t n Q (sn_V K L B t) S) : ga_Q M n Q S := by
  have k := cb_K g
  obtain ⟨h1, h2, h3, h4, h5⟩ := h
  refine ⟨by omega, h2, h3, fun c hc sc => ?_⟩
  have a := (hs c).mp sc
  obtain ⟨p, hp, s, v, e⟩ := wk_ct_e (P := sn_hit K L B t c) (n := t) (by have : fl ≤ wk_ct (sn_hit K L B t c) t := a; omega)
  rcases e with e | e
  · subst e
    exact h5 p s hp v sc
  · subst e
    obtain ⟨j, hj, e⟩ := h5 p _ hp v (hm c hc sc)
    obtain ⟨j', hj', e'⟩ := h4 j hj
    exact ⟨j', hj', by rw [e', e, cb_mr_mr g hc]⟩
theorem ys_gather (g : cb_G K M T) (ht : t ≤ 96) (hf0 : 1 ≤ fl) (hf : fl ≤ 9) (hL : ∀ i, le i = nI (L i)) (hL4 : ∀ i, L i < 4) (hB : ∀ i, be i = 0 ↔ ¬ B i)
    (hs : ∀ c, S c ↔ fl ≤ sn_cn K L B t c) (hm : ∀ c, c < M → S c → S (cb_mr K c))
    (hp : ∀ n Q pi af ah, ga_Q M n Q S → (∀ j, j < n → pi j = nI (Q j)) → ga_T n af (ga_R n Q (lk_R K M T S)) → ga_T n ah (wk_Cv (ga_R n Q (lk_R K M T S))) → post (nI K, nI fl, nI t, y4, y5, nI n, le, be, pb, pi, af, ah)) :
    wpY_gather post (nI K, nI fl, nI t, y4, y5, y6, le, be, pb, pi, af, ah) := by
  refine ⟨t + 1, ys_g7 g ht hf hL hL4 hB hs hm (fun n Q pi h hq => ?_) t 0 0 (fun _ => 0) pi (by omega) ⟨by omega, fun j hj => by omega, fun a b ha => by omega, fun j hj => by omega, fun q s hq => by omega⟩ (fun j hj => by omega)⟩
  have gq := ga_Iend g ht hf0 hL4 hs hm h
  refine ⟨n + 1, ys_g99 gq.1 (fun af ah h1 => ⟨n + 1, ys_g129 g gq hq (fun af ah => hp n Q pi af ah gq hq) n 0 af ah (by omega) ⟨fun a ha => Or.inr ⟨(h1 a ha).1, fun b _ => Nat.zero_le _⟩, fun a ha => Or.inr ⟨(h1 a ha).2, fun b _ => Nat.zero_le _⟩⟩⟩) n 0 af ah (by omega) (fun j hj => by omega)⟩
end
end
section
section
variable {n x : Nat} {y1 y2 y3 y4 y5 y6 : Int32} {le be pb pi af ah : Nat → Int32} {R : Nat → Nat → Prop} {post : Int32 → Prop}
theorem ys_walkL {fw : Int32} {A : Nat → Int32} (hn : n ≤ 192) (hA : (fw = 1 ∧ A = af) ∨ (fw = 0 ∧ A = ah)) (hT : ga_T n A R) (pI : wk_PI R n) (hx : x < n)
    (h1 : ∀ m e, m < n → wk_End R x m e → post (nI m)) (h2 : ∀ m, m ≤ n → wk_Ring R x m → post (nI (m - 1))) :
    ∀ d i a, i + d = n → a < n → wk_It R i x a → (∀ j, 0 < j → j ≤ i → ¬ wk_It R j x x) → wY_walk_5 post (nI x) fw y1 y2 y3 y4 y5 y6 le be pb pi af ah (d + 1) (nI a) (nI i) := by
  intro d
  induction d with
  | zero =>
    intro i a hi ha w nr
    have := wk_bound pI hx w nr
    omega
  | succ d ih =>
    intro i a hi ha w nr
    have bd := wk_bound pI hx w nr
    have J : wY_walk_32 post (wY_walk_5 post (nI x) fw y1 y2 y3 y4 y5 y6 le be pb pi af ah (d + 1)) (nI x) fw (nI i) (A (nI a).toNatClampNeg) y1 y2 y3 y4 y5 y6 le be pb pi af ah := by
      rw [nI_clamp (by omega)]
      rcases hT a ha with ⟨b, e, r⟩ | ⟨e, no⟩
      · rw [e]
        have bn := (pI.2.2 _ _ r).2
        have w1 : wk_It R (i + 1) x b := ⟨a, w, r⟩
        refine br_f (nI_pos (by omega)) (pk_eq b x (fun q => ?_) (fun ne => nm_r (nI_1 i) (ih (i + 1) b (by omega) bn w1 (fun j h0 hj q => ?_))) rfl rfl (by omega) (by omega))
        · subst q
          exact h2 (i + 1) (by omega) ⟨by omega, w1, fun j h0 hj => nr j h0 (by omega)⟩
        · rcases Nat.lt_or_ge i j with z | z
          · cases show j = i + 1 from by omega
            exact ne (wk_fun pI w1 q)
          · exact nr j h0 z q
      · rw [e]
        exact br_t (by decide) (h1 i a bd ⟨w, no⟩)
    refine br_f (nI_ge (b := 192) (by omega) (by decide)) ?_
    rcases hA with ⟨rfl, rfl⟩ | ⟨rfl, rfl⟩
    · exact br_f (by decide) ⟨vp_in_nI (by omega) (by decide), J⟩
    · exact br_t rfl ⟨vp_in_nI (by omega) (by decide), J⟩
theorem ys_walkF (hn : n ≤ 192) (hT : ga_T n af R) (pI : wk_PI R n) (hx : x < n)
    (h1 : ∀ m e, m < n → wk_End R x m e → post (nI m)) (h2 : ∀ m, m ≤ n → wk_Ring R x m → post (nI (m - 1))) : wpY_walk post (y1, y2, y3, y4, y5, y6, le, be, pb, pi, af, ah) (nI x) 1 :=
  ⟨n + 1, ys_walkL hn (Or.inl ⟨rfl, rfl⟩) hT pI hx h1 h2 n 0 x (by omega) hx rfl (fun j h0 hj => by omega)⟩
theorem ys_walkB (hn : n ≤ 192) (hT : ga_T n ah R) (pI : wk_PI R n) (hx : x < n)
    (h1 : ∀ m e, m < n → wk_End R x m e → post (nI m)) (h2 : ∀ m, m ≤ n → wk_Ring R x m → post (nI (m - 1))) : wpY_walk post (y1, y2, y3, y4, y5, y6, le, be, pb, pi, af, ah) (nI x) 0 :=
  ⟨n + 1, ys_walkL hn (Or.inr ⟨rfl, rfl⟩) hT pI hx h1 h2 n 0 x (by omega) hx rfl (fun j h0 hj => by omega)⟩
theorem ys_ringL (hn : n ≤ 192) (hT : ga_T n af R) (pI : wk_PI R n) (hx : x < n) (h1 : ∀ m e, wk_End R x m e → post 0) (h2 : ∀ m, wk_Ring R x m → post 1) :
    ∀ d i a, i + d = n → a < n → wk_It R i x a → (∀ j, 0 < j → j ≤ i → ¬ wk_It R j x x) → wY_ring_4 post (nI x) y1 y2 y3 y4 y5 y6 le be pb pi af ah (d + 1) (nI a) (nI i) := by
  intro d
  induction d with
  | zero =>
    intro i a hi ha w nr
    have := wk_bound pI hx w nr
    omega
  | succ d ih =>
    intro i a hi ha w nr
    have bd := wk_bound pI hx w nr
    refine br_f (nI_ge (b := 192) (by omega) (by decide)) ⟨vp_in_nI (by omega) (by decide), ?_⟩
    rw [nI_clamp (by omega)]
    rcases hT a ha with ⟨b, e, r⟩ | ⟨e, no⟩
    · have bn := (pI.2.2 _ _ r).2
      have w1 : wk_It R (i + 1) x b := ⟨a, w, r⟩
      refine nm_r e (br_t (nI_pos' (by omega)) (pk_eq b x (fun q => ?_) (fun ne => nm_r (nI_1 i) (ih (i + 1) b (by omega) bn w1 (fun j h0 hj q => ?_))) rfl rfl (by omega) (by omega)))
      · subst q
        exact h2 (i + 1) ⟨by omega, w1, fun j h0 hj => nr j h0 (by omega)⟩
      · rcases Nat.lt_or_ge i j with z | z
        · cases show j = i + 1 from by omega
          exact ne (wk_fun pI w1 q)
        · exact nr j h0 z q
    · exact nm_r e (br_f (by decide) (h1 i a ⟨w, no⟩))
theorem ys_ring (hn : n ≤ 192) (hT : ga_T n af R) (pI : wk_PI R n) (hx : x < n) (h1 : ∀ m e, wk_End R x m e → post 0) (h2 : ∀ m, wk_Ring R x m → post 1) : wpY_ring post (y1, y2, y3, y4, y5, y6, le, be, pb, pi, af, ah) (nI x) :=
  ⟨n + 1, ys_ringL hn hT pI hx h1 h2 n 0 x (by omega) hx rfl (fun j h0 hj => by omega)⟩
theorem ys_length (hn : n ≤ 192) (hT : ga_T n af R) (hT' : ga_T n ah (wk_Cv R)) (pI : wk_PI R n) (hx : x < n) (hp : ∀ m, m ≤ 400 → wk_Len R x m → post (nI m)) : wpY_length post (y1, y2, y3, y4, y5, y6, le, be, pb, pi, af, ah) (nI x) := by
  unfold wpY_length
  dsimp only
  refine ys_walkF hn hT pI hx (fun a d ha x1 => ys_ring hn hT pI hx (fun _ _ _ => br_t rfl (ys_walkB hn hT' (wk_cvP pI) hx (fun b e hb x2 => ?_) (fun m _ x2 => ?_))) (fun m x2 => ?_)) (fun m hm x1 => ys_ring hn hT pI hx (fun a d x2 => ?_) (fun m' x2 => br_f (by decide) ?_))
  · rw [nI_add, nI_1]
    exact hp _ (by omega) (Or.inr ⟨a, b, d, e, x1, x2, rfl⟩)
  · exact (wk_endNo pI x1 (wk_ringCv' x2)).elim
  · exact (wk_endNo pI x1 x2).elim
  · exact (wk_endNo pI x2 x1).elim
  · have m0 := x1.1
    rw [nI_1, show m - 1 + 1 = m from by omega]
    exact hp m (by omega) (Or.inl x1)
theorem ys_leadsL (hn : n ≤ 192) (hT : ga_T n af R) (pI : wk_PI R n) (hx : x < n) {m : Nat} (rg : wk_Ring R x m) (h1 : wk_Rep R (fun z => z) x → post 1) (h0 : ¬ wk_Rep R (fun z => z) x → post 0) :
    ∀ d i a, i + d = n → a < n → wk_It R i x a → (∀ j, 0 < j → j ≤ i → ¬ wk_It R j x x) → (∀ j y, j ≤ i → wk_It R j x y → x ≤ y) → wY_leads_27 post (nI x) y1 y2 y3 y4 y5 y6 le be pb pi af ah (d + 1) (nI a) (nI i) := by
  intro d
  induction d with
  | zero =>
    intro i a hi ha w nr ml
    have := wk_bound pI hx w nr
    omega
  | succ d ih =>
    intro i a hi ha w nr ml
    have bd := wk_bound pI hx w nr
    refine br_f (nI_ge (b := 192) (by omega) (by decide)) ⟨vp_in_nI (by omega) (by decide), ?_⟩
    rw [nI_clamp (by omega)]
    rcases hT a ha with ⟨b, e, r⟩ | ⟨e, no⟩
    · have bn := (pI.2.2 _ _ r).2
      have w1 : wk_It R (i + 1) x b := ⟨a, w, r⟩
      refine nm_r e (pk_le x b (fun le => pk_eq b x (fun q => ?_) (fun ne => nm_r (nI_1 i) (ih (i + 1) b (by omega) bn w1 (fun j h0 hj q => ?_) (fun j y hj hy => ?_))) rfl rfl (by omega) (by omega)) (fun lt => br_t (nI_pos' (by omega)) (h0 fun rp => ?_)) rfl rfl (by omega) (by omega))
      · subst q
        have rg' : wk_Ring R b (i + 1) := ⟨by omega, w1, fun j h0 hj => nr j h0 (by omega)⟩
        refine h1 (Or.inr ⟨⟨m, rg⟩, fun j y hy => ?_⟩)
        obtain ⟨j', hj', hy'⟩ := wk_small pI rg' hy
        exact ml j' y (by omega) hy'
      · rcases Nat.lt_or_ge i j with z | z
        · cases show j = i + 1 from by omega
          exact ne (wk_fun pI w1 q)
        · exact nr j h0 z q
      · rcases Nat.lt_or_ge i j with z | z
        · cases show j = i + 1 from by omega
          cases wk_fun pI w1 hy
          exact le
        · exact ml j y z hy
      · rcases rp with rp | ⟨_, rp⟩
        · obtain ⟨z, hz⟩ := wk_prev rg
          exact rp _ hz
        · have : x ≤ b := rp _ _ w1
          omega
    · obtain ⟨b, hb⟩ := wk_next pI rg w
      exact (no b hb).elim
theorem ys_leads (hn : n ≤ 192) (hT : ga_T n af R) (hT' : ga_T n ah (wk_Cv R)) (pI : wk_PI R n) (hx : x < n) (h1 : wk_Rep R (fun z => z) x → post 1) (h0 : ¬ wk_Rep R (fun z => z) x → post 0) : wpY_leads post (y1, y2, y3, y4, y5, y6, le, be, pb, pi, af, ah) (nI x) := by
  unfold wpY_leads
  dsimp only
  refine ys_ring hn hT pI hx (fun m e x1 => br_t rfl ⟨vp_in_nI (by omega) (by decide), ?_⟩) (fun m rg => br_f (by decide) ⟨n + 1, ys_leadsL hn hT pI hx rg h1 h0 n 0 x (by omega) hx rfl (fun j h0 hj => by omega) (fun j y hj hy => ?_)⟩)
  · rw [nI_clamp (by omega)]
    rcases hT' x hx with ⟨b, e, r⟩ | ⟨e, no⟩
    · rw [e]
      have bn := (pI.2.2 _ _ r).1
      refine br_t (nI_pos' (by omega)) (h0 fun rp => ?_)
      rcases rp with rp | ⟨⟨m', rp⟩, _⟩
      · exact rp b r
      · exact wk_endNo pI x1 rp
    · rw [e]
      exact br_f (by decide) (h1 (Or.inl no))
  · cases show j = 0 from by omega
    cases hy
    exact Nat.le_refl _
theorem ys_chainsL {post : Int32 → SY → Prop} (hn : n ≤ 192) (hT : ga_T n af R) (hT' : ga_T n ah (wk_Cv R)) (pI : wk_PI R n)
    (hp : post (nI (wk_ct (wk_Rep R (fun z => z)) n) / 2) (y1, y2, y3, y4, y5, nI n, le, be, pb, pi, af, ah)) :
    ∀ d i, i + d = n → wY_chains_8 post y1 y2 y3 y4 y5 (nI n) le be pb pi af ah (d + 1) (nI (wk_ct (wk_Rep R (fun z => z)) i)) (nI i) := by
  intro d
  induction d with
  | zero =>
    intro i hi
    cases show i = n from by omega
    exact br_t (nI_le (by omega) (by omega)) ⟨by decide, hp⟩
  | succ d ih =>
    intro i hi
    refine br_f (nI_ge (by omega) (by omega)) (ys_leads hn hT hT' pI (by omega) (fun rp => br_f (by decide) (nm_r (nI_1 _) (nm_r (nI_1 i) ?_))) (fun rp => br_t rfl (nm_r (nI_1 i) ?_)))
    · rw [← wk_ct_t rp]; exact ih (i + 1) (by omega)
    · rw [← wk_ct_f rp]; exact ih (i + 1) (by omega)
/-- what Y's greatest is after the places below i -/
def ys_Mx (R : Nat → Nat → Prop) (i v : Nat) : Prop := v ≤ 400 ∧ (∀ x m, x < i → wk_Len R x m → m ≤ v) ∧ (v = 0 ∨ ∃ x, x < i ∧ wk_Len R x v)
theorem ys_longestL {post : Int32 → SY → Prop} (hn : n ≤ 192) (hT : ga_T n af R) (hT' : ga_T n ah (wk_Cv R)) (pI : wk_PI R n)
    (hp : ∀ v, ys_Mx R n v → post (nI v) (y1, y2, y3, y4, y5, nI n, le, be, pb, pi, af, ah)) :
    ∀ d i v, i + d = n → ys_Mx R i v → wY_longest_8 post y1 y2 y3 y4 y5 (nI n) le be pb pi af ah (d + 1) (nI v) (nI i) := by
  intro d
  induction d with
  | zero =>
    intro i v hi hv
    cases show i = n from by omega
    exact br_t (nI_le (by omega) (by omega)) (hp v hv)
  | succ d ih =>
    intro i v hi hv
    have v4 := hv.1
    refine br_f (nI_ge (by omega) (by omega)) (ys_length hn hT hT' pI (by omega) (fun m hm hl => ?_))
    refine pk_le m v (fun le => nm_r (nI_1 i) (ih (i + 1) v (by omega) ⟨v4, fun x m' hx hl' => ?_, ?_⟩)) (fun lt => nm_r (nI_1 i) (ih (i + 1) m (by omega) ⟨hm, fun x m' hx hl' => ?_, Or.inr ⟨i, by omega, hl⟩⟩)) rfl rfl (by omega) (by omega)
    · rcases Nat.lt_or_ge x i with z | z
      · exact hv.2.1 x m' z hl'
      · cases show x = i from by omega
        cases wk_lenU pI hl hl'
        exact le
    · rcases hv.2.2 with z | ⟨x, hx, z⟩
      · exact Or.inl z
      · exact Or.inr ⟨x, by omega, z⟩
    · rcases Nat.lt_or_ge x i with z | z
      · have := hv.2.1 x m' z hl'
        omega
      · cases show x = i from by omega
        cases wk_lenU pI hl hl'
        exact Nat.le_refl _
end
end
section
section
variable {n : Nat} {Q : Nat → Nat} {R : Nat → Nat → Prop}
theorem bg_cv : wk_Cv (ga_R n Q R) = ga_R n Q (wk_Cv R) := by
  funext x y
  exact propext ⟨fun h => ⟨h.2.1, h.1, h.2.2⟩, fun h => ⟨h.2.1, h.1, h.2.2⟩⟩
theorem bg_up : ∀ {m x y : Nat}, wk_It (ga_R n Q R) m x y → wk_It R m (Q x) (Q y) := by
  intro m
  induction m with
  | zero => intro x y h; exact congrArg Q h
  | succ m ih =>
    rintro x y ⟨e, h, r⟩
    exact ⟨Q e, ih h, r.2.2⟩
theorem bg_dn (hR : ∀ a b, R a b → ∃ j, j < n ∧ Q j = b) (hi : ∀ i j, i < n → j < n → Q i = Q j → i = j) {x : Nat} (hx : x < n) : ∀ {m d : Nat}, wk_It R m (Q x) d → ∃ y, y < n ∧ Q y = d ∧ wk_It (ga_R n Q R) m x y := by
  intro m
  induction m with
  | zero => intro d h; exact ⟨x, hx, h, rfl⟩
  | succ m ih =>
    rintro d ⟨e, h, r⟩
    obtain ⟨y, hy, rfl, w⟩ := ih h
    obtain ⟨j, hj, rfl⟩ := hR _ _ r
    exact ⟨j, hj, rfl, y, w, hy, hj, r⟩
theorem bg_ring (hR : ∀ a b, R a b → ∃ j, j < n ∧ Q j = b) (hi : ∀ i j, i < n → j < n → Q i = Q j → i = j) {x m : Nat} (hx : x < n) : wk_Ring (ga_R n Q R) x m ↔ wk_Ring R (Q x) m := by
  have it : ∀ j, wk_It (ga_R n Q R) j x x ↔ wk_It R j (Q x) (Q x) := fun j => ⟨bg_up, fun h => by
    obtain ⟨y, hy, e, w⟩ := bg_dn hR hi hx h
    cases hi _ _ hy hx e
    exact w⟩
  exact ⟨fun h => ⟨h.1, (it m).mp h.2.1, fun j a b q => h.2.2 j a b ((it j).mpr q)⟩, fun h => ⟨h.1, (it m).mpr h.2.1, fun j a b q => h.2.2 j a b ((it j).mp q)⟩⟩
theorem bg_endU (hR : ∀ a b, R a b → ∃ j, j < n ∧ Q j = b) {x m d : Nat} (hd : d < n) (h : wk_End (ga_R n Q R) x m d) : wk_End R (Q x) m (Q d) :=
  ⟨bg_up h.1, fun e r => by
    obtain ⟨j, hj, rfl⟩ := hR _ _ r
    exact h.2 j ⟨hd, hj, r⟩⟩
theorem bg_endD (hR : ∀ a b, R a b → ∃ j, j < n ∧ Q j = b) (hi : ∀ i j, i < n → j < n → Q i = Q j → i = j) {x m d : Nat} (hx : x < n) (h : wk_End R (Q x) m d) : ∃ y, wk_End (ga_R n Q R) x m y ∧ Q y = d := by
  obtain ⟨y, hy, rfl, w⟩ := bg_dn hR hi hx h.1
  exact ⟨y, ⟨w, fun e r => h.2 _ r.2.2⟩, rfl⟩
theorem bg_len (hR : ∀ a b, R a b → ∃ j, j < n ∧ Q j = b) (hR' : ∀ a b, R a b → ∃ j, j < n ∧ Q j = a) (hi : ∀ i j, i < n → j < n → Q i = Q j → i = j) {N : Nat} (pI : wk_PI R N) {x m : Nat} (hx : x < n) : wk_Len (ga_R n Q R) x m ↔ wk_Len R (Q x) m := by
  have hc : ∀ a b, wk_Cv R a b → ∃ j, j < n ∧ Q j = b := fun a b r => hR' b a r
  have p := ga_PI hi pI
  constructor
  · rintro (h | ⟨a, b, d, e, h1, h2, rfl⟩)
    · exact Or.inl ((bg_ring hR hi hx).mp h)
    · have dn := wk_lt p hx h1.1
      have en := wk_lt (wk_cvP p) hx h2.1
      rw [bg_cv] at h2
      exact Or.inr ⟨a, b, _, _, bg_endU hR dn h1, bg_endU hc en h2, rfl⟩
  · rintro (h | ⟨a, b, d, e, h1, h2, rfl⟩)
    · exact Or.inl ((bg_ring hR hi hx).mpr h)
    · obtain ⟨d', h1', _⟩ := bg_endD hR hi hx h1
      obtain ⟨e', h2', _⟩ := bg_endD hc hi hx h2
      rw [← bg_cv] at h2'
      exact Or.inr ⟨a, b, _, _, h1', h2', rfl⟩
theorem bg_rep (hR : ∀ a b, R a b → ∃ j, j < n ∧ Q j = b) (hR' : ∀ a b, R a b → ∃ j, j < n ∧ Q j = a) (hi : ∀ i j, i < n → j < n → Q i = Q j → i = j) {N : Nat} (pI : wk_PI R N) {x : Nat} (hx : x < n) : wk_Rep R (fun z => z) (Q x) ↔ wk_Rep (ga_R n Q R) Q x := by
  constructor
  · rintro (h | ⟨⟨m, h⟩, l⟩)
    · exact Or.inl fun z r => h _ r.2.2
    · exact Or.inr ⟨⟨m, (bg_ring hR hi hx).mpr h⟩, fun j e w => l j _ (bg_up w)⟩
  · rintro (h | ⟨⟨m, h⟩, l⟩)
    · refine Or.inl fun z r => ?_
      obtain ⟨j, hj, rfl⟩ := hR' _ _ r
      exact h j ⟨hj, hx, r⟩
    · refine Or.inr ⟨⟨m, (bg_ring hR hi hx).mp h⟩, fun j e w => ?_⟩
      obtain ⟨y, hy, rfl, w'⟩ := bg_dn hR hi hx w
      exact l j y w'
end
section
variable {K M T n : Nat} {Q : Nat → Nat} {S : Nat → Prop}
theorem bg_R (h : ga_Q M n Q S) : ∀ a b, lk_R K M T S a b → ∃ j, j < n ∧ Q j = b := fun a b r => h.2.2.2 b r.1.1.1 r.1.1.2.1
theorem bg_R' (h : ga_Q M n Q S) : ∀ a b, lk_R K M T S a b → ∃ j, j < n ∧ Q j = a := fun a b r => h.2.2.2 a r.2.1.1.1 r.2.1.1.2.1
theorem bg_solid (h : ga_Q M n Q S) : wk_ct S M = n := by
  have a : wk_ct S M ≤ wk_ct (fun _ => True) n := wk_ct_le (fun c x => Q x = c) (fun c hc s => by
    obtain ⟨j, hj, e⟩ := h.2.2.2 c hc s
    exact ⟨j, hj, True.intro, e⟩) (fun c c' x _ _ _ _ _ e e' => e.symm.trans e')
  have b : wk_ct (fun _ => True) n ≤ wk_ct S M := wk_ct_le (fun x c => Q x = c) (fun x hx _ => ⟨Q x, (h.2.1 x hx).1, (h.2.1 x hx).2, rfl⟩) (fun x x' c hx hx' _ _ _ e e' => h.2.2.1 x x' hx hx' (e.trans e'.symm))
  rw [wk_ct_all] at a b
  omega
theorem bg_chains (h : ga_Q M n Q S) : wk_ct (fun c => S c ∧ wk_Rep (lk_R K M T S) (fun z => z) c) M = wk_ct (wk_Rep (ga_R n Q (lk_R K M T S)) (fun z => z)) n := by
  have pI := lk_PI (K := K) (M := M) (T := T) (S := S)
  have p := ga_PI h.2.2.1 pI
  have rp : ∀ x, x < n → (wk_Rep (lk_R K M T S) (fun z => z) (Q x) ↔ wk_Rep (ga_R n Q (lk_R K M T S)) Q x) := fun x hx => bg_rep (bg_R h) (bg_R' h) h.2.2.1 pI hx
  have a : wk_ct (fun c => S c ∧ wk_Rep (lk_R K M T S) (fun z => z) c) M ≤ wk_ct (wk_Rep (ga_R n Q (lk_R K M T S)) Q) n := wk_ct_le (fun c x => Q x = c) (fun c hc s => by
    obtain ⟨j, hj, e⟩ := h.2.2.2 c hc s.1
    subst e
    exact ⟨j, hj, (rp j hj).mp s.2, rfl⟩) (fun c c' x _ _ _ _ _ e e' => e.symm.trans e')
  have b : wk_ct (wk_Rep (ga_R n Q (lk_R K M T S)) Q) n ≤ wk_ct (fun c => S c ∧ wk_Rep (lk_R K M T S) (fun z => z) c) M := wk_ct_le (fun x c => Q x = c) (fun x hx r => ⟨Q x, (h.2.1 x hx).1, ⟨(h.2.1 x hx).2, (rp x hx).mpr r⟩, rfl⟩) (fun x x' c hx hx' _ _ _ e e' => h.2.2.1 x x' hx hx' (e.trans e'.symm))
  have c : wk_ct (wk_Rep (ga_R n Q (lk_R K M T S)) Q) n ≤ wk_ct (wk_Rep (ga_R n Q (lk_R K M T S)) (fun z => z)) n := wk_ct_le (fun x y => ∃ j, wk_It (ga_R n Q (lk_R K M T S)) j x y) (fun x hx r => by
    obtain ⟨d, hd, j, hj⟩ := wk_repX (ρ' := fun z => z) p r
    exact ⟨d, wk_lt p hx hj, hd, j, hj⟩) (fun x x' y hx hx' r r' ry ⟨j, hj⟩ ⟨j', hj'⟩ => by
    rcases wk_repI p ry r r' hj hj' with e | e
    · exact e
    · exact h.2.2.1 _ _ hx hx' e)
  have d : wk_ct (wk_Rep (ga_R n Q (lk_R K M T S)) (fun z => z)) n ≤ wk_ct (wk_Rep (ga_R n Q (lk_R K M T S)) Q) n := wk_ct_le (fun x y => ∃ j, wk_It (ga_R n Q (lk_R K M T S)) j x y) (fun x hx r => by
    obtain ⟨d, hd, j, hj⟩ := wk_repX (ρ' := Q) p r
    exact ⟨d, wk_lt p hx hj, hd, j, hj⟩) (fun x x' y hx hx' r r' ry ⟨j, hj⟩ ⟨j', hj'⟩ => by
    rcases wk_repI p ry r r' hj hj' with e | e
    · exact e
    · exact e)
  omega
theorem bg_S {c j d : Nat} (hc : c < M) (s : S c) (w : wk_It (lk_R K M T S) j c d) : d < M ∧ S d := by
  cases j with
  | zero => cases w; exact ⟨hc, s⟩
  | succ j => obtain ⟨e, _, r⟩ := w; exact ⟨r.1.1.1, r.1.1.2.1⟩
theorem bg_S' {c j d : Nat} (hc : c < M) (s : S c) (w : wk_It (wk_Cv (lk_R K M T S)) j c d) : d < M ∧ S d := by
  cases j with
  | zero => cases w; exact ⟨hc, s⟩
  | succ j => obtain ⟨e, _, r⟩ := w; exact ⟨r.2.1.1.1, r.2.1.1.2.1⟩
theorem bg_longest (h : ga_Q M n Q S) {v v' : Nat} (x : xs_Mx K M T S M v) (y : ys_Mx (ga_R n Q (lk_R K M T S)) n v') : v' = v := by
  have pI := lk_PI (K := K) (M := M) (T := T) (S := S)
  have ln : ∀ x m, x < n → (wk_Len (ga_R n Q (lk_R K M T S)) x m ↔ wk_Len (lk_R K M T S) (Q x) m) := fun x m hx => bg_len (bg_R h) (bg_R' h) h.2.2.1 pI hx
  have a : v ≤ v' := by
    rcases x.2.2 with z | ⟨c, hc, s, l⟩
    · omega
    · obtain ⟨j, hj, e⟩ := h.2.2.2 c hc s
      subst e
      exact y.2.1 j v hj ((ln j v hj).mpr l)
  have b : v' ≤ v := by
    rcases y.2.2 with z | ⟨i, hi, l⟩
    · omega
    · have l' := (ln i v' hi).mp l
      obtain ⟨cM, cS⟩ := h.2.1 i hi
      rcases l' with l' | ⟨a1, b1, d, e, h1, h2, ev⟩
      · obtain ⟨d, hd, j, hj⟩ := wk_repE (ρ := fun z => z) pI l'
        obtain ⟨dM, dS⟩ := bg_S cM cS hj
        exact x.2.1 d v' dM dS hd (Or.inl (wk_ringF pI l' hj))
      · obtain ⟨eM, eS⟩ := bg_S' cM cS h2.1
        exact x.2.1 e v' eM eS (Or.inl h2.2) (Or.inr ⟨b1 + a1, 0, d, e, wk_join h2 h1, ⟨rfl, h2.2⟩, by omega⟩)
  omega
end
end
section
/-- the tail of the read that is open: its length, where it begins, whether a read is open -/
def rl_T (K t rl : Nat) (B : Nat → Prop) (op : Int32) : Prop := rl ≤ K ∧ rl ≤ t ∧ sn_Ok B (t - rl) rl ∧ (rl < K → 0 < rl → B (t - rl)) ∧ (op = 0 ↔ rl = 0)
def rl_F (K M T fl t rl pl : Nat) (L P : Nat → Nat) (B : Nat → Prop) (cs le be pb : Nat → Int32) (op : Int32) : Prop :=
  cb_G K M T ∧ (1 ≤ fl ∧ fl ≤ 9) ∧ t ≤ 96 ∧ (∀ i, le i = nI (L i)) ∧ (∀ i, L i < 4) ∧ (∀ i, be i = 0 ↔ ¬ B i) ∧ (∀ i, pb i = nI (P i)) ∧ (∀ i, P i < 4) ∧ pl ≤ K ∧ rl_T K t rl B op ∧ (∀ c, c < M → cs c = nI (sn_cn K L B t c))
def i_Rel (k : Nat) (u : SX) (v : SY) : Prop := ∃ (K M T fl t rl pl : Nat) (L P : Nat → Nat) (B : Nat → Prop) (cs le be pb pi af ah : Nat → Int32) (op np : Int32),
  u = (nI K, nI (M - 1), nI T, nI fl, nI t, nI (cb_cd L (t - rl) rl), nI rl, nI (cb_cd P 0 pl), nI pl, cs) ∧ v = (nI K, nI fl, nI t, op, nI pl, np, le, be, pb, pi, af, ah) ∧ rl_F K M T fl t rl pl L P B cs le be pb op
theorem rl_mk {k K M T fl t rl pl : Nat} {L P : Nat → Nat} {B : Nat → Prop} {cs le be pb pi af ah : Nat → Int32} {op np : Int32} (h : rl_F K M T fl t rl pl L P B cs le be pb op) :
    i_Rel k (nI K, nI (M - 1), nI T, nI fl, nI t, nI (cb_cd L (t - rl) rl), nI rl, nI (cb_cd P 0 pl), nI pl, cs) (nI K, nI fl, nI t, op, nI pl, np, le, be, pb, pi, af, ah) :=
  ⟨K, M, T, fl, t, rl, pl, L, P, B, cs, le, be, pb, pi, af, ah, op, np, rfl, rfl, h⟩
theorem i_up {k : Nat} {u : SX} {v : SY} (h : i_Rel k u v) : i_Rel (k + 2) u v := h
theorem rl_fl (p : Int32) : ∃ fl, (1 ≤ fl ∧ fl ≤ 9) ∧ (∀ A : Int32 → Prop, A (nI fl) → wpX_withinFloors A p) ∧ (∀ (A : SY → Prop) (y1 y2 y3 y4 y5 y6 : Int32) (le be pb pi af ah : Nat → Int32), A (y1, nI fl, y3, y4, y5, y6, le, be, pb, pi, af, ah) → wpY_floor A (y1, y2, y3, y4, y5, y6, le, be, pb, pi, af, ah) p) := by
  by_cases h1 : 1 ≤ p
  · have h0 : ¬ p < 0 := fun q => by
      rw [Int32.lt_iff_toInt_lt] at q
      rw [Int32.le_iff_toInt_le] at h1
      have a : (1 : Int32).toInt = 1 := by decide
      have b : (0 : Int32).toInt = 0 := by decide
      omega
    obtain ⟨j, hj, rfl⟩ := nI_of h0
    have h1' : 1 ≤ j := (nI_leI (a := 1) (by decide) hj).mp h1
    by_cases h9 : nI j ≤ 9
    · have h9' : j ≤ 9 := (nI_leI (b := 9) hj (by decide)).mp h9
      exact ⟨j, ⟨h1', h9'⟩, fun A hA => br_t h1 (br_t h9 hA), fun A y1 y2 y3 y4 y5 y6 le be pb pi af ah hA => br_t h1 (br_t h9 hA)⟩
    · exact ⟨9, by decide, fun A hA => br_t h1 (br_f h9 hA), fun A y1 y2 y3 y4 y5 y6 le be pb pi af ah hA => br_t h1 (br_f h9 hA)⟩
  · exact ⟨1, by decide, fun A hA => br_f h1 hA, fun A y1 y2 y3 y4 y5 y6 le be pb pi af ah hA => br_f h1 hA⟩
theorem rl_cn0 {K c : Nat} {L : Nat → Nat} {B : Nat → Prop} : sn_cn K L B 0 c = 0 := rfl
theorem i_vc0 (k0 : Int32) (k1 : Int32) : wpX_init (fun u => wpY_init (fun v => i_Rel 2 u v) k0 k1) k0 k1 := by
  obtain ⟨fl, hf, A, A'⟩ := rl_fl k1
  have F : ∀ K M T, cb_G K M T → rl_F K M T fl 0 0 0 (fun _ => 0) (fun _ => 0) (fun _ => False) (fun _ => 0) (fun _ => 0) (fun _ => 0) (fun _ => 0) 0 := fun K M T g =>
    ⟨g, hf, by omega, fun i => rfl, fun i => (by decide : (0 : Nat) < 4), fun i => ⟨fun _ q => q, fun _ => rfl⟩, fun i => rfl, fun i => (by decide : (0 : Nat) < 4), by omega, ⟨by omega, by omega, fun i h0 hi => by omega, fun _ h => by omega, ⟨fun _ => rfl, fun _ => rfl⟩⟩, fun c hc => rfl⟩
  by_cases h : 3 < k0
  · refine br_t h (nm_r (e' := nI 1023) (by decide) (nm_r (e' := nI 256) (by decide) (A _ (br_t h (A' _ _ _ _ _ _ _ _ _ _ _ _ _ ?_)))))
    exact rl_mk (F 5 1024 256 (Or.inr ⟨rfl, rfl, rfl⟩))
  · refine br_f h (nm_r (e' := nI 63) (by decide) (nm_r (e' := nI 16) (by decide) (A _ (br_f h (A' _ _ _ _ _ _ _ _ _ _ _ _ _ ?_)))))
    exact rl_mk (F 3 64 16 (Or.inl ⟨rfl, rfl, rfl⟩))
theorem i_vc_endRead {k : Nat} {u : SX} {v : SY} (I : i_Rel k u v) (hk : k + 2 ≤ 1026) : wpX_endRead (fun u' => wpY_endRead (fun v' => i_Rel (k + 2) u' v') v) u := by
  obtain ⟨K, M, T, fl, t, rl, pl, L, P, B, cs, le, be, pb, pi, af, ah, op, np, rfl, rfl, g, hf, ht, hL, hL4, hB, hP, hP4, hpl, hT, hc⟩ := I
  refine ⟨K, M, T, fl, t, 0, pl, L, P, B, cs, le, be, pb, pi, af, ah, 0, np, rfl, rfl, g, hf, ht, hL, hL4, hB, hP, hP4, hpl, ⟨by omega, by omega, fun i h0 hi => by omega, fun _ h => by omega, ⟨fun _ => rfl, fun _ => rfl⟩⟩, hc⟩
theorem i_vc_floor {k : Nat} {u : SX} {v : SY} (I : i_Rel k u v) (hk : k + 2 ≤ 1026) (v1 : Int32) : wpX_floor (fun u' => wpY_floor (fun v' => i_Rel (k + 2) u' v') v v1) u v1 := by
  obtain ⟨K, M, T, fl, t, rl, pl, L, P, B, cs, le, be, pb, pi, af, ah, op, np, rfl, rfl, g, hf, h⟩ := I
  obtain ⟨fl', hf', A, A'⟩ := rl_fl v1
  unfold wpX_floor
  dsimp only
  refine A _ ?_
  exact A' _ _ _ _ _ _ _ _ _ _ _ _ _ (rl_mk ⟨g, hf', h⟩)
section
variable {K M T fl t rl pl : Nat} {L P : Nat → Nat} {B : Nat → Prop} {cs le be pb pi af ah : Nat → Int32} {op np : Int32} {x5 x6 x7 x8 x9 y2 y3 y4 y5 y6 : Int32}
theorem rl_S (ht : t ≤ 96) (hf : fl ≤ 9) (hc : ∀ c, c < M → cs c = nI (sn_cn K L B t c)) : ∀ c, c < M → (cs c < nI fl ↔ ¬ fl ≤ sn_cn K L B t c) := fun c h => by
  have b : sn_cn K L B t c ≤ t := wk_ct_b t
  rw [hc c h, nI_ltI (by omega) (by omega)]
  omega
theorem rl_m (g : cb_G K M T) : ∀ c, c < M → fl ≤ sn_cn K L B t c → fl ≤ sn_cn K L B t (cb_mr K c) := fun c h q => by
  have e : sn_cn K L B t c = sn_cn K L B t (cb_mr K c) := wk_ct_c fun p hp => by
    unfold sn_hit
    rw [cb_mr_mr g h]
    exact ⟨fun ⟨s, v, z⟩ => ⟨s, v, z.symm⟩, fun ⟨s, v, z⟩ => ⟨s, v, z.symm⟩⟩
  rw [← e]
  exact q
theorem rl_pr (g : cb_G K M T) (hP4 : ∀ i, P i < 4) (hpl : pl ≤ K) : cb_cd P 0 pl < M := by
  rw [← (cb_K g).2.2.2.2.2.2]
  exact Nat.lt_of_lt_of_le (cb_cd_lt hP4 pl) (Nat.pow_le_pow_right (by decide) hpl)
theorem xs_withL {post : Int32 → Prop} (g : cb_G K M T) {r : Nat} (hr : r < M) (v1 : Int32) (hp : post (nI ((r * 4 + cb_l v1) % M))) :
    wpX_withLetter post (nI K, nI (M - 1), nI T, y2, x5, x6, x7, x8, x9, cs) (nI r) v1 := by
  have k := cb_K g
  have l4 := cb_l4 v1
  unfold wpX_withLetter
  dsimp only
  rw [cb_and3, cb_or (by omega) l4, cb_mask g (by omega)]
  exact hp
theorem xs_longer {post : Int32 → Prop} (g : cb_G K M T) {n : Nat} (hn : n ≤ K) (hp : ∀ m, (n < K ∧ m = n + 1) ∨ (n = K ∧ m = K) → post (nI m)) :
    wpX_oneLonger post (nI K, nI (M - 1), nI T, y2, x5, x6, x7, x8, x9, cs) (nI n) := by
  have k := cb_K g
  unfold wpX_oneLonger
  dsimp only
  rw [nI_1]
  exact pk_le K n (fun h => hp K (Or.inr ⟨by omega, rfl⟩)) (fun h => hp (n + 1) (Or.inl ⟨by omega, rfl⟩)) rfl rfl (by omega) (by omega)
theorem ys_probe51 {post : Int32 → SY → Prop} {n : Nat} (hn : n < 5) (v1 : Int32) (hp : post (nI (n + 1)) (nI K, y2, y3, y4, nI (n + 1), y6, le, be, upd pb n (nI (cb_l v1)), pi, af, ah)) :
    wY_probe_51 post v1 (nI K) y2 y3 y4 (nI n) y6 le be pb pi af ah := by
  refine ⟨vp_in_nI hn (by decide), nm_e (nm_r (nI_1 n) ?_)⟩
  rw [nI_clamp (by omega), cb_and3]
  exact hp
theorem ys_probeL {post : Int32 → SY → Prop} (hK3 : 3 ≤ K) (hK : K ≤ 5) (v1 : Int32)
    (hp : ∀ pb, (∀ j, pb j = nI (if j + 1 < K then P (j + 1) else P j)) → wY_probe_51 post v1 (nI K) y2 y3 y4 (nI (K - 1)) y6 le be pb pi af ah) :
    ∀ d i pb, i + d = K → 1 ≤ i → (∀ j, pb j = nI (if j + 1 < i then P (j + 1) else P j)) → wY_probe_13 post v1 (nI K) y2 y3 y4 (nI K) y6 (d + 1) (nI i) le be pb pi af ah := by
  intro d
  induction d with
  | zero =>
    intro i pb hi h1 h
    cases show i = K from by omega
    exact br_t (nI_le (by omega) (by omega)) (nm_r (pk_sub (b := 1) (by omega)) (hp pb h))
  | succ d ih =>
    intro i pb hi h1 h
    have e : nI i - 1 = nI (i - 1) := pk_sub (b := 1) (by omega)
    refine br_f (nI_ge (by omega) (by omega)) ⟨vp_in_nI (by omega) (by decide), ?_, nm_e (nm_r (nI_1 i) ?_)⟩
    · rw [e]
      exact vp_in_nI (by omega) (by decide)
    · rw [e, nI_clamp (by omega), nI_clamp (by omega)]
      refine ih (i + 1) _ (by omega) (by omega) (fun j => ?_)
      by_cases z : j = i - 1
      · subst z
        rw [pk_us, h i, if_neg (by omega), if_pos (by omega), show i - 1 + 1 = i from by omega]
      · rw [pk_un z, h j]
        by_cases w : j + 1 < i
        · rw [if_pos w, if_pos (by omega)]
        · rw [if_neg w, if_neg (by omega)]
theorem ys_probe {post : Int32 → SY → Prop} (g : cb_G K M T) (hP : ∀ i, pb i = nI (P i)) (hP4 : ∀ i, P i < 4) (hpl : pl ≤ K) (v1 : Int32)
    (hp : ∀ pb' P' m, (∀ i, pb' i = nI (P' i)) → (∀ i, P' i < 4) → m ≤ K → (pl < K ∧ m = pl + 1) ∨ (pl = K ∧ m = K) → cb_cd P' 0 m = (cb_cd P 0 pl * 4 + cb_l v1) % M → post (nI m) (nI K, y2, y3, y4, nI m, y6, le, be, pb', pi, af, ah)) :
    wpY_probe post (nI K, y2, y3, y4, nI pl, y6, le, be, pb, pi, af, ah) v1 := by
  have k := cb_K g
  have l4 := cb_l4 v1
  unfold wpY_probe
  dsimp only
  refine pk_eq pl K (fun e => ?_) (fun ne => ?_) rfl rfl (by omega) (by omega)
  · subst e
    refine ⟨pl - 1 + 1, ys_probeL (P := P) (by omega) (by omega) v1 (fun pb' h => ys_probe51 (by omega) v1 ?_) (pl - 1) 1 pb (by omega) (by omega) (fun j => by rw [if_neg (by omega), hP])⟩
    rw [show pl - 1 + 1 = pl from by omega]
    refine hp _ (fun j => if j = pl - 1 then cb_l v1 else if j + 1 < pl then P (j + 1) else P j) pl (fun i => ?_) (fun i => ?_) (by omega) (Or.inr ⟨rfl, rfl⟩) ?_
    · try dsimp only
      by_cases z : i = pl - 1
      · rw [if_pos z]; subst z; exact pk_us
      · rw [if_neg z, pk_un z, h]
    · try dsimp only
      split
      · exact l4
      · split
        · exact hP4 _
        · exact hP4 _
    · have a := cb_cd_sh (L := fun j => if j = pl then cb_l v1 else P j) (fun i => by
        try dsimp only
        split
        · exact l4
        · exact hP4 _) (p := 0) pl
      have b : cb_cd (fun j => if j = pl then cb_l v1 else P j) 0 pl = cb_cd P 0 pl := cb_cd_c fun i hi => by
        try dsimp only
        rw [if_neg (by omega)]
      have c : cb_cd (fun j => if j = pl - 1 then cb_l v1 else if j + 1 < pl then P (j + 1) else P j) 0 pl = cb_cd (fun j => if j = pl then cb_l v1 else P j) (0 + 1) pl := cb_cd_c fun i hi => by
        try dsimp only
        by_cases z : i = pl - 1
        · rw [if_pos (by omega), if_pos (by omega)]
        · rw [if_neg (by omega), if_pos (by omega), if_neg (by omega)]
          congr 1
          omega
      rw [c, a, b, k.2.2.2.2.2.2]
      try dsimp only
      rw [if_pos (by omega)]
  · refine ys_probe51 (by omega) v1 (hp _ (fun j => if j = pl then cb_l v1 else P j) (pl + 1) (fun i => ?_) (fun i => ?_) (by omega) (Or.inl ⟨by omega, rfl⟩) ?_)
    · try dsimp only
      by_cases z : i = pl
      · rw [if_pos z]; subst z; exact pk_us
      · rw [if_neg z, pk_un z, hP]
    · try dsimp only
      split
      · exact l4
      · exact hP4 _
    · have b : cb_cd (fun j => if j = pl then cb_l v1 else P j) 0 pl = cb_cd P 0 pl := cb_cd_c fun i hi => by
        try dsimp only
        rw [if_neg (by omega)]
      have q : 4 ^ pl * 4 ≤ M := by
        rw [← k.2.2.2.2.2.2, ← Nat.pow_succ]
        exact Nat.pow_le_pow_right (by decide) (by omega)
      have r := cb_cd_lt hP4 (p := 0) pl
      show cb_cd (fun j => if j = pl then cb_l v1 else P j) 0 pl * 4 + (if 0 + pl = pl then cb_l v1 else P (0 + pl)) = _
      rw [b, if_pos (by omega), Nat.mod_eq_of_lt (by omega)]
theorem ys_probed {post : Int32 → SY → Prop} (h : rl_F K M T fl t rl pl L P B cs le be pb op)
    (hp1 : ∀ n Q pi af ah x, ga_Q M n Q (fun c => fl ≤ sn_cn K L B t c) → (∀ j, j < n → pi j = nI (Q j)) → ga_T n af (ga_R n Q (lk_R K M T (fun c => fl ≤ sn_cn K L B t c))) → ga_T n ah (wk_Cv (ga_R n Q (lk_R K M T (fun c => fl ≤ sn_cn K L B t c)))) → x < n → pl = K → Q x = cb_cd P 0 pl → post (nI x) (nI K, nI fl, nI t, op, nI pl, nI n, le, be, pb, pi, af, ah))
    (hp0 : ∀ n pi af ah, ¬ (pl = K ∧ fl ≤ sn_cn K L B t (cb_cd P 0 pl)) → post (-1) (nI K, nI fl, nI t, op, nI pl, nI n, le, be, pb, pi, af, ah)) :
    wpY_probed post (nI K, nI fl, nI t, op, nI pl, np, le, be, pb, pi, af, ah) := by
  obtain ⟨g, hf, ht, hL, hL4, hB, hP, hP4, hpl, hT, hc⟩ := h
  have k := cb_K g
  have pM := rl_pr g hP4 hpl
  unfold wpY_probed
  dsimp only
  refine ys_gather g ht hf.1 hf.2 hL hL4 hB (fun c => Iff.rfl) (rl_m g) (fun n Q pi af ah hq hpi h1 h2 => ?_)
  dsimp only
  refine ys_code (by omega) (by omega) hP (fun e => ys_find hq.1 (fun i hi q => ?_) (fun no => hp0 n pi af ah fun q => ?_)) (fun ne => ys_find hq.1 (fun i hi q => ?_) (fun no => hp0 n pi af ah fun q => ne q.1))
  · rw [hpi i hi] at q
    exact hp1 n Q pi af ah i hq hpi h1 h2 hi e ((nI_eq (by have := (hq.2.1 i hi).1; omega) (by omega)).mp q)
  · obtain ⟨j, hj, e'⟩ := hq.2.2.2 _ pM q.2
    exact no j hj (by rw [hpi j hj, e'])
  · rw [hpi i hi] at q
    exact (cb_nm (by have := (hq.2.1 i hi).1; omega) q).elim
theorem xs_probeSolid {post : Int32 → Prop} (h : rl_F K M T fl t rl pl L P B cs le be pb op)
    (h1 : pl = K → fl ≤ sn_cn K L B t (cb_cd P 0 pl) → post 1) (h0 : ¬ (pl = K ∧ fl ≤ sn_cn K L B t (cb_cd P 0 pl)) → post 0) :
    wpX_probeIsSolid post (nI K, nI (M - 1), nI T, nI fl, x5, x6, x7, nI (cb_cd P 0 pl), nI pl, cs) := by
  obtain ⟨g, hf, ht, hL, hL4, hB, hP, hP4, hpl, hT, hc⟩ := h
  have k := cb_K g
  unfold wpX_probeIsSolid
  dsimp only
  exact pk_eq pl K (fun e => xs_isSolid g (rl_S ht hf.2 hc) (rl_pr g hP4 hpl) (fun s => br_f (by decide) (h1 e s)) (fun s => br_t rfl (h0 fun q => s q.2))) (fun ne => h0 fun q => ne q.1) rfl rfl (by omega) (by omega)
end
end
section
theorem i_vc_probe {k : Nat} {u : SX} {v : SY} (I : i_Rel k u v) (hk : k + 2 ≤ 1026) (v1 : Int32) : wpX_probe (fun r u' => wpY_probe (fun r' v' => r' = r ∧ i_Rel (k + 2) u' v') v v1) u v1 := by
  obtain ⟨K, M, T, fl, t, rl, pl, L, P, B, cs, le, be, pb, pi, af, ah, op, np, rfl, rfl, g, hf, ht, hL, hL4, hB, hP, hP4, hpl, h⟩ := I
  unfold wpX_probe
  dsimp only
  refine xs_withL g (rl_pr g hP4 hpl) v1 (xs_longer g hpl (fun m hm => ys_probe g hP hP4 hpl v1 (fun pb' P' m' a1 a2 a3 a4 a5 => ?_)))
  cases show m' = m from by omega
  refine ⟨rfl, ?_⟩
  rw [← a5]
  exact rl_mk ⟨g, hf, ht, hL, hL4, hB, a1, a2, a3, h⟩
theorem i_vc_count {k : Nat} {u : SX} {v : SY} (I : i_Rel k u v) (hk : k + 2 ≤ 1026) : wpX_count (fun r => wpY_count (fun r' => r' = r ∧ i_Rel (k + 2) u v) v) u := by
  have I0 : i_Rel (k + 2) u v := I
  obtain ⟨K, M, T, fl, t, rl, pl, L, P, B, cs, le, be, pb, pi, af, ah, op, np, rfl, rfl, g, hf, ht, hL, hL4, hB, hP, hP4, hpl, hT, hc⟩ := I
  have kk := cb_K g
  have pM := rl_pr g hP4 hpl
  unfold wpX_count wpY_count
  dsimp only
  refine pk_eq pl K (fun e => ⟨?_, ys_code (by omega) (by omega) hP (fun _ => br_t (nI_pos' (by omega)) (ys_countOf g ht hL hL4 hB pM ⟨?_, I0⟩)) (fun ne => absurd e ne)⟩) (fun ne => ys_code (by omega) (by omega) hP (fun e => absurd e ne) (fun _ => br_f (by decide) ⟨rfl, I0⟩)) rfl rfl (by omega) (by omega)
  · rw [cb_1023 (by omega)]
    exact vp_in_nI (by omega) (by decide)
  · rw [cb_1023 (by omega), nI_clamp (by omega), hc _ pM]
theorem i_vc_chain {k : Nat} {u : SX} {v : SY} (I : i_Rel k u v) (hk : k + 2 ≤ 1026) : wpX_chain (fun r => wpY_chain (fun r' v' => r' = r ∧ i_Rel (k + 2) u v') v) u := by
  obtain ⟨K, M, T, fl, t, rl, pl, L, P, B, cs, le, be, pb, pi, af, ah, op, np, rfl, rfl, h⟩ := I
  have h' := h
  obtain ⟨g, hf, ht, hL, hL4, hB, hP, hP4, hpl, hT, hc⟩ := h'
  have kk := cb_K g
  have pM := rl_pr g hP4 hpl
  unfold wpX_chain wpY_chain
  dsimp only
  refine xs_probeSolid h (fun e s => br_f (by decide) (xs_chainLen g (rl_S ht hf.2 hc) pM (fun m hl => ?_))) (fun no => br_t rfl ?_)
  · refine ys_probed h (fun n Q pi af ah x hq hpi h1 h2 hx _ ex => ?_) (fun n pi af ah no => absurd ⟨e, s⟩ no)
    dsimp only
    have n2 := hq.1
    refine br_t (nI_pos' (by omega)) (ys_length hq.1 h1 h2 (ga_PI hq.2.2.1 lk_PI) hx (fun m' _ hl' => ⟨?_, rl_mk h⟩))
    have a := (bg_len (bg_R hq) (bg_R' hq) hq.2.2.1 lk_PI hx).mp hl'
    rw [ex] at a
    rw [wk_lenU lk_PI a hl]
  · refine ys_probed h (fun n Q pi af ah x hq hpi h1 h2 hx e ex => absurd ⟨e, ex ▸ (hq.2.1 x hx).2⟩ no) (fun n pi af ah _ => ?_)
    dsimp only
    exact br_f (by decide) ⟨rfl, rl_mk h⟩
theorem i_vc_before {k : Nat} {u : SX} {v : SY} (I : i_Rel k u v) (hk : k + 2 ≤ 1026) : wpX_before (fun r => wpY_before (fun r' v' => r' = r ∧ i_Rel (k + 2) u v') v) u := by
  obtain ⟨K, M, T, fl, t, rl, pl, L, P, B, cs, le, be, pb, pi, af, ah, op, np, rfl, rfl, h⟩ := I
  have h' := h
  obtain ⟨g, hf, ht, hL, hL4, hB, hP, hP4, hpl, hT, hc⟩ := h'
  have kk := cb_K g
  have pM := rl_pr g hP4 hpl
  unfold wpX_before wpY_before
  dsimp only
  refine xs_probeSolid h (fun e s => br_f (by decide) ⟨M + 1, xs_beforeL g (rl_S ht hf.2 hc) pM (fun m d hd => ?_) (fun m rg => ?_) M 0 _ (by omega) pM rfl (fun j h0 hj => by omega)⟩) (fun no => br_t rfl ?_)
  · refine ys_probed h (fun n Q pi af ah x hq hpi h1 h2 hx _ ex => ?_) (fun n pi af ah no => absurd ⟨e, s⟩ no)
    dsimp only
    have n2 := hq.1
    have pI := ga_PI hq.2.2.1 (lk_PI (K := K) (M := M) (T := T) (S := fun c => fl ≤ sn_cn K L B t c))
    have nr : ∀ m, ¬ wk_Ring (ga_R n Q (lk_R K M T (fun c => fl ≤ sn_cn K L B t c))) x m := fun m q => by
      have a := (bg_ring (bg_R hq) hq.2.2.1 hx).mp q
      rw [ex] at a
      exact wk_endNo (wk_cvP lk_PI) hd (wk_ringCv a)
    refine br_t (nI_pos' (by omega)) (ys_ring hq.1 h1 pI hx (fun m' e' _ => br_t rfl (ys_walkB hq.1 h2 (wk_cvP pI) hx (fun b d' hb hb' => ⟨?_, rl_mk h⟩) (fun m' _ rg => absurd (wk_ringCv' rg) (nr m')))) (fun m' rg => absurd rg (nr m')))
    have dn := wk_lt (wk_cvP pI) hx hb'.1
    rw [bg_cv] at hb'
    have a := bg_endU (R := wk_Cv (lk_R K M T (fun c => fl ≤ sn_cn K L B t c))) (fun a b r => bg_R' hq _ _ r) dn hb'
    rw [ex] at a
    rw [(wk_endU (wk_cvP lk_PI) a hd).1]
  · refine ys_probed h (fun n Q pi af ah x hq hpi h1 h2 hx _ ex => ?_) (fun n pi af ah no => absurd ⟨e, s⟩ no)
    dsimp only
    have n2 := hq.1
    have pI := ga_PI hq.2.2.1 (lk_PI (K := K) (M := M) (T := T) (S := fun c => fl ≤ sn_cn K L B t c))
    have rg' := (bg_ring (bg_R hq) hq.2.2.1 hx).mpr (ex ▸ rg)
    exact br_t (nI_pos' (by omega)) (ys_ring hq.1 h1 pI hx (fun m' e' x1 => (wk_endNo pI x1 rg').elim) (fun m' _ => br_f (by decide) ⟨rfl, rl_mk h⟩))
  · refine ys_probed h (fun n Q pi af ah x hq hpi h1 h2 hx e ex => absurd ⟨e, ex ▸ (hq.2.1 x hx).2⟩ no) (fun n pi af ah _ => ?_)
    dsimp only
    exact br_f (by decide) ⟨rfl, rl_mk h⟩
theorem i_vc_step {k : Nat} {u : SX} {v : SY} (I : i_Rel k u v) (hk : k + 2 ≤ 1026) : wpX_step (fun r u' => wpY_step (fun r' v' => r' = r ∧ i_Rel (k + 2) u' v') v) u := by
  obtain ⟨K, M, T, fl, t, rl, pl, L, P, B, cs, le, be, pb, pi, af, ah, op, np, rfl, rfl, h⟩ := I
  have h' := h
  obtain ⟨g, hf, ht, hL, hL4, hB, hP, hP4, hpl, hT, hc⟩ := h'
  have kk := cb_K g
  have pM := rl_pr g hP4 hpl
  have kM : T * 4 = M := kk.2.2.2.2.1.symm
  unfold wpX_step wpY_step
  dsimp only
  refine xs_probeSolid h (fun e s => br_f (by decide) (xs_linkedAfter g (rl_S ht hf.2 hc) pM (fun d hd => ?_) (fun no => br_t rfl ?_))) (fun no => br_t rfl ?_)
  · have dM : d < M := hd.1.1.1
    refine br_f (cb_nm (by omega)) (ys_probed h (fun n Q pi af ah x hq hpi h1 h2 hx _ ex => ?_) (fun n pi af ah no => absurd ⟨e, s⟩ no))
    dsimp only
    have n2 := hq.1
    refine br_f (nI_pos (by omega)) ⟨vp_in_nI (by omega) (by decide), ?_⟩
    rw [nI_clamp (n := x) (by omega)]
    rcases h1 x hx with ⟨b, eb, r⟩ | ⟨eb, no⟩
    · have bn := r.2.1
      have e1 : Q b = d := lk_PI.1 _ _ _ r.2.2 (ex ▸ hd)
      rw [eb, nI_clamp (n := b) (by omega), hpi b bn, e1]
      have e2 : nI d - nI d / 4 * 4 = nI (d % 4) := pk_rem (d := 4) (by omega) (by decide) (by decide)
      refine br_t (nI_pos' (by omega)) ⟨vp_in_nI (by omega) (by decide), vp_in_nI (by omega) (by decide), by decide, nm_r e2 (ys_probe g hP hP4 hpl _ (fun pb' P' m a1 a2 a3 a4 a5 => ?_))⟩
      dsimp only
      have m1 : m = pl := by omega
      subst m1
      refine ⟨?_, ?_⟩
      · rw [cb_and3, cb_lN (by omega)]
      · have e3 : cb_cd P' 0 m = d := by
          rw [a5, cb_lN (by omega)]
          have q : cb_cd P 0 m % T = d / 4 := hd.1.1.2.2
          have q2 : cb_cd P 0 m * 4 % (T * 4) = cb_cd P 0 m % T * 4 := Nat.mul_mod_mul_right _ _ _
          rw [kM, q] at q2
          rw [Nat.add_mod, q2, Nat.mod_eq_of_lt (a := d % 4 % 4) (by omega), show d / 4 * 4 + d % 4 % 4 = d from by omega, Nat.mod_eq_of_lt dM]
        rw [← e3]
        exact rl_mk ⟨g, hf, ht, hL, hL4, hB, a1, a2, a3, hT, hc⟩
    · obtain ⟨y, hy, ey⟩ := bg_R hq _ _ hd
      exact (no y ⟨hx, hy, by rw [ex, ey]; exact hd⟩).elim
  · refine ys_probed h (fun n Q pi af ah x hq hpi h1 h2 hx _ ex => ?_) (fun n pi af ah no => absurd ⟨e, s⟩ no)
    dsimp only
    have n2 := hq.1
    refine br_f (nI_pos (by omega)) ⟨vp_in_nI (by omega) (by decide), ?_⟩
    rw [nI_clamp (n := x) (by omega)]
    rcases h1 x hx with ⟨b, eb, r⟩ | ⟨eb, _⟩
    · exact (no (Q b) (ex ▸ r.2.2)).elim
    · rw [eb]
      exact br_f (by decide) ⟨rfl, rl_mk h⟩
  · refine ys_probed h (fun n Q pi af ah x hq hpi h1 h2 hx e ex => absurd ⟨e, ex ▸ (hq.2.1 x hx).2⟩ no) (fun n pi af ah _ => ?_)
    dsimp only
    exact br_t (by decide) ⟨rfl, rl_mk h⟩
theorem i_vc_solid {k : Nat} {u : SX} {v : SY} (I : i_Rel k u v) (hk : k + 2 ≤ 1026) : wpX_solid (fun r => wpY_solid (fun r' v' => r' = r ∧ i_Rel (k + 2) u v') v) u := by
  obtain ⟨K, M, T, fl, t, rl, pl, L, P, B, cs, le, be, pb, pi, af, ah, op, np, rfl, rfl, h⟩ := I
  have h' := h
  obtain ⟨g, hf, ht, hL, hL4, hB, hP, hP4, hpl, hT, hc⟩ := h'
  unfold wpX_solid wpY_solid
  dsimp only
  refine ⟨M + 1, xs_solidL g (rl_S ht hf.2 hc) ?_ M 0 (by omega)⟩
  refine ys_gather g ht hf.1 hf.2 hL hL4 hB (fun c => Iff.rfl) (rl_m g) (fun n Q pi af ah hq hpi h1 h2 => ?_)
  dsimp only
  exact ⟨by decide, by rw [bg_solid hq], rl_mk h⟩
theorem i_vc_chains {k : Nat} {u : SX} {v : SY} (I : i_Rel k u v) (hk : k + 2 ≤ 1026) : wpX_chains (fun r => wpY_chains (fun r' v' => r' = r ∧ i_Rel (k + 2) u v') v) u := by
  obtain ⟨K, M, T, fl, t, rl, pl, L, P, B, cs, le, be, pb, pi, af, ah, op, np, rfl, rfl, h⟩ := I
  have h' := h
  obtain ⟨g, hf, ht, hL, hL4, hB, hP, hP4, hpl, hT, hc⟩ := h'
  unfold wpX_chains wpY_chains
  dsimp only
  refine ⟨M + 1, xs_chainsL g (rl_S ht hf.2 hc) ?_ M 0 (by omega)⟩
  refine ys_gather g ht hf.1 hf.2 hL hL4 hB (fun c => Iff.rfl) (rl_m g) (fun n Q pi af ah hq hpi h1 h2 => ?_)
  dsimp only
  exact ⟨n + 1, ys_chainsL hq.1 h1 h2 (ga_PI hq.2.2.1 lk_PI) ⟨by rw [bg_chains hq], rl_mk h⟩ n 0 (by omega)⟩
theorem i_vc_longest {k : Nat} {u : SX} {v : SY} (I : i_Rel k u v) (hk : k + 2 ≤ 1026) : wpX_longest (fun r => wpY_longest (fun r' v' => r' = r ∧ i_Rel (k + 2) u v') v) u := by
  obtain ⟨K, M, T, fl, t, rl, pl, L, P, B, cs, le, be, pb, pi, af, ah, op, np, rfl, rfl, h⟩ := I
  have h' := h
  obtain ⟨g, hf, ht, hL, hL4, hB, hP, hP4, hpl, hT, hc⟩ := h'
  unfold wpX_longest wpY_longest
  dsimp only
  refine ⟨M + 1, xs_longestL g (rl_S ht hf.2 hc) (fun w hw => ?_) M 0 0 (by omega) ⟨by omega, fun c m hc => by omega, Or.inl rfl⟩⟩
  refine ys_gather g ht hf.1 hf.2 hL hL4 hB (fun c => Iff.rfl) (rl_m g) (fun n Q pi af ah hq hpi h1 h2 => ?_)
  dsimp only
  exact ⟨n + 1, ys_longestL hq.1 h1 h2 (ga_PI hq.2.2.1 lk_PI) (fun w' hw' => ⟨by rw [bg_longest hq hw hw'], rl_mk h⟩) n 0 0 (by omega) ⟨by omega, fun c m hc => by omega, Or.inl rfl⟩⟩
end
section
theorem rd_ct1 {P Q : Nat → Prop} {n p : Nat} (hp : p < n) (hP : P p) (hQ : ¬ Q p) (h : ∀ i, i < n → i ≠ p → (P i ↔ Q i)) : wk_ct P n = wk_ct Q n + 1 := by
  rw [← wk_ct_rm hP hp]
  congr 1
  refine wk_ct_c fun i hi => ⟨fun q => (h i hi q.2).mp q.1, fun q => ?_⟩
  have ne : i ≠ p := fun z => hQ (z ▸ q)
  exact ⟨(h i hi ne).mpr q, ne⟩
section
variable {K M T t rl : Nat} {L : Nat → Nat} {B : Nat → Prop} {l : Nat}
/-- the letters and the beginnings after one letter more -/
def rd_L (L : Nat → Nat) (t l : Nat) : Nat → Nat := fun i => if i = t then l else L i
def rd_B (B : Nat → Prop) (t rl : Nat) : Nat → Prop := fun i => (i = t ∧ rl = 0) ∨ (i ≠ t ∧ B i)
theorem rd_Lo {i : Nat} (h : i ≠ t) : rd_L L t l i = L i := if_neg h
theorem rd_Lt : rd_L L t l t = l := if_pos rfl
theorem rd_Bo {i : Nat} (h : i ≠ t) : rd_B B t rl i ↔ B i := ⟨fun q => by
  rcases q with q | q
  · exact (h q.1).elim
  · exact q.2, fun q => Or.inr ⟨h, q⟩⟩
theorem rd_Bt : rd_B B t rl t ↔ rl = 0 := ⟨fun q => by
  rcases q with q | q
  · exact q.2
  · exact (q.1 rfl).elim, fun q => Or.inl ⟨rfl, q⟩⟩
theorem rd_tail (g : cb_G K M T) (hL4 : ∀ i, L i < 4) (l4 : l < 4) {op : Int32} (h : rl_T K t rl B op) {m : Nat} (hm : (rl < K ∧ m = rl + 1) ∨ (rl = K ∧ m = K)) :
    cb_cd (rd_L L t l) (t + 1 - m) m = (cb_cd L (t - rl) rl * 4 + l) % M := by
  have k := cb_K g
  obtain ⟨h1, h2, h3, h4, h5⟩ := h
  have b : cb_cd (rd_L L t l) (t - rl) rl = cb_cd L (t - rl) rl := cb_cd_c fun i hi => rd_Lo (by omega)
  rcases hm with ⟨lt, rfl⟩ | ⟨e1, e2⟩
  · have q : 4 ^ rl * 4 ≤ M := by
      rw [← k.2.2.2.2.2.2, ← Nat.pow_succ]
      exact Nat.pow_le_pow_right (by decide) (by omega)
    have r := cb_cd_lt hL4 (p := t - rl) rl
    rw [show t + 1 - (rl + 1) = t - rl from by omega]
    show cb_cd (rd_L L t l) (t - rl) rl * 4 + rd_L L t l (t - rl + rl) = _
    rw [b, show t - rl + rl = t from by omega, rd_Lt, Nat.mod_eq_of_lt (by omega)]
  · have a := cb_cd_sh (L := rd_L L t l) (fun i => by
      unfold rd_L
      split
      · exact l4
      · exact hL4 _) (p := t - K) K
    rw [e1] at b ⊢
    rw [e2, show t + 1 - K = t - K + 1 from by omega, a, b, k.2.2.2.2.2.2, show t - K + K = t from by omega, rd_Lt]
theorem rd_T (g : cb_G K M T) {op : Int32} (h : rl_T K t rl B op) {m : Nat} (hm : (rl < K ∧ m = rl + 1) ∨ (rl = K ∧ m = K)) : rl_T K (t + 1) m (rd_B B t rl) 1 := by
  have k := cb_K g
  obtain ⟨h1, h2, h3, h4, h5⟩ := h
  refine ⟨by omega, by omega, fun i h0 hi q => ?_, fun lt h0 => ?_, ⟨fun q => absurd q (by decide), fun q => by omega⟩⟩
  · by_cases z : t + 1 - m + i = t
    · rw [z] at q
      have := rd_Bt.mp q
      omega
    · have q' := (rd_Bo z).mp q
      rcases hm with ⟨lt, rfl⟩ | ⟨e1, e2⟩
      · rw [show t + 1 - (rl + 1) + i = t - rl + i from by omega] at q'
        exact h3 i h0 (by omega) q'
      · rw [show t + 1 - m + i = t - rl + (i + 1) from by omega] at q'
        exact h3 (i + 1) (by omega) (by omega) q'
  · by_cases z : rl = 0
    · rw [show t + 1 - m = t from by omega]
      exact rd_Bt.mpr z
    · refine (rd_Bo (by omega)).mpr ?_
      rw [show t + 1 - m = t - rl from by omega]
      exact h4 (by omega) (by omega)
theorem rd_V {p s : Nat} (h : p + K ≤ t) : sn_V K (rd_L L t l) (rd_B B t rl) (t + 1) p s ↔ sn_V K L B t p s := by
  have a : sn_Ok (rd_B B t rl) p K ↔ sn_Ok B p K := ⟨fun q i h0 hi z => q i h0 hi ((rd_Bo (by omega)).mpr z), fun q i h0 hi z => q i h0 hi ((rd_Bo (by omega)).mp z)⟩
  have b : cb_cd (rd_L L t l) p K = cb_cd L p K := cb_cd_c fun i hi => rd_Lo (by omega)
  unfold sn_V
  rw [a, b]
  exact ⟨fun q => ⟨h, q.2⟩, fun q => ⟨by omega, q.2⟩⟩
theorem rd_no (g : cb_G K M T) {c : Nat} (h : ∀ p s, p + K = t + 1 → sn_V K (rd_L L t l) (rd_B B t rl) (t + 1) p s → s ≠ c ∧ s ≠ cb_mr K c) : sn_cn K (rd_L L t l) (rd_B B t rl) (t + 1) c = sn_cn K L B t c := by
  have k := cb_K g
  unfold sn_cn
  rw [wk_ct_f (P := sn_hit K (rd_L L t l) (rd_B B t rl) (t + 1) c) (fun ⟨s, v, _⟩ => by have := v.1; omega)]
  refine wk_ct_c fun p hp => ?_
  rcases Nat.lt_trichotomy (p + K) (t + 1) with z | z | z
  · exact ⟨fun ⟨s, v, q⟩ => ⟨s, (rd_V (by omega)).mp v, q⟩, fun ⟨s, v, q⟩ => ⟨s, (rd_V (by omega)).mpr v, q⟩⟩
  · refine ⟨fun ⟨s, v, q⟩ => ?_, fun ⟨s, v, q⟩ => by have := v.1; omega⟩
    have := h p s z v
    rcases q with q | q
    · exact (this.1 q).elim
    · exact (this.2 q).elim
  · exact ⟨fun ⟨s, v, q⟩ => by have := v.1; omega, fun ⟨s, v, q⟩ => by have := v.1; omega⟩
theorem rd_yes (g : cb_G K M T) {c p s : Nat} (hp : p + K = t + 1) (v : sn_V K (rd_L L t l) (rd_B B t rl) (t + 1) p s) (q : s = c ∨ s = cb_mr K c) : sn_cn K (rd_L L t l) (rd_B B t rl) (t + 1) c = sn_cn K L B t c + 1 := by
  have k := cb_K g
  unfold sn_cn
  rw [wk_ct_f (P := sn_hit K (rd_L L t l) (rd_B B t rl) (t + 1) c) (fun ⟨s, v, _⟩ => by have := v.1; omega)]
  refine rd_ct1 (p := p) (by omega) ⟨s, v, q⟩ (fun ⟨s, v, _⟩ => by have := v.1; omega) (fun i hi ne => ?_)
  rcases Nat.lt_trichotomy (i + K) (t + 1) with z | z | z
  · exact ⟨fun ⟨s, v, q⟩ => ⟨s, (rd_V (by omega)).mp v, q⟩, fun ⟨s, v, q⟩ => ⟨s, (rd_V (by omega)).mpr v, q⟩⟩
  · omega
  · exact ⟨fun ⟨s, v, q⟩ => by have := v.1; omega, fun ⟨s, v, q⟩ => by have := v.1; omega⟩
end
theorem rd_nar1 : vp_nar .boolean 1 = 1 := by decide
theorem rd_nar0 : vp_nar .boolean 0 = 0 := by decide
/-- Y takes a letter -/
theorem ys_read {post : Int32 → SY → Prop} {t rl : Nat} {L : Nat → Nat} {B : Nat → Prop} {y1 y2 y5 y6 op : Int32} {le be pb pi af ah : Nat → Int32} (ht : t < 96) (hL : ∀ i, le i = nI (L i)) (hB : ∀ i, be i = 0 ↔ ¬ B i) (ho : op = 0 ↔ rl = 0) (v1 : Int32)
    (hp : ∀ le' be', (∀ i, le' i = nI (rd_L L t (cb_l v1) i)) → (∀ i, be' i = 0 ↔ ¬ rd_B B t rl i) → post (nI (t + 1)) (y1, y2, nI (t + 1), 1, y5, y6, le', be', pb, pi, af, ah)) :
    wpY_read post (y1, y2, nI t, op, y5, y6, le, be, pb, pi, af, ah) v1 := by
  have vi : vp_in (nI t) 96 := vp_in_nI ht (by decide)
  have hl : ∀ i, upd le t (nI (cb_l v1)) i = nI (rd_L L t (cb_l v1) i) := fun i => by
    by_cases z : i = t
    · subst z; rw [pk_us, rd_Lt]
    · rw [pk_un z, rd_Lo z, hL]
  unfold wpY_read
  dsimp only
  refine br_f (fun q => by have := (nI_eq (b := 96) (by omega) (by decide)).mp q; omega) ⟨vi, nm_e ?_⟩
  rw [nI_clamp (by omega), cb_and3]
  refine br_c (fun e => ⟨vi, nm_e (nm_r (nI_1 t) (hp _ _ hl (fun i => ?_)))⟩) (fun e => ⟨vi, nm_e (nm_r (nI_1 t) (hp _ _ hl (fun i => ?_)))⟩)
  · rw [nI_clamp (by omega), rd_nar1]
    by_cases z : i = t
    · subst z
      rw [pk_us, rd_Bt]
      exact ⟨fun q => absurd q (by decide), fun q => absurd (ho.mp e) q⟩
    · rw [pk_un z, rd_Bo z, hB]
  · rw [nI_clamp (by omega), rd_nar0]
    by_cases z : i = t
    · subst z
      rw [pk_us, rd_Bt]
      exact ⟨fun _ q => e (ho.mpr q), fun _ => rfl⟩
    · rw [pk_un z, rd_Bo z, hB]
theorem xs_countPiece {post : SX → Prop} {K M T s : Nat} {x4 x5 x6 x7 x8 x9 : Int32} {cs : Nat → Int32} (g : cb_G K M T) (hs : s < M)
    (hp : ∀ cs', (∀ c, c < M → (s = c ∨ s = cb_mr K c) → cs' c = cs c + 1) → (∀ c, c < M → s ≠ c → s ≠ cb_mr K c → cs' c = cs c) → post (nI K, nI (M - 1), nI T, x4, x5, x6, x7, x8, x9, cs')) :
    wpX_countPiece post (nI K, nI (M - 1), nI T, x4, x5, x6, x7, x8, x9, cs) (nI s) := by
  have k := cb_K g
  have mM := cb_mr_lt g hs
  have ne := cb_mr_ne g hs
  unfold wpX_countPiece
  dsimp only
  refine xm_mirrorOf (by omega) (by omega) ?_
  rw [cb_1023 (c := s) (by omega), cb_1023 (c := cb_mr K s) (by omega), nI_clamp (n := s) (by omega), nI_clamp (n := cb_mr K s) (by omega)]
  refine ⟨vp_in_nI (by omega) (by decide), vp_in_nI (by omega) (by decide), nm_e ⟨vp_in_nI (by omega) (by decide), vp_in_nI (by omega) (by decide), nm_e (hp _ (fun c hc q => ?_) (fun c hc n1 n2 => ?_))⟩⟩
  · rcases q with q | q
    · subst q
      rw [pk_un (fun z => ne z.symm), pk_us]
    · have e : c = cb_mr K s := by rw [q, cb_mr_mr g hc]
      rw [e, pk_us, pk_un ne]
  · rw [pk_un (fun z => n2 (by rw [z, cb_mr_mr g hs])), pk_un (fun z => n1 z.symm)]
theorem i_vc_read {k : Nat} {u : SX} {v : SY} (I : i_Rel k u v) (hk : k + 2 ≤ 1026) (v1 : Int32) : wpX_read (fun r u' => wpY_read (fun r' v' => r' = r ∧ i_Rel (k + 2) u' v') v v1) u v1 := by
  obtain ⟨K, M, T, fl, t, rl, pl, L, P, B, cs, le, be, pb, pi, af, ah, op, np, rfl, rfl, h⟩ := I
  have h' := h
  obtain ⟨g, hf, ht, hL, hL4, hB, hP, hP4, hpl, hT, hc⟩ := h'
  have kk := cb_K g
  have l4 := cb_l4 v1
  unfold wpX_read
  dsimp only
  refine pk_lt t 96 (fun lt => ?_) (fun ge => ?_) rfl rfl (by omega) (by omega)
  · have hr : cb_cd L (t - rl) rl < M := by
      rw [← kk.2.2.2.2.2.2]
      exact Nat.lt_of_lt_of_le (cb_cd_lt hL4 rl) (Nat.pow_le_pow_right (by decide) hT.1)
    have L4 : ∀ i, rd_L L t (cb_l v1) i < 4 := fun i => by
      unfold rd_L
      split
      · exact l4
      · exact hL4 _
    refine nm_r (nI_1 t) (xs_withL g hr v1 (xs_longer g hT.1 (fun m hm => ?_)))
    have tl := rd_tail g hL4 l4 hT hm
    have T' := rd_T g hT hm
    rw [← tl]
    have mK : m ≤ K := T'.1
    refine pk_eq m K (fun e => ?_) (fun ne => ?_) rfl rfl (by omega) (by omega)
    · have hs : cb_cd (rd_L L t (cb_l v1)) (t + 1 - m) m < M := by
        rw [← kk.2.2.2.2.2.2, e]
        exact cb_cd_lt L4 K
      refine xs_countPiece g hs (fun cs' c1 c2 => ?_)
      dsimp only
      refine ys_read lt hL hB hT.2.2.2.2 v1 (fun le' be' a1 a2 => ⟨rfl, rl_mk ⟨g, hf, by omega, a1, L4, a2, hP, hP4, hpl, T', fun c hM => ?_⟩⟩)
      have tm : t + 1 - m + K = t + 1 := by have := T'.2.1; omega
      have v : sn_V K (rd_L L t (cb_l v1)) (rd_B B t rl) (t + 1) (t + 1 - m) (cb_cd (rd_L L t (cb_l v1)) (t + 1 - m) m) := ⟨by omega, by have := T'.2.2.1; rw [e] at this ⊢; exact this, by rw [e]⟩
      by_cases q : cb_cd (rd_L L t (cb_l v1)) (t + 1 - m) m = c ∨ cb_cd (rd_L L t (cb_l v1)) (t + 1 - m) m = cb_mr K c
      · rw [c1 c hM q, rd_yes g tm v q, hc c hM, nI_1]
      · have q1 : cb_cd (rd_L L t (cb_l v1)) (t + 1 - m) m ≠ c := fun z => q (Or.inl z)
        have q2 : cb_cd (rd_L L t (cb_l v1)) (t + 1 - m) m ≠ cb_mr K c := fun z => q (Or.inr z)
        rw [c2 c hM q1 q2, hc c hM, rd_no g (fun p s hp vp => ?_)]
        cases show p = t + 1 - m from by omega
        rw [vp.2.2, ← v.2.2]
        exact ⟨q1, q2⟩
    · refine ys_read lt hL hB hT.2.2.2.2 v1 (fun le' be' a1 a2 => ⟨rfl, rl_mk ⟨g, hf, by omega, a1, L4, a2, hP, hP4, hpl, T', fun c hM => ?_⟩⟩)
      rw [hc c hM, rd_no g (fun p s hp vp => ?_)]
      have b := T'.2.2.2.1 (by omega) (by omega)
      refine (vp.2.1 (K - m) (by omega) (by omega) ?_).elim
      rw [show p + (K - m) = t + 1 - m from by omega]
      exact b
  · refine br_t (by rw [show t = 96 from by omega]; decide) ⟨rfl, rl_mk h⟩
end
section
section
variable {pl : Nat} {P : Nat → Nat} {post : SY → Prop} {y1 y2 y3 y4 y6 : Int32} {le be pi af ah : Nat → Int32}
theorem ys_t62 {P' : Nat → Nat} (hl : pl ≤ 5) (hP4 : ∀ i, P' i < 4) (hp : ∀ pb, (∀ j, pb j = nI (if j < pl then 3 - P' j else P' j)) → post (y1, y2, y3, y4, nI pl, y6, le, be, pb, pi, af, ah)) :
    ∀ d i pb, i + d = pl → (∀ j, pb j = nI (if j < i then 3 - P' j else P' j)) → wY_turn_62 post y1 y2 y3 y4 (nI pl) y6 (d + 1) (nI i) le be pb pi af ah := by
  intro d
  induction d with
  | zero =>
    intro i pb hi h
    cases show i = pl from by omega
    exact br_t (nI_le (by omega) (by omega)) (hp pb h)
  | succ d ih =>
    intro i pb hi h
    have p4 := hP4 i
    refine br_f (nI_ge (by omega) (by omega)) ⟨vp_in_nI (by omega) (by decide), vp_in_nI (by omega) (by decide), nm_e (nm_r (nI_1 i) ?_)⟩
    rw [nI_clamp (by omega)]
    refine ih (i + 1) _ (by omega) (fun j => ?_)
    by_cases z : j = i
    · subst z
      rw [pk_us, h, if_neg (by omega), if_pos (by omega)]
      exact pk_sub (a := 3) (by omega)
    · rw [pk_un z, h]
      by_cases w : j < i
      · rw [if_pos w, if_pos (by omega)]
      · rw [if_neg w, if_neg (by omega)]
theorem ys_t2 (hl : pl ≤ 5) (hp : ∀ pb, (∀ j, pb j = nI (if j < pl then P (pl - 1 - j) else P j)) → ∃ n, wY_turn_62 post y1 y2 y3 y4 (nI pl) y6 n 0 le be pb pi af ah) :
    ∀ d i pb, i + d = pl → 2 * i ≤ pl → (∀ j, pb j = nI (if j < pl ∧ (j < i ∨ pl ≤ j + i) then P (pl - 1 - j) else P j)) → wY_turn_2 post y1 y2 y3 y4 (nI pl) y6 (d + 1) (nI i) le be pb pi af ah := by
  intro d
  induction d with
  | zero =>
    intro i pb hi h2 h
    have i0 : i = 0 := by omega
    have p0 : pl = 0 := by omega
    subst i0 p0
    refine br_t (by decide) (hp pb fun j => ?_)
    rw [h, if_neg (by omega), if_neg (by omega)]
  | succ d ih =>
    intro i pb hi h2 h
    have e : nI pl - 1 - nI i = nI (pl - 1 - i) := by
      have a : nI pl - 1 = nI (pl - 1) := pk_sub (b := 1) (by omega)
      rw [a, pk_sub (by omega)]
    by_cases z : 2 * i + 1 < pl
    · refine br_f (by rw [e]; exact nI_ge (by omega) (by omega)) ?_
      rw [e]
      refine ⟨vp_in_nI (by omega) (by decide), nm_e ⟨vp_in_nI (by omega) (by decide), vp_in_nI (by omega) (by decide), nm_e ⟨vp_in_nI (by omega) (by decide), nm_e (nm_r (nI_1 i) ?_)⟩⟩⟩
      rw [nI_clamp (n := i) (by omega), nI_clamp (n := pl - 1 - i) (by omega)]
      refine ih (i + 1) _ (by omega) (by omega) (fun j => ?_)
      by_cases w : j = pl - 1 - i
      · subst w
        rw [pk_us, h, if_neg (by omega), if_pos (by omega)]
        congr 2
        omega
      · rw [pk_un w]
        by_cases y : j = i
        · subst y
          rw [pk_us, h, if_neg (by omega), if_pos (by omega)]
        · rw [pk_un y, h]
          by_cases q : j < pl ∧ (j < i ∨ pl ≤ j + i)
          · rw [if_pos q, if_pos (by omega)]
          · rw [if_neg q, if_neg (by omega)]
    · refine br_t (by rw [e]; exact nI_le (by omega) (by omega)) (hp pb fun j => ?_)
      rw [h]
      by_cases w : j < pl
      · rw [if_pos w]
        by_cases y : j < i ∨ pl ≤ j + i
        · rw [if_pos ⟨w, y⟩]
        · rw [if_neg (fun q => y q.2)]
          congr 2
          omega
      · rw [if_neg w, if_neg (fun q => w q.1)]
end
theorem i_vc_turn {k : Nat} {u : SX} {v : SY} (I : i_Rel k u v) (hk : k + 2 ≤ 1026) : wpX_turn (fun u' => wpY_turn (fun v' => i_Rel (k + 2) u' v') v) u := by
  obtain ⟨K, M, T, fl, t, rl, pl, L, P, B, cs, le, be, pb, pi, af, ah, op, np, rfl, rfl, g, hf, ht, hL, hL4, hB, hP, hP4, hpl, hT, hc⟩ := I
  have kk := cb_K g
  have pM := rl_pr g hP4 hpl
  unfold wpX_turn wpY_turn
  dsimp only
  refine xm_mirrorOf (by omega) (by omega) ⟨pl + 1, ys_t2 (P := P) (by omega) (fun pb1 h1 => ⟨pl + 1, ys_t62 (P' := fun j => if j < pl then P (pl - 1 - j) else P j) (by omega) (fun i => ?_) (fun pb2 h2 => ?_) pl 0 pb1 (by omega) (fun j => ?_)⟩) pl 0 pb (by omega) (by omega) (fun j => ?_)⟩
  · split
    · exact hP4 _
    · exact hP4 _
  · have e : cb_mr pl (cb_cd P 0 pl) = cb_cd (fun j => if j < pl then 3 - (if j < pl then P (pl - 1 - j) else P j) else (if j < pl then P (pl - 1 - j) else P j)) 0 pl := by
      rw [cb_mr_cd hP4]
      refine cb_cd_c fun i hi => ?_
      show 3 - P (pl - 1 - (0 + i)) = if 0 + i < pl then 3 - (if 0 + i < pl then P (pl - 1 - (0 + i)) else P (0 + i)) else (if 0 + i < pl then P (pl - 1 - (0 + i)) else P (0 + i))
      rw [if_pos (by omega), if_pos (by omega)]
    rw [e]
    refine rl_mk ⟨g, hf, ht, hL, hL4, hB, h2, fun i => ?_, hpl, hT, hc⟩
    dsimp only
    by_cases z : i < pl
    · rw [if_pos z]; omega
    · rw [if_neg z, if_neg z]; exact hP4 _
  · rw [if_neg (by omega), h1]
  · rw [if_neg (by omega), hP]
end

/-- no read begins inside the n letters from p on -/
def sn_Ok (B : Nat → Prop) (p n : Nat) : Prop := ∀ i, 0 < i → i < n → ¬ B (p + i)
/-- the piece s was seen at p -/
def sn_V (K : Nat) (L : Nat → Nat) (B : Nat → Prop) (t p s : Nat) : Prop := p + K ≤ t ∧ sn_Ok B p K ∧ s = cb_cd L p K
def sn_hit (K : Nat) (L : Nat → Nat) (B : Nat → Prop) (t c p : Nat) : Prop := ∃ s, sn_V K L B t p s ∧ (s = c ∨ s = cb_mr K c)
/-- how often c or its mirror was seen -/
noncomputable def sn_cn (K : Nat) (L : Nat → Nat) (B : Nat → Prop) (t c : Nat) : Nat := wk_ct (sn_hit K L B t c) t
section
variable {K M T t : Nat} {y2 y3 y4 y5 y6 : Int32} {le be pb pi af ah : Nat → Int32} {L : Nat → Nat} {B : Nat → Prop} {post : Int32 → Prop}
theorem ys_mirL (hK : K ≤ 5) : ∀ d i c a, i + d = K → c < 1024 → a < 4 ^ i → post (nI (cb_mi d c a)) → wY_mirror_7 post (nI K) y2 y3 y4 y5 y6 le be pb pi af ah (d + 1) (nI a) (nI c) (nI i) := by
  intro d
  induction d with
  | zero =>
    intro i c a hi hc ha hp
    exact br_t (nI_le (by omega) (by omega)) hp
  | succ d ih =>
    intro i c a hi hc ha hp
    have a1 : 4 ^ i ≤ 4 ^ 5 := Nat.pow_le_pow_right (by decide) (by omega)
    have a2 : a < 1024 := Nat.lt_of_lt_of_le ha a1
    have e4 : 4 ^ (i + 1) = 4 ^ i * 4 := Nat.pow_succ _ _
    have e1 : nI a * 4 + 3 = nI (a * 4 + 3) := (by rw [pk_mul, nI_add] : nI a * nI 4 + nI 3 = nI (a * 4 + 3))
    have e2 : nI c - nI c / 4 * 4 = nI (c % 4) := pk_rem (d := 4) (by omega) (by decide) (by decide)
    have e3 : nI c / 4 = nI (c / 4) := pk_div (d := 4) (by omega) (by decide) (by decide)
    refine br_f (nI_ge (by omega) (by omega)) ⟨by decide, nm_r (e' := nI (a * 4 + (3 - c % 4))) ?_ ⟨by decide, nm_r e3 (nm_r (nI_1 i) (ih (i + 1) (c / 4) (a * 4 + (3 - c % 4)) (by omega) (by omega) (by omega) hp))⟩⟩
    rw [e1, e2, pk_sub (by omega)]
    congr 1
    omega
theorem ys_mirror (hK : K ≤ 5) {c : Nat} (hc : c < 1024) (hp : post (nI (cb_mr K c))) : wpY_mirror post (nI K, y2, y3, y4, y5, y6, le, be, pb, pi, af, ah) (nI c) :=
  ⟨K + 1, ys_mirL hK K 0 c 0 (by omega) hc (by decide) hp⟩
theorem ys_seenL (hL : ∀ i, le i = nI (L i)) (hB : ∀ i, be i = 0 ↔ ¬ B i) {p : Nat} (hp : p + K ≤ 96) (h1 : sn_Ok B p K → post (nI (cb_cd L p K))) (h0 : ¬ sn_Ok B p K → post (-1)) :
    ∀ d i, i + d = K → sn_Ok B p i → wY_seen_19 post (nI p) (nI K) y2 y3 y4 y5 y6 le be pb pi af ah (d + 1) (nI (cb_cd L p i)) (nI (p + i)) := by
  intro d
  induction d with
  | zero =>
    intro i hi ok
    cases show i = K from by omega
    exact br_t (by rw [nI_add]; exact nI_le (by omega) (by omega)) (h1 ok)
  | succ d ih =>
    intro i hi ok
    have e : nI (cb_cd L p i) * 4 + le (nI (p + i)).toNatClampNeg = nI (cb_cd L p (i + 1)) := by
      rw [nI_clamp (by omega), hL]
      exact (by rw [pk_mul, nI_add]; rfl : nI (cb_cd L p i) * nI 4 + nI (L (p + i)) = nI (cb_cd L p (i + 1)))
    have J : sn_Ok B p (i + 1) → wY_seen_45 post (wY_seen_19 post (nI p) (nI K) y2 y3 y4 y5 y6 le be pb pi af ah (d + 1)) (nI p) (nI (cb_cd L p i)) (nI (p + i)) (nI K) y2 y3 y4 y5 y6 le be pb pi af ah :=
      fun ok' => ⟨vp_in_nI (by omega) (by decide), nm_r e (nm_r (nI_1 _) (ih (i + 1) (by omega) ok'))⟩
    refine br_f (by rw [nI_add]; exact nI_ge (by omega) (by omega)) ?_
    rcases Nat.eq_zero_or_pos i with z | z
    · subst z
      exact br_t (nI_le (by omega) (by omega)) (J fun j h0 hj => by omega)
    · refine br_f (nI_ge (by omega) (by omega)) ⟨vp_in_nI (by omega) (by decide), ?_⟩
      rw [nI_clamp (by omega)]
      by_cases b : B (p + i)
      · exact br_f (fun q => (hB _).mp q b) (h0 fun q => q i z (by omega) b)
      · refine br_t ((hB _).mpr b) (J fun j h0 hj => ?_)
        rcases Nat.lt_or_ge j i with y | y
        · exact ok j h0 y
        · cases show j = i from by omega
          exact b
theorem ys_seen (ht : t ≤ 96) (hK : K ≤ 5) (hL : ∀ i, le i = nI (L i)) (hB : ∀ i, be i = 0 ↔ ¬ B i) {p : Nat} (hp : p ≤ 96) (h1 : ∀ s, sn_V K L B t p s → post (nI s)) (h0 : (∀ s, ¬ sn_V K L B t p s) → post (-1)) :
    wpY_seen post (nI K, y2, nI t, y4, y5, y6, le, be, pb, pi, af, ah) (nI p) := by
  unfold wpY_seen
  dsimp only
  rw [nI_add]
  exact pk_le (p + K) t (fun h => ⟨K + 1, ys_seenL hL hB (by omega) (fun ok => h1 _ ⟨h, ok, rfl⟩) (fun no => h0 fun s q => no q.2.1) K 0 (by omega) (fun j h0 hj => by omega)⟩) (fun h => h0 fun s q => by have := q.1; omega) rfl rfl (by omega) (by omega)
theorem ys_countL (g : cb_G K M T) (ht : t ≤ 96) (hL : ∀ i, le i = nI (L i)) (hL4 : ∀ i, L i < 4) (hB : ∀ i, be i = 0 ↔ ¬ B i) {c : Nat} (hc : c < M) (hp : post (nI (sn_cn K L B t c))) :
    ∀ d i, i + d = t → wY_countOf_4 post (nI c) (nI K) y2 (nI t) y4 y5 y6 le be pb pi af ah (d + 1) (nI (wk_ct (sn_hit K L B t c) i)) (nI i) := by
  have k := cb_K g
  have hm := cb_mr_lt g hc
  intro d
  induction d with
  | zero =>
    intro i hi
    cases show i = t from by omega
    exact br_t (nI_le (by omega) (by omega)) hp
  | succ d ih =>
    intro i hi
    have yes : sn_hit K L B t c i → wY_countOf_4 post (nI c) (nI K) y2 (nI t) y4 y5 y6 le be pb pi af ah (d + 1) (nI (wk_ct (sn_hit K L B t c) i + 1)) (nI (i + 1)) := fun h => by
      rw [← wk_ct_t h]; exact ih (i + 1) (by omega)
    have no : ¬ sn_hit K L B t c i → wY_countOf_4 post (nI c) (nI K) y2 (nI t) y4 y5 y6 le be pb pi af ah (d + 1) (nI (wk_ct (sn_hit K L B t c) i)) (nI (i + 1)) := fun h => by
      rw [← wk_ct_f h]; exact ih (i + 1) (by omega)
    refine br_f (nI_ge (by omega) (by omega)) (ys_seen ht (by omega) hL hB (by omega) (fun s hs => ?_) (fun ns => br_t (by decide) (nm_r (nI_1 i) (no fun ⟨s, hs, _⟩ => ns s hs))))
    have sM : s < M := by
      rw [hs.2.2, ← k.2.2.2.2.2.2]
      exact cb_cd_lt hL4 K
    have un : ∀ s', sn_V K L B t i s' → s' = s := fun s' q => q.2.2.trans hs.2.2.symm
    refine br_f (nI_pos (by omega)) (pk_eq s c (fun e => nm_r (nI_1 _) (nm_r (nI_1 i) (yes ⟨s, hs, Or.inl e⟩))) (fun ne => ys_mirror (by omega) (by omega) (pk_eq s (cb_mr K c) (fun e => nm_r (nI_1 _) (nm_r (nI_1 i) (yes ⟨s, hs, Or.inr e⟩))) (fun ne' => nm_r (nI_1 i) (no fun ⟨s', hs', q⟩ => ?_)) rfl rfl ?_ ?_)) rfl rfl ?_ ?_)
    · cases un s' hs'
      rcases q with q | q
      · exact ne q
      · exact ne' q
    all_goals omega
theorem ys_countOf (g : cb_G K M T) (ht : t ≤ 96) (hL : ∀ i, le i = nI (L i)) (hL4 : ∀ i, L i < 4) (hB : ∀ i, be i = 0 ↔ ¬ B i) {c : Nat} (hc : c < M) (hp : post (nI (sn_cn K L B t c))) :
    wpY_countOf post (nI K, y2, nI t, y4, y5, y6, le, be, pb, pi, af, ah) (nI c) :=
  ⟨t + 1, ys_countL g ht hL hL4 hB hc hp t 0 (by omega)⟩
theorem ys_findL {y1 : Int32} {n : Nat} {x : Int32} (hn : n ≤ 192) (h1 : ∀ i, i < n → pi i = x → post (nI i)) (h0 : (∀ i, i < n → pi i ≠ x) → post (-1)) :
    ∀ d i, i + d = n → (∀ j, j < i → pi j ≠ x) → wY_find_2 post x y1 y2 y3 y4 y5 (nI n) le be pb pi af ah (d + 1) (nI i) := by
  intro d
  induction d with
  | zero =>
    intro i hi hj
    cases show i = n from by omega
    exact br_t (nI_le (by omega) (by omega)) (h0 hj)
  | succ d ih =>
    intro i hi hj
    refine br_f (nI_ge (by omega) (by omega)) ⟨vp_in_nI (by omega) (by decide), ?_⟩
    rw [nI_clamp (by omega)]
    refine br_c (fun e => h1 i (by omega) e) (fun ne => nm_r (nI_1 i) (ih (i + 1) (by omega) (lt_s hj ne)))
theorem ys_find {y1 : Int32} {n : Nat} {x : Int32} (hn : n ≤ 192) (h1 : ∀ i, i < n → pi i = x → post (nI i)) (h0 : (∀ i, i < n → pi i ≠ x) → post (-1)) :
    wpY_find post (y1, y2, y3, y4, y5, nI n, le, be, pb, pi, af, ah) x :=
  ⟨n + 1, ys_findL hn h1 h0 n 0 (by omega) (fun j hj => by omega)⟩
theorem ys_codeL {pl : Nat} {P : Nat → Nat} (hK : K ≤ 5) (hl : pl ≤ 5) (hP : ∀ i, pb i = nI (P i)) (h1 : pl = K → post (nI (cb_cd P 0 pl))) (h0 : pl ≠ K → post (-1)) :
    ∀ d i, i + d = pl → wY_probeCode_4 post (nI K) y2 y3 y4 (nI pl) y6 le be pb pi af ah (d + 1) (nI (cb_cd P 0 i)) (nI i) := by
  intro d
  induction d with
  | zero =>
    intro i hi
    cases show i = pl from by omega
    exact br_t (nI_le (by omega) (by omega)) (pk_eq pl K h1 h0 rfl rfl (by omega) (by omega))
  | succ d ih =>
    intro i hi
    refine br_f (nI_ge (by omega) (by omega)) ⟨vp_in_nI (by omega) (by decide), nm_r (e' := nI (cb_cd P 0 (i + 1))) ?_ (nm_r (nI_1 i) (ih (i + 1) (by omega)))⟩
    rw [nI_clamp (by omega), hP]
    exact (by rw [pk_mul, nI_add]; show nI (cb_cd P 0 i * 4 + P i) = nI (cb_cd P 0 i * 4 + P (0 + i)); rw [Nat.zero_add] : nI (cb_cd P 0 i) * nI 4 + nI (P i) = nI (cb_cd P 0 (i + 1)))
theorem ys_code {pl : Nat} {P : Nat → Nat} (hK : K ≤ 5) (hl : pl ≤ 5) (hP : ∀ i, pb i = nI (P i)) (h1 : pl = K → post (nI (cb_cd P 0 pl))) (h0 : pl ≠ K → post (-1)) :
    wpY_probeCode post (nI K, y2, y3, y4, nI pl, y6, le, be, pb, pi, af, ah) :=
  ⟨pl + 1, ys_codeL hK hl hP h1 h0 pl 0 (by omega)⟩
theorem ys_only59 (g : cb_G K M T) {J8 : Int32 → Int32 → Int32 → Prop} {x1 x2 x3 x4 x5 : Int32} {a b : Nat} (ha : a < M) (hb : b < M)
    (h1 : a % T = b / 4 → J8 x5 (x4 + 1) (x5 + 1)) (h0 : a % T ≠ b / 4 → J8 x3 x4 (x5 + 1)) :
    wY_only_59 post J8 x1 x2 x3 x4 x5 (nI a) (nI b) (nI K) y2 y3 y4 y5 y6 le be pb pi af ah := by
  have k := cb_K g
  have e3 : nI b / 4 = nI (b / 4) := pk_div (d := 4) (by omega) (by decide) (by decide)
  have tT : T < 2 ^ 31 := by omega
  have e2 : nI a - nI a / nI T * nI T = nI (a % T) := pk_rem (by omega) (by omega) tT
  have am := Nat.mod_lt a (show T > 0 by omega)
  have fin : ∀ r, r = nI T → (¬ r = 0 ∧ (¬ (4 : Int32) = 0 ∧ ((((nI a - nI a / r * r) = (nI b / 4) → (∀ x4_24 : Int32, x4_24 = x4 + 1 → (∀ x5_25 : Int32, x5_25 = x5 + 1 → (J8 x5 x4_24 x5_25)))) ∧ (¬ (nI a - nI a / r * r) = (nI b / 4) → (∀ x5_23 : Int32, x5_23 = x5 + 1 → (J8 x3 x4 x5_23))))))) := by
    intro r er
    subst er
    refine ⟨nI_ne0 (by omega) (by omega), by decide, ?_⟩
    rw [e2, e3]
    exact pk_eq (a % T) (b / 4) (fun e => nm_e (nm_e (h1 e))) (fun ne => nm_e (h0 ne)) rfl rfl (by omega) (by omega)
  unfold wY_only_59 wpY_tail
  dsimp only
  rcases g with ⟨rfl, rfl, rfl⟩ | ⟨rfl, rfl, rfl⟩
  · exact br_t (by decide) (fin 16 (by decide))
  · exact br_f (by decide) (fin 256 (by decide))
theorem ys_onlyL (g : cb_G K M T) {n x : Nat} {fw : Int32} {Q : Nat → Nat} {P : Nat → Prop} (hn : n ≤ 192) (hx : x < n) (hQ : ∀ i, i < n → pi i = nI (Q i) ∧ Q i < M)
    (hf : (fw = 1 ∧ ∀ y, P y ↔ Q x % T = Q y / 4) ∨ (fw = 0 ∧ ∀ y, P y ↔ Q y % T = Q x / 4))
    (h1 : ∀ y, y < n → P y → (∀ z, z < n → P z → z = y) → post (nI y)) (h0 : (∀ y, y < n → P y → (∀ z, z < n → P z → z = y) → False) → post (-1)) :
    ∀ d i f m, i + d = n → ((m = 0 ∧ ∀ y, y < i → ¬ P y) ∨ (m = 1 ∧ ∃ y, y < i ∧ f = nI y ∧ P y ∧ ∀ z, z < i → P z → z = y) ∨ (2 ≤ m ∧ m ≤ i ∧ ∃ y z, y < i ∧ z < i ∧ P y ∧ P z ∧ y ≠ z)) →
    wY_only_8 post (nI x) fw (nI K) y2 y3 y4 y5 (nI n) le be pb pi af ah (d + 1) f (nI m) (nI i) := by
  have k := cb_K g
  intro d
  induction d with
  | zero =>
    intro i f m hi inv
    cases show i = n from by omega
    refine br_t (nI_le (by omega) (by omega)) ?_
    rcases inv with ⟨rfl, no⟩ | ⟨rfl, y, hy, rfl, py, uy⟩ | ⟨hm, hmi, y, z, hy, hz, py, pz, ne⟩
    · exact br_f (by decide) (h0 fun y hy py _ => no y hy py)
    · exact br_t (by decide) (h1 y hy py uy)
    · exact br_f (fun q => by have := (nI_eq (b := 1) (by omega) (by decide)).mp q; omega) (h0 fun w hw pw uw => ne ((uw y hy py).trans (uw z hz pz).symm))
  | succ d ih =>
    intro i f m hi inv
    have mi : m ≤ i := by
      rcases inv with ⟨rfl, no⟩ | ⟨rfl, y, hy, rfl, py, uy⟩ | ⟨hm, hmi, y, z, hy, hz, py, pz, ne⟩ <;> omega
    have yes : P i → wY_only_8 post (nI x) fw (nI K) y2 y3 y4 y5 (nI n) le be pb pi af ah (d + 1) (nI i) (nI m + 1) (nI i + 1) := fun p => by
      rw [nI_1, nI_1]
      refine ih (i + 1) _ _ (by omega) ?_
      rcases inv with ⟨rfl, no⟩ | ⟨rfl, y, hy, rfl, py, uy⟩ | ⟨hm, hmi, y, z, hy, hz, py, pz, ne⟩
      · exact Or.inr (Or.inl ⟨rfl, i, by omega, rfl, p, fun z hz pz => by
          rcases Nat.lt_or_ge z i with q | q
          · exact (no z q pz).elim
          · omega⟩)
      · exact Or.inr (Or.inr ⟨by omega, by omega, y, i, by omega, by omega, py, p, by omega⟩)
      · exact Or.inr (Or.inr ⟨by omega, by omega, y, z, by omega, by omega, py, pz, ne⟩)
    have no : ¬ P i → wY_only_8 post (nI x) fw (nI K) y2 y3 y4 y5 (nI n) le be pb pi af ah (d + 1) f (nI m) (nI i + 1) := fun p => by
      rw [nI_1]
      refine ih (i + 1) _ _ (by omega) ?_
      rcases inv with ⟨rfl, no⟩ | ⟨rfl, y, hy, rfl, py, uy⟩ | ⟨hm, hmi, y, z, hy, hz, py, pz, ne⟩
      · exact Or.inl ⟨rfl, lt_s no p⟩
      · exact Or.inr (Or.inl ⟨rfl, y, by omega, rfl, py, fun z hz pz => by
          rcases Nat.lt_or_ge z i with q | q
          · exact uy z q pz
          · cases show z = i from by omega
            exact (p pz).elim⟩)
      · exact Or.inr (Or.inr ⟨hm, by omega, y, z, by omega, by omega, py, pz, ne⟩)
    obtain ⟨qx, lx⟩ := hQ x hx
    obtain ⟨qi, li⟩ := hQ i (by omega)
    have vx : vp_in (nI x) 192 := vp_in_nI (by omega) (by decide)
    have vi : vp_in (nI i) 192 := vp_in_nI (by omega) (by decide)
    have cx : (nI x).toNatClampNeg = x := nI_clamp (by omega)
    have ci : (nI i).toNatClampNeg = i := nI_clamp (by omega)
    refine br_f (nI_ge (by omega) (by omega)) ?_
    rcases hf with ⟨rfl, hf⟩ | ⟨rfl, hf⟩
    · refine br_f (by decide) ⟨vx, br_f (by decide) ⟨vi, ?_⟩⟩
      rw [cx, ci, qx, qi]
      exact ys_only59 g lx li (fun e => yes ((hf i).mpr e)) (fun ne => no fun q => ne ((hf i).mp q))
    · refine br_t rfl ⟨vi, br_t rfl ⟨vx, ?_⟩⟩
      rw [cx, ci, qx, qi]
      exact ys_only59 g li lx (fun e => yes ((hf i).mpr e)) (fun ne => no fun q => ne ((hf i).mp q))
theorem ys_only (g : cb_G K M T) {n x : Nat} {fw : Int32} {Q : Nat → Nat} {P : Nat → Prop} (hn : n ≤ 192) (hx : x < n) (hQ : ∀ i, i < n → pi i = nI (Q i) ∧ Q i < M)
    (hf : (fw = 1 ∧ ∀ y, P y ↔ Q x % T = Q y / 4) ∨ (fw = 0 ∧ ∀ y, P y ↔ Q y % T = Q x / 4))
    (h1 : ∀ y, y < n → P y → (∀ z, z < n → P z → z = y) → post (nI y)) (h0 : (∀ y, y < n → P y → (∀ z, z < n → P z → z = y) → False) → post (-1)) :
    wpY_only post (nI K, y2, y3, y4, y5, nI n, le, be, pb, pi, af, ah) (nI x) fw :=
  ⟨n + 1, ys_onlyL g hn hx hQ hf h1 h0 n 0 (-1) 0 (by omega) (Or.inl ⟨rfl, fun y hy => by omega⟩)⟩
end

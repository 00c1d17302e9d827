/-- Q lists the solid pieces, each once -/
def ga_Q (M n : Nat) (Q : Nat → Nat) (S : Nat → Prop) : Prop := n ≤ 192 ∧ (∀ i, i < n → Q i < M ∧ S (Q i)) ∧ (∀ i j, i < n → j < n → Q i = Q j → i = j) ∧ (∀ c, c < M → S c → ∃ i, i < n ∧ Q i = c)
/-- a relation of pieces, by their places in the list -/
def ga_R (n : Nat) (Q : Nat → Nat) (R : Nat → Nat → Prop) (x y : Nat) : Prop := x < n ∧ y < n ∧ R (Q x) (Q y)
/-- the array holds the relation -/
def ga_T (n : Nat) (A : Nat → Int32) (R : Nat → Nat → Prop) : Prop := ∀ a, a < n → (∃ b, A a = nI b ∧ R a b) ∨ (A a = -1 ∧ ∀ b, ¬ R a b)
theorem ga_PI {n N : Nat} {Q : Nat → Nat} {R : Nat → Nat → Prop} (hi : ∀ i j, i < n → j < n → Q i = Q j → i = j) (h : wk_PI R N) : wk_PI (ga_R n Q R) n :=
  ⟨fun a b b' x y => hi _ _ x.2.1 y.2.1 (h.1 _ _ _ x.2.2 y.2.2), fun a a' b x y => hi _ _ x.1 y.1 (h.2.1 _ _ _ x.2.2 y.2.2), fun a b x => ⟨x.1, x.2.1⟩⟩
theorem ga_fo {M T n : Nat} {Q : Nat → Nat} {S : Nat → Prop} (h : ga_Q M n Q S) {x y : Nat} (hy : y < n) : (Q x % T = Q y / 4 ∧ ∀ z, z < n → Q x % T = Q z / 4 → z = y) ↔ lk_Un (lk_Fo M T S (Q x)) (Q y) := by
  obtain ⟨h0, h1, h2, h3⟩ := h
  constructor
  · rintro ⟨a, b⟩
    refine ⟨⟨(h1 y hy).1, (h1 y hy).2, a⟩, fun e he => ?_⟩
    obtain ⟨z, hz, rfl⟩ := h3 e he.1 he.2.1
    rw [b z hz he.2.2]
  · rintro ⟨a, b⟩
    exact ⟨a.2.2, fun z hz q => h2 _ _ hz hy (b _ ⟨(h1 z hz).1, (h1 z hz).2, q⟩)⟩
theorem ga_le {M T n : Nat} {Q : Nat → Nat} {S : Nat → Prop} (h : ga_Q M n Q S) {x y : Nat} (hy : y < n) : (Q y % T = Q x / 4 ∧ ∀ z, z < n → Q z % T = Q x / 4 → z = y) ↔ lk_Un (lk_Le M T S (Q x)) (Q y) := by
  obtain ⟨h0, h1, h2, h3⟩ := h
  constructor
  · rintro ⟨a, b⟩
    refine ⟨⟨(h1 y hy).1, (h1 y hy).2, a⟩, fun e he => ?_⟩
    obtain ⟨z, hz, rfl⟩ := h3 e he.1 he.2.1
    rw [b z hz he.2.2]
  · rintro ⟨a, b⟩
    exact ⟨a.2.2, fun z hz q => h2 _ _ hz hy (b _ ⟨(h1 z hz).1, (h1 z hz).2, q⟩)⟩
/-- the arrays after the links of the places below i -/
def ga_A (n i : Nat) (R : Nat → Nat → Prop) (af ah : Nat → Int32) : Prop := (∀ a, a < n → (∃ b, af a = nI b ∧ R a b ∧ a < i) ∨ (af a = -1 ∧ ∀ b, R a b → i ≤ a)) ∧ (∀ b, b < n → (∃ a, ah b = nI a ∧ R a b ∧ a < i) ∨ (ah b = -1 ∧ ∀ a, R a b → i ≤ a))
theorem ga_skip {n i : Nat} {R : Nat → Nat → Prop} {af ah : Nat → Int32} (h : ga_A n i R af ah) (no : ∀ b, ¬ R i b) : ga_A n (i + 1) R af ah := by
  refine ⟨fun a ha => ?_, fun b hb => ?_⟩
  · rcases h.1 a ha with ⟨b, e, r, l⟩ | ⟨e, q⟩
    · exact Or.inl ⟨b, e, r, by omega⟩
    · refine Or.inr ⟨e, fun b r => ?_⟩
      have := q b r
      have : a ≠ i := fun z => no b (z ▸ r)
      omega
  · rcases h.2 b hb with ⟨a, e, r, l⟩ | ⟨e, q⟩
    · exact Or.inl ⟨a, e, r, by omega⟩
    · refine Or.inr ⟨e, fun a r => ?_⟩
      have := q a r
      have : a ≠ i := fun z => no b (z ▸ r)
      omega
theorem ga_store {n i y N : Nat} {R : Nat → Nat → Prop} {af ah : Nat → Int32} (pi : wk_PI R N) (h : ga_A n i R af ah) (r : R i y) : ga_A n (i + 1) R (upd af i (nI y)) (upd ah y (nI i)) := by
  refine ⟨fun a ha => ?_, fun b hb => ?_⟩
  · by_cases z : a = i
    · subst z
      exact Or.inl ⟨y, pk_us, r, by omega⟩
    · rw [pk_un z]
      rcases h.1 a ha with ⟨b, e, r, l⟩ | ⟨e, q⟩
      · exact Or.inl ⟨b, e, r, by omega⟩
      · refine Or.inr ⟨e, fun b r => ?_⟩
        have := q b r
        omega
  · by_cases z : b = y
    · subst z
      exact Or.inl ⟨i, pk_us, r, by omega⟩
    · rw [pk_un z]
      rcases h.2 b hb with ⟨a, e, r, l⟩ | ⟨e, q⟩
      · exact Or.inl ⟨a, e, r, by omega⟩
      · refine Or.inr ⟨e, fun a r' => ?_⟩
        have := q a r'
        have : a ≠ i := fun w => z (pi.1 _ _ _ (w ▸ r') r)
        omega
section
variable {K M T t fl n : Nat} {y2 y3 y4 y5 y6 : Int32} {le be pb pi af ah : Nat → Int32} {L Q : Nat → Nat} {B S : Nat → Prop} {post : SY → Prop}
theorem ys_g129 (g : cb_G K M T) (hq : ga_Q M n Q S) (hpi : ∀ j, j < n → pi j = nI (Q j))
    (hp : ∀ af ah, ga_T n af (ga_R n Q (lk_R K M T S)) → ga_T n ah (wk_Cv (ga_R n Q (lk_R K M T S))) → post (nI K, y2, y3, y4, y5, nI n, le, be, pb, pi, af, ah)) :
    ∀ d i af ah, i + d = n → ga_A n i (ga_R n Q (lk_R K M T S)) af ah → wY_gather_129 post (nI K) y2 y3 y4 y5 (nI n) (d + 1) (nI i) le be pb pi af ah := by
  have k := cb_K g
  have pI := ga_PI hq.2.2.1 (lk_PI (K := K) (M := M) (T := T) (S := S))
  have hn := hq.1
  have hQ : ∀ i, i < n → pi i = nI (Q i) ∧ Q i < M := fun i hi => ⟨hpi i hi, (hq.2.1 i hi).1⟩
  intro d
  induction d with
  | zero =>
    intro i af ah hi hA
    cases show i = n from by omega
    refine br_t (nI_le (by omega) (by omega)) (hp af ah (fun a ha => ?_) (fun a ha => ?_))
    · rcases hA.1 a ha with ⟨b, e, r, l⟩ | ⟨e, q⟩
      · exact Or.inl ⟨b, e, r⟩
      · exact Or.inr ⟨e, fun b r => by have := q b r; omega⟩
    · rcases hA.2 a ha with ⟨b, e, r, l⟩ | ⟨e, q⟩
      · exact Or.inl ⟨b, e, r⟩
      · exact Or.inr ⟨e, fun b r => by have := q b r; have := r.1; omega⟩
  | succ d ih =>
    intro i af ah hi hA
    have iN : i < n := by omega
    have skip : (∀ b, ¬ ga_R n Q (lk_R K M T S) i b) → wY_gather_129 post (nI K) y2 y3 y4 y5 (nI n) (d + 1) (nI (i + 1)) le be pb pi af ah := fun no => ih (i + 1) af ah (by omega) (ga_skip hA no)
    refine br_f (nI_ge (by omega) (by omega)) (ys_only g (P := fun y => Q i % T = Q y / 4) hn iN hQ (Or.inl ⟨rfl, fun y => Iff.rfl⟩) (fun y hy py uy => ?_) (fun no => br_t (by decide) (nm_r (nI_1 i) (skip fun b r => ?_))))
    · have fy := (ga_fo (T := T) hq (x := i) hy).mp ⟨py, uy⟩
      refine br_f (nI_pos (by omega)) (ys_only g (P := fun z => Q z % T = Q y / 4) hn hy hQ (Or.inr ⟨rfl, fun y => Iff.rfl⟩) (fun z hz pz uz => ?_) (fun no => br_f (fun q => cb_nm (n := i) (by omega) q.symm) (nm_r (nI_1 i) (skip fun b r => ?_))))
      · have fz := (ga_le (T := T) hq (x := y) hz).mp ⟨pz, uz⟩
        refine pk_eq z i (fun e => ?_) (fun ne => nm_r (nI_1 i) (skip fun b r => ?_)) rfl rfl (by omega) (by omega)
        · subst e
          refine pk_eq y z (fun e => nm_r (nI_1 z) (skip fun b r => ?_)) (fun ne => ⟨vp_in_nI (by omega) (by decide), vp_in_nI (by omega) (by decide), ?_⟩) rfl rfl (by omega) (by omega)
          · subst e
            have := lk_UnU fy r.2.2.1
            exact r.2.2.2.2.1 this
          · rw [nI_clamp (n := z) (by omega), nI_clamp (n := y) (by omega), hpi z iN, hpi y hy]
            have hz1 := (hQ z iN).2
            have hy1 := (hQ y hy).2
            have hm := cb_mr_lt g hz1
            refine ys_mirror (by omega) (by omega) (pk_eq (Q y) (cb_mr K (Q z)) (fun e => nm_r (nI_1 z) (skip fun b r => ?_)) (fun ne' => ⟨vp_in_nI (by omega) (by decide), nm_e ⟨vp_in_nI (by omega) (by decide), nm_e (nm_r (nI_1 z) ?_)⟩⟩) rfl rfl (by omega) (by omega))
            · have := lk_UnU fy r.2.2.1
              exact r.2.2.2.2.2 (e.symm.trans this)
            · exact ih (z + 1) _ _ (by omega) (ga_store pI hA ⟨iN, hy, fy, fz, fun q => ne (hq.2.2.1 _ _ hy iN q.symm), fun q => ne' q.symm⟩)
        · have e1 := lk_UnU fy r.2.2.1
          cases hq.2.2.1 _ _ hy r.2.1 e1
          exact ne (hq.2.2.1 _ _ hz iN (lk_UnU fz r.2.2.2.1))
      · have e1 := lk_UnU fy r.2.2.1
        cases hq.2.2.1 _ _ hy r.2.1 e1
        have q := (ga_le (T := T) hq (x := y) iN).mpr r.2.2.2.1
        exact no i iN q.1 q.2
    · have q := (ga_fo (T := T) hq (x := i) r.2.1).mpr r.2.2.1
      exact no b r.2.1 q.1 q.2
theorem ys_g99 {y1 : Int32} (hn : n ≤ 192) (hp : ∀ af ah, (∀ j, j < n → af j = -1 ∧ ah j = -1) → ∃ m, wY_gather_129 post y1 y2 y3 y4 y5 (nI n) m 0 le be pb pi af ah) :
    ∀ d i af ah, i + d = n → (∀ j, j < i → af j = -1 ∧ ah j = -1) → wY_gather_99 post y1 y2 y3 y4 y5 (nI n) (d + 1) (nI i) le be pb pi af ah := by
  intro d
  induction d with
  | zero =>
    intro i af ah hi h
    cases show i = n from by omega
    exact br_t (nI_le (by omega) (by omega)) (hp af ah h)
  | succ d ih =>
    intro i af ah hi h
    refine br_f (nI_ge (by omega) (by omega)) ⟨vp_in_nI (by omega) (by decide), nm_e ⟨vp_in_nI (by omega) (by decide), nm_e (nm_r (nI_1 i) ?_)⟩⟩
    rw [nI_clamp (by omega)]
    refine ih (i + 1) _ _ (by omega) (fun j hj => ?_)
    by_cases z : j = i
    · subst z
      exact ⟨pk_us, pk_us⟩
    · rw [pk_un z, pk_un z]
      exact h j (by omega)
/-- the list as it grows: the positions below i are done -/
def ga_I (K M i n : Nat) (Q : Nat → Nat) (V : Nat → Nat → Prop) (S : Nat → Prop) : Prop := n ≤ 2 * i ∧ (∀ j, j < n → Q j < M ∧ S (Q j)) ∧ (∀ a b, a < n → b < n → Q a = Q b → a = b) ∧ (∀ j, j < n → ∃ j', j' < n ∧ Q j' = cb_mr K (Q j)) ∧ (∀ q s, q < i → V q s → S s → ∃ j, j < n ∧ Q j = s)
theorem ga_I_skip {K M i n : Nat} {Q : Nat → Nat} {V : Nat → Nat → Prop} {S : Nat → Prop} (h : ga_I K M i n Q V S) (q : ∀ s, V i s → S s → ∃ j, j < n ∧ Q j = s) : ga_I K M (i + 1) n Q V S := by
  obtain ⟨h1, h2, h3, h4, h5⟩ := h
  refine ⟨by omega, h2, h3, h4, fun p s hp v hs => ?_⟩
  rcases Nat.lt_or_ge p i with z | z
  · exact h5 p s z v hs
  · cases show p = i from by omega
    exact q s v hs
theorem ga_I_add {K M T i n s : Nat} {Q : Nat → Nat} {V : Nat → Nat → Prop} {S : Nat → Prop} (g : cb_G K M T) (hm : ∀ c, c < M → S c → S (cb_mr K c)) (h : ga_I K M i n Q V S) (sM : s < M) (ss : S s) (no : ∀ j, j < n → Q j ≠ s) (un : ∀ s', V i s' → s' = s) :
    ga_I K M (i + 1) (n + 2) (fun j => if j = n + 1 then cb_mr K s else if j = n then s else Q j) V S := by
  obtain ⟨h1, h2, h3, h4, h5⟩ := h
  have e0 : ∀ j, j < n → (if j = n + 1 then cb_mr K s else if j = n then s else Q j) = Q j := fun j hj => by
    rw [if_neg (by omega), if_neg (by omega)]
  have e1 : (if n = n + 1 then cb_mr K s else if n = n then s else Q n) = s := by
    rw [if_neg (by omega), if_pos rfl]
  have e2 : (if n + 1 = n + 1 then cb_mr K s else if n + 1 = n then s else Q (n + 1)) = cb_mr K s := if_pos rfl
  have mM := cb_mr_lt g sM
  have nm : ∀ j, j < n → Q j ≠ cb_mr K s := fun j hj q => by
    obtain ⟨j', hj', e⟩ := h4 j hj
    rw [q, cb_mr_mr g sM] at e
    exact no j' hj' e
  have cs : ∀ j, j < n + 2 → j < n ∨ j = n ∨ j = n + 1 := fun j hj => by omega
  refine ⟨by omega, fun j hj => ?_, fun a b ha hb q => ?_, fun j hj => ?_, fun p s' hp v hs => ?_⟩
  · rcases cs j hj with z | z | z
    · dsimp only; rw [e0 j z]; exact h2 j z
    · subst z; dsimp only; rw [e1]; exact ⟨sM, ss⟩
    · subst z; dsimp only; rw [e2]; exact ⟨mM, hm s sM ss⟩
  · dsimp only at q
    rcases cs a ha with z | z | z <;> rcases cs b hb with w | w | w
    · rw [e0 a z, e0 b w] at q; exact h3 a b z w q
    · subst w; rw [e0 a z, e1] at q; exact (no a z q).elim
    · subst w; rw [e0 a z, e2] at q; exact (nm a z q).elim
    · subst z; rw [e0 b w, e1] at q; exact (no b w q.symm).elim
    · omega
    · subst w; subst z; rw [e1, e2] at q; exact (cb_mr_ne g sM q.symm).elim
    · subst z; rw [e0 b w, e2] at q; exact (nm b w q.symm).elim
    · subst w; subst z; rw [e1, e2] at q; exact (cb_mr_ne g sM q).elim
    · omega
  · dsimp only
    rcases cs j hj with z | z | z
    · obtain ⟨j', hj', e⟩ := h4 j z
      exact ⟨j', by omega, by rw [e0 j z, e0 j' hj', e]⟩
    · subst z
      exact ⟨j + 1, by omega, by rw [e1, e2]⟩
    · subst z
      exact ⟨n, by omega, by rw [e1, e2, cb_mr_mr g sM]⟩
  · dsimp only
    rcases Nat.lt_or_ge p i with z | z
    · obtain ⟨j, hj, e⟩ := h5 p s' z v hs
      exact ⟨j, by omega, by rw [e0 j hj, e]⟩
    · cases show p = i from by omega
      exact ⟨n, by omega, by rw [e1, un s' v]⟩
theorem ys_g7 (g : cb_G K M T) (ht : t ≤ 96) (hf : fl ≤ 9) (hL : ∀ i, le i = nI (L i)) (hL4 : ∀ i, L i < 4) (hB : ∀ i, be i = 0 ↔ ¬ B i)
    (hs : ∀ c, S c ↔ fl ≤ sn_cn K L B t c) (hm : ∀ c, c < M → S c → S (cb_mr K c))
    (hp : ∀ n Q pi, ga_I K M t n Q (sn_V K L B t) S → (∀ j, j < n → pi j = nI (Q j)) → ∃ m, wY_gather_99 post (nI K) (nI fl) (nI t) y4 y5 (nI n) m 0 le be pb pi af ah) :
    ∀ d i n Q pi, i + d = t → ga_I K M i n Q (sn_V K L B t) S → (∀ j, j < n → pi j = nI (Q j)) → wY_gather_7 post (nI K) (nI fl) (nI t) y4 y5 (d + 1) (nI i) (nI n) le be pb pi af ah := by
  have k := cb_K g
  intro d
  induction d with
  | zero =>
    intro i n Q pi hi h hq
    cases show i = t from by omega
    exact br_t (nI_le (by omega) (by omega)) (hp n Q pi h hq)
  | succ d ih =>
    intro i n Q pi hi h hq
    have hn := h.1
    have skip : (∀ s, sn_V K L B t i s → S s → ∃ j, j < n ∧ Q j = s) → wY_gather_7 post (nI K) (nI fl) (nI t) y4 y5 (d + 1) (nI (i + 1)) (nI n) le be pb pi af ah := fun q => ih (i + 1) n Q pi (by omega) (ga_I_skip h q) hq
    refine br_f (nI_ge (by omega) (by omega)) (ys_seen ht (by omega) hL hB (by omega) (fun s v => ?_) (fun no => br_t (by decide) (nm_r (nI_1 i) (skip fun s v => (no s v).elim))))
    have sM : s < M := by
      rw [v.2.2, ← k.2.2.2.2.2.2]
      exact cb_cd_lt hL4 K
    have un : ∀ s', sn_V K L B t i s' → s' = s := fun s' q => q.2.2.trans v.2.2.symm
    have cb : sn_cn K L B t s ≤ t := wk_ct_b t
    refine br_f (nI_pos (by omega)) (ys_find (by omega) (fun j hj e => br_t (nI_pos' (by omega)) (nm_r (nI_1 i) (skip fun s' v' _ => ⟨j, hj, ?_⟩))) (fun no => br_f (by decide) (ys_countOf g ht hL hL4 hB sM ?_)))
    · rw [hq j hj] at e
      have := (nI_eq (by have := (h.2.1 j hj).1; omega) (by omega)).mp e
      rw [this, un s' v']
    · refine pk_lt (sn_cn K L B t s) fl (fun lt => nm_r (nI_1 i) (skip fun s' v' ss => ?_)) (fun ge => br_f (nI_ge (b := 191) (by omega) (by decide)) ⟨vp_in_nI (by omega) (by decide), nm_e (ys_mirror (by omega) (by omega) ⟨?_, nm_e (nm_r (e' := nI (n + 2)) ?_ (nm_r (nI_1 i) ?_))⟩)⟩) rfl rfl (by omega) (by omega)
      · cases un s' v'
        have := (hs s).mp ss
        omega
      · rw [nI_1]
        exact vp_in_nI (by omega) (by decide)
      · exact nI_add n 2
      · rw [nI_1, nI_clamp (n := n + 1) (by omega), nI_clamp (n := n) (by omega)]
        refine ih (i + 1) (n + 2) _ _ (by omega) (ga_I_add g hm h sM ((hs s).mpr ge) (fun j hj e => ?_) un) (fun j hj => ?_)
        · exact no j hj (by rw [hq j hj, e])
        · by_cases z : j = n + 1
          · rw [if_pos z]
            subst z
            exact pk_us
          · rw [if_neg z, pk_un z]
            by_cases w : j = n
            · rw [if_pos w]
              subst w
              exact pk_us
            · rw [if_neg w, pk_un w]
              exact hq j (by omega)
theorem ga_Iend (g : cb_G K M T) (ht : t ≤ 96) (hf0 : 1 ≤ fl) (hL4 : ∀ i, L i < 4) (hs : ∀ c, S c ↔ fl ≤ sn_cn K L B t c) (hm : ∀ c, c < M → S c → S (cb_mr K c)) (h : ga_I K M t n Q (sn_V K L B t) S) : ga_Q M n Q S := by
  have k := cb_K g
  obtain ⟨h1, h2, h3, h4, h5⟩ := h
  refine ⟨by omega, h2, h3, fun c hc sc => ?_⟩
  have a := (hs c).mp sc
  obtain ⟨p, hp, s, v, e⟩ := wk_ct_e (P := sn_hit K L B t c) (n := t) (by have : fl ≤ wk_ct (sn_hit K L B t c) t := a; omega)
  rcases e with e | e
  · subst e
    exact h5 p s hp v sc
  · subst e
    obtain ⟨j, hj, e⟩ := h5 p _ hp v (hm c hc sc)
    obtain ⟨j', hj', e'⟩ := h4 j hj
    exact ⟨j', hj', by rw [e', e, cb_mr_mr g hc]⟩
theorem ys_gather (g : cb_G K M T) (ht : t ≤ 96) (hf0 : 1 ≤ fl) (hf : fl ≤ 9) (hL : ∀ i, le i = nI (L i)) (hL4 : ∀ i, L i < 4) (hB : ∀ i, be i = 0 ↔ ¬ B i)
    (hs : ∀ c, S c ↔ fl ≤ sn_cn K L B t c) (hm : ∀ c, c < M → S c → S (cb_mr K c))
    (hp : ∀ n Q pi af ah, ga_Q M n Q S → (∀ j, j < n → pi j = nI (Q j)) → ga_T n af (ga_R n Q (lk_R K M T S)) → ga_T n ah (wk_Cv (ga_R n Q (lk_R K M T S))) → post (nI K, nI fl, nI t, y4, y5, nI n, le, be, pb, pi, af, ah)) :
    wpY_gather post (nI K, nI fl, nI t, y4, y5, y6, le, be, pb, pi, af, ah) := by
  refine ⟨t + 1, ys_g7 g ht hf hL hL4 hB hs hm (fun n Q pi h hq => ?_) t 0 0 (fun _ => 0) pi (by omega) ⟨by omega, fun j hj => by omega, fun a b ha => by omega, fun j hj => by omega, fun q s hq => by omega⟩ (fun j hj => by omega)⟩
  have gq := ga_Iend g ht hf0 hL4 hs hm h
  refine ⟨n + 1, ys_g99 gq.1 (fun af ah h1 => ⟨n + 1, ys_g129 g gq hq (fun af ah => hp n Q pi af ah gq hq) n 0 af ah (by omega) ⟨fun a ha => Or.inr ⟨(h1 a ha).1, fun b _ => Nat.zero_le _⟩, fun a ha => Or.inr ⟨(h1 a ha).2, fun b _ => Nat.zero_le _⟩⟩⟩) n 0 af ah (by omega) (fun j hj => by omega)⟩
end

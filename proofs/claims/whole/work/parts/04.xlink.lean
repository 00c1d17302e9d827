theorem xm_loop {post : Int32 → Prop} {n : Nat} (hn : n ≤ 5) : ∀ d i c a, i + d = n → c < 1024 → a < 4 ^ i → post (nI (cb_mi d c a)) → wX_mirrorOf_7 post (nI n) (d + 1) (nI c) (nI a) (nI i) := by
  intro d
  induction d with
  | zero =>
    intro i c a hi hc ha hp
    exact br_t (nI_le (by omega) (by omega)) hp
  | succ d ih =>
    intro i c a hi hc ha hp
    have a1 : 4 ^ i ≤ 4 ^ 5 := Nat.pow_le_pow_right (by decide) (by omega)
    have a2 : a < 1024 := Nat.lt_of_lt_of_le ha a1
    have e4 : 4 ^ (i + 1) = 4 ^ i * 4 := Nat.pow_succ _ _
    refine br_f (nI_ge (by omega) (by omega)) (nm_r (e' := nI (a * 4 + (3 - c % 4))) ?_ (nm_r (e' := nI (c / 4)) ?_ (nm_r (nI_1 i) (ih (i + 1) (c / 4) (a * 4 + (3 - c % 4)) (by omega) (by omega) (by omega) hp))))
    · rw [cb_and3, cb_lN (by omega), show (3 : Int32) = nI 3 from by decide, pk_sub (by omega)]
      exact cb_or (by omega) (by omega)
    · exact pk_shrN (by omega) _ 2 (by decide)
theorem xm_mirrorOf {post : Int32 → Prop} {n c : Nat} (hn : n ≤ 5) (hc : c < 1024) (hp : post (nI (cb_mr n c))) : wpX_mirrorOf post (nI c) (nI n) :=
  ⟨n + 1, xm_loop hn n 0 c 0 (by omega) hc (by decide) hp⟩
/-- d and no other has P -/
def lk_Un (P : Nat → Prop) (d : Nat) : Prop := P d ∧ ∀ e, P e → e = d
/-- e is solid and follows c -/
def lk_Fo (M T : Nat) (S : Nat → Prop) (c e : Nat) : Prop := e < M ∧ S e ∧ c % T = e / 4
/-- e is solid and leads to d -/
def lk_Le (M T : Nat) (S : Nat → Prop) (d e : Nat) : Prop := e < M ∧ S e ∧ e % T = d / 4
/-- c is linked to d -/
def lk_R (K M T : Nat) (S : Nat → Prop) (c d : Nat) : Prop := lk_Un (lk_Fo M T S c) d ∧ lk_Un (lk_Le M T S d) c ∧ c ≠ d ∧ cb_mr K c ≠ d
theorem lk_UnU {P : Nat → Prop} {a b : Nat} (x : lk_Un P a) (y : lk_Un P b) : a = b := y.2 a x.1
theorem lk_PI {K M T : Nat} {S : Nat → Prop} : wk_PI (lk_R K M T S) M :=
  ⟨fun a b b' x y => lk_UnU x.1 y.1, fun a a' b x y => lk_UnU x.2.1 y.2.1, fun a b x => ⟨x.2.1.1.1, x.1.1.1⟩⟩
section
variable {K M T fl : Nat} {x5 x6 x7 x8 x9 : Int32} {cs : Nat → Int32} {S : Nat → Prop} {post : Int32 → Prop}
theorem xs_isSolid (g : cb_G K M T) (hS : ∀ c, c < M → (cs c < nI fl ↔ ¬ S c)) {c : Nat} (hc : c < M) (h1 : S c → post 1) (h0 : ¬ S c → post 0) :
    wpX_isSolid post (nI K, nI (M - 1), nI T, nI fl, x5, x6, x7, x8, x9, cs) (nI c) := by
  have k := cb_K g
  unfold wpX_isSolid
  dsimp only
  rw [cb_1023 (by omega), nI_clamp (by omega)]
  exact ⟨vp_in_nI (by omega) (by decide), fun h => h0 ((hS c hc).mp h), fun h => h1 (Classical.byContradiction fun q => h ((hS c hc).mpr q))⟩
theorem xs_o4L (g : cb_G K M T) (hS : ∀ c, c < M → (cs c < nI fl ↔ ¬ S c)) {a b : Nat} (hg : ∀ l, l < 4 → a + l * b < M)
    (h1 : ∀ l, l < 4 → S (a + l * b) → (∀ j, j < 4 → S (a + j * b) → j = l) → post (nI (a + l * b)))
    (h0 : (∀ l, l < 4 → S (a + l * b) → (∀ j, j < 4 → S (a + j * b) → j = l) → False) → post (-1)) :
    ∀ d i x, i + d = 4 → ((x = -1 ∧ ∀ l, l < i → ¬ S (a + l * b)) ∨ (∃ l, l < i ∧ x = nI (a + l * b) ∧ S (a + l * b) ∧ ∀ j, j < i → S (a + j * b) → j = l)) →
    wX_onlySolidOfFour_5 post (nI a) (nI b) (nI K) (nI (M - 1)) (nI T) (nI fl) x5 x6 x7 x8 x9 cs (d + 1) x (nI i) := by
  have k := cb_K g
  intro d
  induction d with
  | zero =>
    intro i x hi hx
    have i4 : i = 4 := by omega
    subst i4
    refine br_t (nI_le (a := 4) (by omega) (by decide)) ?_
    rcases hx with ⟨rfl, hx⟩ | ⟨l, hl, rfl, hs, hu⟩
    · exact h0 fun l hl s _ => hx l hl s
    · exact h1 l hl hs hu
  | succ d ih =>
    intro i x hi hx
    refine br_f (nI_ge (b := 4) (by omega) (by decide)) (nm_r (e' := nI (a + i * b)) (by rw [pk_mul, nI_add]) (xs_isSolid g hS (hg i (by omega)) (fun s => br_f (by decide) ?_) (fun s => br_t rfl (nm_r (nI_1 i) (ih (i + 1) x (by omega) ?_)))))
    · rcases hx with ⟨rfl, hx⟩ | ⟨l, hl, rfl, hs, hu⟩
      · exact br_t rfl (nm_r (nI_1 i) (ih (i + 1) _ (by omega) (Or.inr ⟨i, by omega, rfl, s, fun j hj sj => by
          rcases Nat.lt_or_ge j i with z | z
          · exact (hx j z sj).elim
          · omega⟩)))
      · have q := hg l (by omega)
        refine br_f (cb_nm (by omega)) (h0 fun m hm sm um => ?_)
        have z1 := um l (by omega) hs
        have z2 := um i (by omega) s
        omega
    · rcases hx with ⟨rfl, hx⟩ | ⟨l, hl, rfl, hs, hu⟩
      · exact Or.inl ⟨rfl, fun l hl sl => by
          rcases Nat.lt_or_ge l i with z | z
          · exact hx l z sl
          · have : l = i := by omega
            subst this
            exact s sl⟩
      · exact Or.inr ⟨l, by omega, rfl, hs, fun j hj sj => by
          rcases Nat.lt_or_ge j i with z | z
          · exact hu j z sj
          · have : j = i := by omega
            subst this
            exact (s sj).elim⟩
theorem xs_o4 (g : cb_G K M T) (hS : ∀ c, c < M → (cs c < nI fl ↔ ¬ S c)) {a b : Nat} (hg : ∀ l, l < 4 → a + l * b < M)
    (h1 : ∀ l, l < 4 → S (a + l * b) → (∀ j, j < 4 → S (a + j * b) → j = l) → post (nI (a + l * b)))
    (h0 : (∀ l, l < 4 → S (a + l * b) → (∀ j, j < 4 → S (a + j * b) → j = l) → False) → post (-1)) :
    wpX_onlySolidOfFour post (nI K, nI (M - 1), nI T, nI fl, x5, x6, x7, x8, x9, cs) (nI a) (nI b) :=
  ⟨5, xs_o4L g hS hg h1 h0 4 0 (-1) rfl (Or.inl ⟨rfl, fun l hl => absurd hl (Nat.not_lt_zero _)⟩)⟩
theorem xs_onlyFollower (g : cb_G K M T) (hS : ∀ c, c < M → (cs c < nI fl ↔ ¬ S c)) {c : Nat} (hc : c < M)
    (h1 : ∀ d, lk_Un (lk_Fo M T S c) d → post (nI d)) (h0 : (∀ d, ¬ lk_Un (lk_Fo M T S c) d) → post (-1)) :
    wpX_onlyFollower post (nI K, nI (M - 1), nI T, nI fl, x5, x6, x7, x8, x9, cs) (nI c) := by
  have k := cb_K g
  have tp : c % T < T := Nat.mod_lt _ (by omega)
  have e : (nI c <<< ((2 : Int32) &&& 31)) &&& nI (M - 1) = nI (c % T * 4) := by
    rw [pk_shlN (n := c) ((2 : Int32) &&& 31) 2 (by decide) (by omega), cb_mask g (by omega)]
    rw [show c * 2 ^ 2 = c * 4 from rfl, k.2.2.2.2.1, Nat.mul_mod_mul_right]
  have fo : ∀ d, lk_Fo M T S c d → ∃ l, l < 4 ∧ d = c % T * 4 + l * 1 ∧ S d := fun d ⟨h1, h2, h3⟩ => ⟨d % 4, by omega, by omega, h2⟩
  have of : ∀ l, l < 4 → S (c % T * 4 + l * 1) → lk_Fo M T S c (c % T * 4 + l * 1) := fun l hl s => ⟨by omega, s, by omega⟩
  unfold wpX_onlyFollower
  dsimp only
  refine nm_r e (xs_o4 (b := 1) g hS (fun l hl => by omega) (fun l hl s u => h1 _ ⟨of l hl s, fun d hd => ?_⟩) (fun no => h0 fun d hd => ?_))
  · obtain ⟨j, hj, rfl, sj⟩ := fo d hd
    rw [u j hj sj]
  · obtain ⟨j, hj, rfl, sj⟩ := fo d hd.1
    refine no j hj sj fun i hi si => ?_
    have := hd.2 _ (of i hi si)
    omega
theorem xs_onlyLeader (g : cb_G K M T) (hS : ∀ c, c < M → (cs c < nI fl ↔ ¬ S c)) {c : Nat} (hc : c < M)
    (h1 : ∀ d, lk_Un (lk_Le M T S c) d → post (nI d)) (h0 : (∀ d, ¬ lk_Un (lk_Le M T S c) d) → post (-1)) :
    wpX_onlyLeader post (nI K, nI (M - 1), nI T, nI fl, x5, x6, x7, x8, x9, cs) (nI c) := by
  have k := cb_K g
  have e : nI c >>> ((2 : Int32) &&& 31) = nI (c / 4) := pk_shrN (by omega) _ 2 (by decide)
  have fo : ∀ d, lk_Le M T S c d → ∃ l, l < 4 ∧ d = c / 4 + l * T ∧ S d := fun d ⟨h1, h2, h3⟩ => by
    refine ⟨d / T, Nat.div_lt_of_lt_mul (by omega), ?_, h2⟩
    have := Nat.mod_add_div' d T
    omega
  have of : ∀ l, l < 4 → S (c / 4 + l * T) → lk_Le M T S c (c / 4 + l * T) := fun l hl s => by
    refine ⟨?_, s, ?_⟩
    · have : l * T ≤ 3 * T := Nat.mul_le_mul_right T (by omega)
      omega
    · rw [Nat.add_mul_mod_self_right, Nat.mod_eq_of_lt (by omega)]
  have bd : ∀ l, l < 4 → c / 4 + l * T < M := fun l hl => by
    have : l * T ≤ 3 * T := Nat.mul_le_mul_right T (by omega)
    omega
  unfold wpX_onlyLeader
  dsimp only
  refine nm_r e (xs_o4 g hS bd (fun l hl s u => h1 _ ⟨of l hl s, fun d hd => ?_⟩) (fun no => h0 fun d hd => ?_))
  · obtain ⟨j, hj, rfl, sj⟩ := fo d hd
    rw [u j hj sj]
  · obtain ⟨j, hj, rfl, sj⟩ := fo d hd.1
    refine no j hj sj fun i hi si => ?_
    have := hd.2 _ (of i hi si)
    have q : i * T = j * T := by omega
    exact Nat.eq_of_mul_eq_mul_right (by omega) q
theorem xs_same (g : cb_G K M T) {c d : Nat} (hc : c < M) (hd : d < M) (h1 : (c = d ∨ cb_mr K c = d) → post 1) (h0 : c ≠ d → cb_mr K c ≠ d → post 0) :
    wpX_areSameOrMirrors post (nI K, nI (M - 1), nI T, nI fl, x5, x6, x7, x8, x9, cs) (nI c) (nI d) := by
  have k := cb_K g
  have hm := cb_mr_lt g hc
  unfold wpX_areSameOrMirrors
  dsimp only
  refine pk_eq c d (fun e => h1 (Or.inl e)) (fun ne => xm_mirrorOf (by omega) (by omega) (pk_eq (cb_mr K c) d (fun e => h1 (Or.inr e)) (fun ne' => h0 ne ne') rfl rfl ?_ ?_)) rfl rfl ?_ ?_ <;> omega
theorem xs_linkedAfter (g : cb_G K M T) (hS : ∀ c, c < M → (cs c < nI fl ↔ ¬ S c)) {c : Nat} (hc : c < M)
    (h1 : ∀ d, lk_R K M T S c d → post (nI d)) (h0 : (∀ d, ¬ lk_R K M T S c d) → post (-1)) :
    wpX_linkedAfter post (nI K, nI (M - 1), nI T, nI fl, x5, x6, x7, x8, x9, cs) (nI c) := by
  have k := cb_K g
  unfold wpX_linkedAfter
  dsimp only
  refine xs_onlyFollower g hS hc (fun d hd => ?_) (fun no => br_t rfl (h0 fun d hd => no d hd.1))
  have dM : d < M := hd.1.1
  refine br_f (cb_nm (by omega)) (xs_onlyLeader g hS dM (fun e he => ?_) (fun no => ?_))
  · have eM : e < M := he.1.1
    refine pk_eq e c (fun ec => ?_) (fun ne => h0 fun d' hd' => ?_) rfl rfl ?_ ?_
    · subst ec
      exact xs_same g hc dM (fun q => br_f (by decide) (h0 fun d' hd' => by
        cases lk_UnU hd hd'.1
        rcases q with q | q
        · exact hd'.2.2.1 q
        · exact hd'.2.2.2 q)) (fun n1 n2 => br_t rfl (h1 d ⟨hd, he, n1, n2⟩))
    · cases lk_UnU hd hd'.1
      exact ne (lk_UnU he hd'.2.1)
    · omega
    · omega
  · refine br_f (fun q => cb_nm (n := c) (by omega) q.symm) (h0 fun d' hd' => ?_)
    cases lk_UnU hd hd'.1
    exact no c hd'.2.1
theorem xs_linkedBefore (g : cb_G K M T) (hS : ∀ c, c < M → (cs c < nI fl ↔ ¬ S c)) {c : Nat} (hc : c < M)
    (h1 : ∀ d, lk_R K M T S d c → post (nI d)) (h0 : (∀ d, ¬ lk_R K M T S d c) → post (-1)) :
    wpX_linkedBefore post (nI K, nI (M - 1), nI T, nI fl, x5, x6, x7, x8, x9, cs) (nI c) := by
  have k := cb_K g
  unfold wpX_linkedBefore
  dsimp only
  refine xs_onlyLeader g hS hc (fun d hd => ?_) (fun no => br_t rfl (h0 fun d hd => no d hd.2.1))
  have dM : d < M := hd.1.1
  refine br_f (cb_nm (by omega)) (xs_onlyFollower g hS dM (fun e he => ?_) (fun no => ?_))
  · have eM : e < M := he.1.1
    refine pk_eq e c (fun ec => ?_) (fun ne => h0 fun d' hd' => ?_) rfl rfl ?_ ?_
    · subst ec
      exact xs_same g hc dM (fun q => br_f (by decide) (h0 fun d' hd' => by
        cases lk_UnU hd hd'.2.1
        rcases q with q | q
        · exact hd'.2.2.1 q.symm
        · exact hd'.2.2.2 (by rw [← q]; exact cb_mr_mr g hc))) (fun n1 n2 => br_t rfl (h1 d ⟨he, hd, fun q => n1 q.symm, fun q => n2 (by rw [← q]; exact cb_mr_mr g dM)⟩))
    · cases lk_UnU hd hd'.2.1
      exact ne (lk_UnU he hd'.1)
    · omega
    · omega
  · refine br_f (fun q => cb_nm (n := c) (by omega) q.symm) (h0 fun d' hd' => ?_)
    cases lk_UnU hd hd'.2.1
    exact no c hd'.1
end

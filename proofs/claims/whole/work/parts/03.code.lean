/-- n letters of c, the last first, each mirrored, behind a -/
def cb_mi : Nat → Nat → Nat → Nat
  | 0, _, a => a
  | n + 1, c, a => cb_mi n (c / 4) (a * 4 + (3 - c % 4))
def cb_mr (n c : Nat) : Nat := cb_mi n c 0
/-- the two shapes: letters of a piece, number of pieces, number of tails -/
def cb_G (K M T : Nat) : Prop := (K = 3 ∧ M = 64 ∧ T = 16) ∨ (K = 5 ∧ M = 1024 ∧ T = 256)
theorem cb_t3 : ∀ c, c < 64 → cb_mr 3 c < 64 ∧ cb_mr 3 (cb_mr 3 c) = c ∧ cb_mr 3 c ≠ c := by decide +kernel
theorem cb_t5 : ∀ c, c < 1024 → cb_mr 5 c < 1024 ∧ cb_mr 5 (cb_mr 5 c) = c ∧ cb_mr 5 c ≠ c := by decide +kernel
theorem cb_mrT {K M T c : Nat} (g : cb_G K M T) (hc : c < M) : cb_mr K c < M ∧ cb_mr K (cb_mr K c) = c ∧ cb_mr K c ≠ c := by
  rcases g with ⟨rfl, rfl, rfl⟩ | ⟨rfl, rfl, rfl⟩
  · exact cb_t3 c hc
  · exact cb_t5 c hc
theorem cb_mr_lt {K M T c : Nat} (g : cb_G K M T) (hc : c < M) : cb_mr K c < M := (cb_mrT g hc).1
theorem cb_mr_mr {K M T c : Nat} (g : cb_G K M T) (hc : c < M) : cb_mr K (cb_mr K c) = c := (cb_mrT g hc).2.1
theorem cb_mr_ne {K M T c : Nat} (g : cb_G K M T) (hc : c < M) : cb_mr K c ≠ c := (cb_mrT g hc).2.2
theorem cb_K {K M T : Nat} (g : cb_G K M T) : 3 ≤ K ∧ K ≤ 5 ∧ M ≤ 1024 ∧ 64 ≤ M ∧ M = T * 4 ∧ 16 ≤ T ∧ 4 ^ K = M := by
  rcases g with ⟨rfl, rfl, rfl⟩ | ⟨rfl, rfl, rfl⟩ <;> decide
/-- the number that n letters of L, from p on, stand for -/
def cb_cd (L : Nat → Nat) (p : Nat) : Nat → Nat
  | 0 => 0
  | n + 1 => cb_cd L p n * 4 + L (p + n)
theorem cb_cd_lt {L : Nat → Nat} (h : ∀ i, L i < 4) {p : Nat} : ∀ n, cb_cd L p n < 4 ^ n := by
  intro n
  induction n with
  | zero => exact Nat.one_pos
  | succ n ih =>
    have a := h (p + n)
    have e : 4 ^ (n + 1) = 4 ^ n * 4 := Nat.pow_succ _ _
    show cb_cd L p n * 4 + L (p + n) < 4 ^ (n + 1)
    omega
theorem cb_cd_c {L L' : Nat → Nat} {p p' : Nat} : ∀ {n : Nat}, (∀ i, i < n → L (p + i) = L' (p' + i)) → cb_cd L p n = cb_cd L' p' n := by
  intro n
  induction n with
  | zero => intro _; rfl
  | succ n ih =>
    intro h
    show cb_cd L p n * 4 + L (p + n) = cb_cd L' p' n * 4 + L' (p' + n)
    rw [ih (fun i hi => h i (by omega)), h n (by omega)]
theorem cb_cd_hd {L : Nat → Nat} {p : Nat} : ∀ n, cb_cd L p (n + 1) = L p * 4 ^ n + cb_cd L (p + 1) n := by
  intro n
  induction n with
  | zero =>
    show cb_cd L p 0 * 4 + L (p + 0) = _
    simp [cb_cd]
  | succ n ih =>
    have e : 4 ^ (n + 1) = 4 ^ n * 4 := Nat.pow_succ _ _
    show cb_cd L p (n + 1) * 4 + L (p + (n + 1)) = L p * 4 ^ (n + 1) + (cb_cd L (p + 1) n * 4 + L (p + 1 + n))
    rw [ih, e, ← Nat.mul_assoc, show p + 1 + n = p + (n + 1) from by omega]
    generalize L p * 4 ^ n = z
    omega
theorem cb_cd_sh {L : Nat → Nat} (h : ∀ i, L i < 4) {p : Nat} (n : Nat) : cb_cd L (p + 1) n = (cb_cd L p n * 4 + L (p + n)) % 4 ^ n := by
  have a : cb_cd L p n * 4 + L (p + n) = L p * 4 ^ n + cb_cd L (p + 1) n := cb_cd_hd n
  rw [a, Nat.mul_comm, Nat.mul_add_mod, Nat.mod_eq_of_lt (cb_cd_lt h n)]
theorem cb_mi_cd {P : Nat → Nat} (h : ∀ i, P i < 4) : ∀ n a, cb_mi n (cb_cd P 0 n) a = a * 4 ^ n + cb_cd (fun i => 3 - P (n - 1 - i)) 0 n := by
  intro n
  induction n with
  | zero => intro a; show a = a * 1 + 0; omega
  | succ n ih =>
    intro a
    have hn := h (0 + n)
    have e1 : cb_cd P 0 (n + 1) / 4 = cb_cd P 0 n := by
      show (cb_cd P 0 n * 4 + P (0 + n)) / 4 = _
      omega
    have e2 : cb_cd P 0 (n + 1) % 4 = P n := by
      show (cb_cd P 0 n * 4 + P (0 + n)) % 4 = _
      rw [Nat.zero_add] at hn ⊢
      omega
    show cb_mi n (cb_cd P 0 (n + 1) / 4) (a * 4 + (3 - cb_cd P 0 (n + 1) % 4)) = _
    rw [e1, e2, ih, cb_cd_hd n]
    have e3 : cb_cd (fun i => 3 - P (n - 1 - i)) 0 n = cb_cd (fun i => 3 - P (n + 1 - 1 - i)) (0 + 1) n := cb_cd_c (fun i hi => by
      show 3 - P (n - 1 - (0 + i)) = 3 - P (n + 1 - 1 - (0 + 1 + i))
      congr 2
      omega)
    rw [e3]
    show (a * 4 + (3 - P n)) * 4 ^ n + _ = a * 4 ^ (n + 1) + ((3 - P n) * 4 ^ n + _)
    rw [Nat.add_mul, Nat.pow_succ, Nat.mul_assoc, Nat.mul_comm 4, Nat.add_assoc]
theorem cb_mr_cd {P : Nat → Nat} (h : ∀ i, P i < 4) (n : Nat) : cb_mr n (cb_cd P 0 n) = cb_cd (fun i => 3 - P (n - 1 - i)) 0 n := by
  unfold cb_mr
  rw [cb_mi_cd h, Nat.zero_mul, Nat.zero_add]
theorem cb_nm {n : Nat} (h : n < 2 ^ 31) : ¬ nI n = -1 := fun q => by
  have a := nI_toInt h
  rw [q, show (-1 : Int32).toInt = -1 from by decide] at a
  omega
theorem cb_or {a d : Nat} (ha : a < 2 ^ 20) (hd : d < 4) : (nI a <<< ((2 : Int32) &&& 31)) ||| nI d = nI (a * 4 + d) := by
  rw [pk_shlN (n := a) ((2 : Int32) &&& 31) 2 (by decide) (by omega)]
  apply Int32.toBitVec_inj.mp
  apply BitVec.eq_of_toNat_eq
  rw [Int32.toBitVec_or, BitVec.toNat_or, pk_tn (by omega), pk_tn (by omega), pk_tn (by omega)]
  have e := Nat.two_pow_add_eq_or_of_lt (i := 2) (b := d) (by omega) a
  rw [Nat.mul_comm a]
  exact e.symm
/-- the letter that an int stands for -/
def cb_l (v : Int32) : Nat := v.toBitVec.toNat % 4
theorem cb_l4 (v : Int32) : cb_l v < 4 := Nat.mod_lt _ (by decide)
theorem cb_and3 (v : Int32) : v &&& 3 = nI (cb_l v) := pk_and v 2 (by decide)
theorem cb_lN {n : Nat} (h : n < 2 ^ 31) : cb_l (nI n) = n % 4 := by
  unfold cb_l
  rw [pk_tn (by omega)]
theorem cb_mask {K M T : Nat} (g : cb_G K M T) {x : Nat} (hx : x < 2 ^ 31) : nI x &&& nI (M - 1) = nI (x % M) := by
  rcases g with ⟨rfl, rfl, rfl⟩ | ⟨rfl, rfl, rfl⟩
  · exact pk_andN (by omega) 6 (by decide)
  · exact pk_andN (by omega) 10 (by decide)
theorem cb_1023 {c : Nat} (h : c < 1024) : nI c &&& 1023 = nI c := by
  rw [pk_andN (by omega) 10 (by decide), Nat.mod_eq_of_lt h]

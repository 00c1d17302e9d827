section
variable {pl : Nat} {P : Nat → Nat} {post : SY → Prop} {y1 y2 y3 y4 y6 : Int32} {le be pi af ah : Nat → Int32}
theorem ys_t62 {P' : Nat → Nat} (hl : pl ≤ 5) (hP4 : ∀ i, P' i < 4) (hp : ∀ pb, (∀ j, pb j = nI (if j < pl then 3 - P' j else P' j)) → post (y1, y2, y3, y4, nI pl, y6, le, be, pb, pi, af, ah)) :
    ∀ d i pb, i + d = pl → (∀ j, pb j = nI (if j < i then 3 - P' j else P' j)) → wY_turn_62 post y1 y2 y3 y4 (nI pl) y6 (d + 1) (nI i) le be pb pi af ah := by
  intro d
  induction d with
  | zero =>
    intro i pb hi h
    cases show i = pl from by omega
    exact br_t (nI_le (by omega) (by omega)) (hp pb h)
  | succ d ih =>
    intro i pb hi h
    have p4 := hP4 i
    refine br_f (nI_ge (by omega) (by omega)) ⟨vp_in_nI (by omega) (by decide), vp_in_nI (by omega) (by decide), nm_e (nm_r (nI_1 i) ?_)⟩
    rw [nI_clamp (by omega)]
    refine ih (i + 1) _ (by omega) (fun j => ?_)
    by_cases z : j = i
    · subst z
      rw [pk_us, h, if_neg (by omega), if_pos (by omega)]
      exact pk_sub (a := 3) (by omega)
    · rw [pk_un z, h]
      by_cases w : j < i
      · rw [if_pos w, if_pos (by omega)]
      · rw [if_neg w, if_neg (by omega)]
theorem ys_t2 (hl : pl ≤ 5) (hp : ∀ pb, (∀ j, pb j = nI (if j < pl then P (pl - 1 - j) else P j)) → ∃ n, wY_turn_62 post y1 y2 y3 y4 (nI pl) y6 n 0 le be pb pi af ah) :
    ∀ d i pb, i + d = pl → 2 * i ≤ pl → (∀ j, pb j = nI (if j < pl ∧ (j < i ∨ pl ≤ j + i) then P (pl - 1 - j) else P j)) → wY_turn_2 post y1 y2 y3 y4 (nI pl) y6 (d + 1) (nI i) le be pb pi af ah := by
  intro d
  induction d with
  | zero =>
    intro i pb hi h2 h
    have i0 : i = 0 := by omega
    have p0 : pl = 0 := by omega
    subst i0 p0
    refine br_t (by decide) (hp pb fun j => ?_)
    rw [h, if_neg (by omega), if_neg (by omega)]
  | succ d ih =>
    intro i pb hi h2 h
    have e : nI pl - 1 - nI i = nI (pl - 1 - i) := by
      have a : nI pl - 1 = nI (pl - 1) := pk_sub (b := 1) (by omega)
      rw [a, pk_sub (by omega)]
    by_cases z : 2 * i + 1 < pl
    · refine br_f (by rw [e]; exact nI_ge (by omega) (by omega)) ?_
      rw [e]
      refine ⟨vp_in_nI (by omega) (by decide), nm_e ⟨vp_in_nI (by omega) (by decide), vp_in_nI (by omega) (by decide), nm_e ⟨vp_in_nI (by omega) (by decide), nm_e (nm_r (nI_1 i) ?_)⟩⟩⟩
      rw [nI_clamp (n := i) (by omega), nI_clamp (n := pl - 1 - i) (by omega)]
      refine ih (i + 1) _ (by omega) (by omega) (fun j => ?_)
      by_cases w : j = pl - 1 - i
      · subst w
        rw [pk_us, h, if_neg (by omega), if_pos (by omega)]
        congr 2
        omega
      · rw [pk_un w]
        by_cases y : j = i
        · subst y
          rw [pk_us, h, if_neg (by omega), if_pos (by omega)]
        · rw [pk_un y, h]
          by_cases q : j < pl ∧ (j < i ∨ pl ≤ j + i)
          · rw [if_pos q, if_pos (by omega)]
          · rw [if_neg q, if_neg (by omega)]
    · refine br_t (by rw [e]; exact nI_le (by omega) (by omega)) (hp pb fun j => ?_)
      rw [h]
      by_cases w : j < pl
      · rw [if_pos w]
        by_cases y : j < i ∨ pl ≤ j + i
        · rw [if_pos ⟨w, y⟩]
        · rw [if_neg (fun q => y q.2)]
          congr 2
          omega
      · rw [if_neg w, if_neg (fun q => w q.1)]
end
theorem i_vc_turn {k : Nat} {u : SX} {v : SY} (I : i_Rel k u v) (hk : k + 2 ≤ 1026) : wpX_turn (fun u' => wpY_turn (fun v' => i_Rel (k + 2) u' v') v) u := by
  obtain ⟨K, M, T, fl, t, rl, pl, L, P, B, cs, le, be, pb, pi, af, ah, op, np, rfl, rfl, g, hf, ht, hL, hL4, hB, hP, hP4, hpl, hT, hc⟩ := I
  have kk := cb_K g
  have pM := rl_pr g hP4 hpl
  unfold wpX_turn wpY_turn
  dsimp only
  refine xm_mirrorOf (by omega) (by omega) ⟨pl + 1, ys_t2 (P := P) (by omega) (fun pb1 h1 => ⟨pl + 1, ys_t62 (P' := fun j => if j < pl then P (pl - 1 - j) else P j) (by omega) (fun i => ?_) (fun pb2 h2 => ?_) pl 0 pb1 (by omega) (fun j => ?_)⟩) pl 0 pb (by omega) (by omega) (fun j => ?_)⟩
  · split
    · exact hP4 _
    · exact hP4 _
  · have e : cb_mr pl (cb_cd P 0 pl) = cb_cd (fun j => if j < pl then 3 - (if j < pl then P (pl - 1 - j) else P j) else (if j < pl then P (pl - 1 - j) else P j)) 0 pl := by
      rw [cb_mr_cd hP4]
      refine cb_cd_c fun i hi => ?_
      show 3 - P (pl - 1 - (0 + i)) = if 0 + i < pl then 3 - (if 0 + i < pl then P (pl - 1 - (0 + i)) else P (0 + i)) else (if 0 + i < pl then P (pl - 1 - (0 + i)) else P (0 + i))
      rw [if_pos (by omega), if_pos (by omega)]
    rw [e]
    refine rl_mk ⟨g, hf, ht, hL, hL4, hB, h2, fun i => ?_, hpl, hT, hc⟩
    dsimp only
    by_cases z : i < pl
    · rw [if_pos z]; omega
    · rw [if_neg z, if_neg z]; exact hP4 _
  · rw [if_neg (by omega), h1]
  · rw [if_neg (by omega), hP]

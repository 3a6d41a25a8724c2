/-! what the reference reads off its ways -/
section
variable {fc : Int32} {us xs ys wy : Nat → Int32} {post : Int32 → SY → Prop}
theorem gy_total {a : Nat → Int32} (h : post (Int32.ofInt (tr_s 24 (fun i => max (bk_v us a i).toInt 0))) (us, xs, ys, a)) : ∃ n, wY_treeTotal_8 post us xs ys a n 0 0 := by
  refine loop_0 (fun n i (x : Int32) => wY_treeTotal_8 post us xs ys a n x (nI i)) (fun i x => x = Int32.ofInt (tr_s i (fun i => max (bk_v us a i).toInt 0))) 24 0 rfl ?_ ?_
  · rintro n x rfl
    rw [wY_treeTotal_8]
    exact br_t ba_le24 h
  · rintro n i x hi rfl ih
    rw [wY_treeTotal_8]
    simp only [nI_1, forall_eq]
    refine br_f (ba_ge hi) (wy_back hi ⟨fun z => ih _ ?_, fun z => ih _ ?_⟩)
    · rw [Int32.le_iff_toInt_le, nz_0] at z
      rw [tr_s, show max (bk_v us a i).toInt 0 = 0 by omega, Int.add_zero]
    · rw [Int32.le_iff_toInt_le, nz_0] at z
      rw [tr_s, show max (bk_v us a i).toInt 0 = (bk_v us a i).toInt by omega, Int32.ofInt_add, Int32.ofInt_toInt]
theorem gy_73 {J23 : Int32 → Prop} {J44 : Int32 → Int32 → Int32 → Prop} {x1 x2 b x4 r : Int32} {l j : Nat} (h1 : r.toInt = b.toInt → J44 x4 (nI (l + 1)) (nI (j + 1))) (h0 : ¬ r.toInt = b.toInt → J44 x4 (nI l) (nI (j + 1))) :
    wY_treeEdge_73 post J23 J44 x1 x2 b x4 (nI l) (nI j) r us xs ys wy := by
  simp only [wY_treeEdge_73, nI_1, forall_eq]
  exact ⟨fun z => h1 (by rw [z]), fun z => h0 fun y => z (Int32.toInt_inj.mp y)⟩
theorem gy_in {J : Int32 → Prop} {i k : Nat} {b : Int32} (hk : k < 2 ^ 31)
    (hJ : ¬ (0 < b.toInt ∧ cn_t 24 (fun j => 0 < (bk_v us wy j).toInt ∧ (bk_v us wy j).toInt < b.toInt) ≤ k ∧ k < cn_t 24 (fun j => 0 < (bk_v us wy j).toInt ∧ (bk_v us wy j).toInt < b.toInt) + cn_t 24 (fun j => (bk_v us wy j).toInt = b.toInt)) → J (nI (i + 1)))
    (hp : (0 < b.toInt ∧ cn_t 24 (fun j => 0 < (bk_v us wy j).toInt ∧ (bk_v us wy j).toInt < b.toInt) ≤ k ∧ k < cn_t 24 (fun j => 0 < (bk_v us wy j).toInt ∧ (bk_v us wy j).toInt < b.toInt) + cn_t 24 (fun j => (bk_v us wy j).toInt = b.toInt)) → post b (us, xs, ys, wy)) :
    ∃ n, wY_treeEdge_44 post J (nI k) (nI i) b us xs ys wy n 0 0 0 := by
  refine loop_0 (fun n j (x : Nat × Nat) => wY_treeEdge_44 post J (nI k) (nI i) b us xs ys wy n (nI x.1) (nI x.2) (nI j))
    (fun j x => x.1 = cn_t j (fun j => 0 < (bk_v us wy j).toInt ∧ (bk_v us wy j).toInt < b.toInt) ∧ x.2 = cn_t j (fun j => (bk_v us wy j).toInt = b.toInt)) 24 (0, 0) ⟨rfl, rfl⟩ ?_ ?_
  · rintro n ⟨p, q⟩ ⟨e1, e2⟩
    dsimp only at e1 e2 ⊢
    have l1 := cn_le 24 (fun j => 0 < (bk_v us wy j).toInt ∧ (bk_v us wy j).toInt < b.toInt)
    have l2 := cn_le 24 (fun j => (bk_v us wy j).toInt = b.toInt)
    rw [wY_treeEdge_44]
    simp only [nI_1, forall_eq, nI_add]
    rw [nI_ltI hk (by omega), nI_leI (by omega) hk]
    have zb : b ≤ 0 ↔ b.toInt ≤ 0 := by rw [Int32.le_iff_toInt_le, nz_0]
    rw [zb]
    rw [← e1, ← e2] at hJ hp
    refine br_t ba_le24 ⟨fun z => hJ (by omega), fun z => ⟨fun y => hJ (by omega), fun y => ⟨fun x => hJ (by omega), fun x => hp (by omega)⟩⟩⟩
  · rintro n j ⟨p, q⟩ hj ⟨e1, e2⟩ ih
    dsimp only at e1 e2 ⊢
    rw [wY_treeEdge_44]
    simp only [nI_1, forall_eq]
    have K : ∀ p' : Nat, p' = cn_t (j + 1) (fun j => 0 < (bk_v us wy j).toInt ∧ (bk_v us wy j).toInt < b.toInt) →
        wY_treeEdge_73 post J (wY_treeEdge_44 post J (nI k) (nI i) b us xs ys wy n) (nI k) (nI i) b (nI p') (nI q) (nI j) (bk_v us wy j) us xs ys wy := by
      intro p' hp'
      refine gy_73 (fun z => ih (p', q + 1) ⟨hp', ?_⟩) (fun z => ih (p', q) ⟨hp', ?_⟩)
      · dsimp only; rw [cn_S, cn_bT (p := (bk_v us wy j).toInt = b.toInt) z, e2]
      · dsimp only; rw [cn_S, cn_bF (p := (bk_v us wy j).toInt = b.toInt) z, e2]; rfl
    refine br_f (ba_ge hj) (wy_back hj ⟨fun z => K p ?_, fun z => ⟨fun y => K p ?_, fun y => K (p + 1) ?_⟩⟩)
    · rw [Int32.le_iff_toInt_le, nz_0] at z
      rw [cn_S, cn_bF (p := 0 < (bk_v us wy j).toInt ∧ (bk_v us wy j).toInt < b.toInt) (by omega), e1]; rfl
    · rw [Int32.le_iff_toInt_le] at y
      rw [cn_S, cn_bF (p := 0 < (bk_v us wy j).toInt ∧ (bk_v us wy j).toInt < b.toInt) (by omega), e1]; rfl
    · rw [Int32.le_iff_toInt_le] at y
      rw [Int32.le_iff_toInt_le, nz_0] at z
      rw [cn_S, cn_bT (p := 0 < (bk_v us wy j).toInt ∧ (bk_v us wy j).toInt < b.toInt) (by omega), e1]
def te_C (us wy : Nat → Int32) (k : Nat) (b : Int) : Prop := 0 < b ∧ cn_t 24 (fun j => 0 < (bk_v us wy j).toInt ∧ (bk_v us wy j).toInt < b) ≤ k ∧ k < cn_t 24 (fun j => 0 < (bk_v us wy j).toInt ∧ (bk_v us wy j).toInt < b) + cn_t 24 (fun j => (bk_v us wy j).toInt = b)
theorem gy_edge {k : Nat} {v : Int32} (hk : k < 2 ^ 31) (h1 : ∀ b : Int, te_C us wy k b → b = v.toInt) (h2 : ∃ i, i < 24 ∧ te_C us wy k (bk_v us wy i).toInt) (h : post v (us, xs, ys, wy)) :
    ∃ n, wY_treeEdge_23 post (nI k) us xs ys wy n 0 := by
  refine ba_gl (fun n x => wY_treeEdge_23 post (nI k) us xs ys wy n x) (fun i => ¬ te_C us wy k (bk_v us wy i).toInt) (A := False) (B := post v (us, xs, ys, wy)) ?_ ?_ ?_ ?_ ?_
  · intro z; exact z.elim
  · intro n i hi hP hW
    rw [wY_treeEdge_23]
    refine br_f (ba_ge hi) (wy_back hi (gy_in hk (fun _ => hW) (fun z => absurd z hP)))
  · intro n i hi hP hB
    have hC : te_C us wy k (bk_v us wy i).toInt := Classical.byContradiction hP
    rw [wY_treeEdge_23]
    refine br_f (ba_ge hi) (wy_back hi (gy_in hk (fun z => absurd hC z) (fun _ => ?_)))
    rw [Int32.toInt_inj.mp (h1 _ hC)]; exact hB
  · intro z
    obtain ⟨i, hi, hC⟩ := h2
    exact z i hi hC
  · exact fun _ => h
theorem gy_grp {m : Int32} {a : Nat} (ha : a < 24) (ua : us a ≠ 0) (hd : ∀ x y, dm_U us x → dm_U us y → x ≠ y → 0 < dm_D xs ys x y) (hS : wa_S (dm_U us) (dm_D xs ys) (wa_w wy))
    (h : ∀ r, r < 24 → gm_Q (dm_U us) (dm_D xs ys) m.toInt a r → post (nI r) (us, xs, ys, wy)) : ∃ n, wY_groupOf_17 post (nI a) m us xs ys wy n 0 := by
  have Ua : dm_U us a := ⟨ha, ua⟩
  have W : ∀ y, y ≠ a → dm_U us y → (wa_w wy a y ≤ m.toInt ↔ tr_R (dm_U us) (dm_D xs ys) m.toInt a y) := by
    intro y ne uy
    rw [hS a y Ua uy]
    refine ⟨fun z => z.2, fun z => ⟨?_, z⟩⟩
    apply Classical.byContradiction
    intro n
    exact ne (tr_neg (fun x y ux uy ne => by have := hd x y ux uy ne; omega) z)
  refine loop_m (fun n (j : Nat) => wY_groupOf_17 post (nI a) m us xs ys wy n (nI j)) (fun j => j ≤ a ∧ ∀ y, y < j → dm_U us y → ¬ tr_R (dm_U us) (dm_D xs ys) m.toInt a y) (fun j => a - j) ?_ 0 ⟨by omega, fun y hy => by omega⟩
  rintro n j ⟨hj, hI⟩ ih
  have hj' : j < 24 := by omega
  rw [wY_groupOf_17]
  simp only [ba_in hj', ba_cl hj', wa_ix, wa_in ha hj', wa_cl ha hj', true_and, nI_1, forall_eq]
  rw [nI_leI (by omega) (by omega)]
  refine ⟨fun z => h a ha ⟨Ua, tr_refl a, fun y uy ry => ?_⟩, fun z => ⟨fun u => ih (j + 1) ⟨by omega, fun y hy uy => ?_⟩ (by omega), fun u => ⟨fun x => ih (j + 1) ⟨by omega, fun y hy uy => ?_⟩ (by omega), fun x => h j hj' ⟨⟨hj', u⟩, ?_, fun y uy ry => ?_⟩⟩⟩⟩
  · apply Classical.byContradiction
    intro w
    exact hI y (by omega) uy ry
  · by_cases w : y = j
    · rw [w] at uy; exact absurd u uy.2
    · exact hI y (by omega) uy
  · by_cases w : y = j
    · rw [w, ← W j (by omega) ⟨hj', u⟩]
      rw [Int32.lt_iff_toInt_lt] at x
      unfold wa_w; omega
    · exact hI y (by omega) uy
  · rw [← W j (by omega) ⟨hj', u⟩]
    rw [Int32.lt_iff_toInt_lt] at x
    unfold wa_w; omega
  · apply Classical.byContradiction
    intro w
    exact hI y (by omega) uy ry
theorem gy_d (hok : dm_ok fc us xs ys) : ∀ x y, dm_U us x → dm_U us y → x ≠ y → 0 < dm_D xs ys x y := by
  obtain ⟨h1, h2, h3, h4, h5⟩ := hok
  intro x y ux uy ne
  unfold dm_D
  rw [nz_d h3 h4]
  obtain ⟨g1, g2⟩ := nz_sq ((xs x).toInt - (xs y).toInt) ((ys x).toInt - (ys y).toInt)
  apply Classical.byContradiction
  intro z
  obtain ⟨g3, g4⟩ := g2 (by omega)
  exact ne (h5 x y ux.1 uy.1 ux.2 uy.2 (Int32.toInt_inj.mp (by omega)) (Int32.toInt_inj.mp (by omega)))
theorem gy_ds (x y : Nat) : dm_D xs ys x y = dm_D xs ys y x := by unfold dm_D; rw [nz_dsym]
theorem gy_groupOf {m : Int32} {a : Nat} (hok : dm_ok fc us xs ys) (ha : a < 24) (ua : us a ≠ 0)
    (h : ∀ r wy', r < 24 → gm_Q (dm_U us) (dm_D xs ys) m.toInt a r → post (nI r) (us, xs, ys, wy')) : wpY_groupOf post (us, xs, ys, wy) (nI a) m := by
  simp only [wpY_groupOf]
  exact ry_isT ha ua (br_f ba_10 (wy_ways hok fun b hS _ => gy_grp ha ua (gy_d hok) hS fun r hr hQ => h r b hr hQ))
theorem gy_groups {m : Int32} (hok : dm_ok fc us xs ys)
    (h : ∀ wy', post (nI (cn_t 24 (fun i => dm_U us i ∧ ∀ j, j < i → dm_U us j → ¬ tr_R (dm_U us) (dm_D xs ys) m.toInt j i))) (us, xs, ys, wy')) : wpY_groups post (us, xs, ys, wy) m := by
  simp only [wpY_groups]
  refine loop_0 (fun n i (q : Int32 × (Nat → Int32)) => wY_groups_4 post m n q.1 (nI i) us xs ys q.2) (fun i q => q.1 = nI (cn_t i (fun i => dm_U us i ∧ ∀ j, j < i → dm_U us j → ¬ tr_R (dm_U us) (dm_D xs ys) m.toInt j i))) 24 (0, wy) rfl ?_ ?_
  · rintro n ⟨x, a⟩ rfl
    rw [wY_groups_4]
    exact br_t ba_le24 (h a)
  · rintro n i ⟨x, a⟩ hi hx ih
    dsimp only at hx ⊢
    subst hx
    rw [wY_groups_4]
    refine br_f (ba_ge hi) ?_
    by_cases u : us i = 0
    · have nh : ¬ dm_has us (nI i) := by
        rintro ⟨b, hb, e, ub⟩
        rw [ba_eq hi hb] at e
        exact ub (e ▸ u)
      simp only [wpY_groupOf]
      refine ry_isF nh (br_t rfl (br_f (fun z => ba_n4 hi z.symm) (nm_r (nI_1 i) (ih (_, a) ?_))))
      dsimp only
      rw [cn_S, cn_bF (p := dm_U us i ∧ ∀ j, j < i → dm_U us j → ¬ tr_R (dm_U us) (dm_D xs ys) m.toInt j i) (fun z => z.1.2 u)]; rfl
    · refine gy_groupOf hok hi u fun r wy' hr hQ => ?_
      dsimp only
      rw [ba_eq hr hi]
      simp only [nI_1, forall_eq]
      refine ⟨fun z => ih (_, wy') ?_, fun z => ih (_, wy') ?_⟩
      · dsimp only
        rw [cn_S, cn_bT (p := dm_U us i ∧ ∀ j, j < i → dm_U us j → ¬ tr_R (dm_U us) (dm_D xs ys) m.toInt j i) ⟨⟨hi, u⟩, fun j hj uj rj => by
          have := hQ.2.2 j uj (tr_symm gy_ds rj)
          omega⟩]
        rfl
      · dsimp only
        rw [cn_S, cn_bF (p := dm_U us i ∧ ∀ j, j < i → dm_U us j → ¬ tr_R (dm_U us) (dm_D xs ys) m.toInt j i)]
        · rfl
        · rintro ⟨ui, k⟩
          have := hQ.2.2 i ui (tr_refl i)
          exact k r (by omega) hQ.1 (tr_symm gy_ds hQ.2.1)
end

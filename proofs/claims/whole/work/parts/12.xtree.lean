/-! what the component reads off its tree -/
section
variable {us xs ys wt gp od ed wy : Nat → Int32} {post : Int32 → SX → Prop} {postS : SX → Prop} {U : Nat → Prop} {d : Nat → Nat → Int} {s c : Nat} {o : Nat → Nat}
theorem hx_loop {j0 b : Nat} (hc : c ≤ 24) (hP : tr_P U d s c o (fun i => (ed i).toInt)) (hU : ∀ v, U v → v < 24) (hod : ∀ i, i < c → od i = nI (o i)) (hj : j0 < c) (hb : o j0 = b)
    (h : ∀ L : Int32, (∀ t, 0 < t → t ≤ j0 → (ed t).toInt ≤ L.toInt) → (L.toInt = 0 ∨ ∃ t, 0 < t ∧ t ≤ j0 ∧ L.toInt = (ed t).toInt) → 0 ≤ L.toInt → post L (nI c, us, xs, ys, wt, gp, od, ed)) :
    ∀ (q i : Nat) (L : Int32), i + q = j0 → (∀ t, 0 < t → t ≤ i → (ed t).toInt ≤ L.toInt) → (L.toInt = 0 ∨ ∃ t, 0 < t ∧ t ≤ i ∧ L.toInt = (ed t).toInt) → 0 ≤ L.toInt →
      wX_hop_29 post (nI b) (nI c) us xs ys wt gp od ed (q + 1) L (nI (i + 1)) := by
  have hb24 : b < 24 := by rw [← hb]; exact hU _ (hP.2.1 j0 hj)
  intro q
  induction q with
  | zero =>
    intro i L hi h1 h2 h3
    have e : i = j0 := by omega
    subst e
    have P := h L h1 h2 h3
    have hi' : i < 24 := by omega
    rw [wX_hop_29]
    simp only [nI_pred, ba_in hi', ba_cl hi', true_and]
    exact ⟨fun _ => P, fun _ => br_t (by rw [hod i hj, hb]) P⟩
  | succ q ih =>
    intro i L hi h1 h2 h3
    have hi' : i < 24 := by omega
    have hi1 : i + 1 < 24 := by omega
    rw [wX_hop_29]
    simp only [nI_pred, ba_in hi', ba_cl hi', ba_in hi1, ba_cl hi1, true_and, nI_1, forall_eq]
    refine br_f (nI_ge (by omega) (by omega)) (br_f ?_ ⟨fun z => ih (i + 1) L (by omega) (fun t a b => ?_) ?_ h3, fun z => ih (i + 1) _ (by omega) (fun t a b => ?_) (Or.inr ⟨i + 1, by omega, Nat.le_refl _, rfl⟩) ?_⟩)
    · rw [hod i (by omega), ba_eq (hU _ (hP.2.1 i (by omega))) hb24, ← hb]
      intro z
      have := hP.2.2.1 i j0 (by omega) hj z
      omega
    · rw [Int32.le_iff_toInt_le] at z
      by_cases x : t = i + 1
      · rw [x]; exact z
      · exact h1 t a (by omega)
    · rcases h2 with h2 | ⟨t, a, b, h2⟩
      · exact Or.inl h2
      · exact Or.inr ⟨t, a, by omega, h2⟩
    · rw [Int32.le_iff_toInt_le] at z
      by_cases x : t = i + 1
      · rw [x]; exact Int.le_refl _
      · have := h1 t a (by omega); omega
    · rw [Int32.le_iff_toInt_le] at z; omega
def gm_Q (U : Nat → Prop) (d : Nat → Nat → Int) (m : Int) (a r : Nat) : Prop := U r ∧ tr_R U d m a r ∧ ∀ y, U y → tr_R U d m a y → r ≤ y
theorem gm_uq {m : Int} {a r r' : Nat} (h : gm_Q U d m a r) (h' : gm_Q U d m a r') : r = r' := Nat.le_antisymm (h.2.2 r' h'.1 h'.2.1) (h'.2.2 r h.1 h.2.1)
theorem gx_grp {m : Int32} (hc : c ≤ 24) (hP : tr_P U d s c o (fun i => (ed i).toInt)) (hU : ∀ v, U v → v < 24) (hod : ∀ i, i < c → od i = nI (o i))
    (h : ∀ r, gm_Q U d m.toInt s r → post (nI r) (nI c, us, xs, ys, wt, gp, od, ed)) :
    ∀ (q k r : Nat), 0 < k → k + q = c → (∃ t, t < k ∧ r = o t) → (∀ t, t < k → r ≤ o t) → (∀ t, 0 < t → t < k → (ed t).toInt ≤ m.toInt) →
      wX_groupOf_21 post m (nI c) us xs ys wt gp od ed (q + 1) (nI r) (nI k) := by
  have fin : ∀ k r, 0 < k → k ≤ c → (∃ t, t < k ∧ r = o t) → (∀ t, t < k → r ≤ o t) → (∀ t, 0 < t → t < k → (ed t).toInt ≤ m.toInt) → (k = c ∨ m.toInt < (ed k).toInt) → post (nI r) (nI c, us, xs, ys, wt, gp, od, ed) := by
    rintro k r k0 kc ⟨t, ht, rt⟩ h2 h3 h4
    have ur : U r := by rw [rt]; exact hP.2.1 t (by omega)
    refine h r ⟨ur, (tr_grp hP k0 kc h3 h4 ur).mpr ⟨t, ht, rt.symm⟩, fun y uy ry => ?_⟩
    obtain ⟨i, hi, e⟩ := (tr_grp hP k0 kc h3 h4 uy).mp ry
    rw [← e]; exact h2 i hi
  intro q
  induction q with
  | zero =>
    intro k r k0 kc h1 h2 h3
    rw [wX_groupOf_21]
    exact br_t (nI_le (by omega) (by omega)) (fin k r k0 (by omega) h1 h2 h3 (Or.inl (by omega)))
  | succ q ih =>
    intro k r k0 kc h1 h2 h3
    have hk : k < 24 := by omega
    have uk := hP.2.1 k (by omega)
    have r24 : r < 24 := by
      obtain ⟨t, ht, rt⟩ := h1
      rw [rt]; exact hU _ (hP.2.1 t (by omega))
    rw [wX_groupOf_21]
    simp only [ba_in hk, ba_cl hk, true_and, nI_1, forall_eq]
    rw [hod k (by omega)]
    refine br_f (nI_ge (by omega) (by omega)) ⟨fun z => fin k r k0 (by omega) h1 h2 h3 (Or.inr (Int32.lt_iff_toInt_lt.mp z)), fun z => ?_⟩
    have z' : (ed k).toInt ≤ m.toInt := by rw [Int32.lt_iff_toInt_lt] at z; omega
    have h3' : ∀ t, 0 < t → t < k + 1 → (ed t).toInt ≤ m.toInt := fun t a b => by
      by_cases x : t = k
      · rw [x]; exact z'
      · exact h3 t a (by omega)
    rw [nI_leI (by omega) (by have := hU _ uk; omega)]
    refine ⟨fun y => ih (k + 1) r (by omega) (by omega) ?_ (fun t ht => ?_) h3', fun y => ih (k + 1) (o k) (by omega) (by omega) ⟨k, by omega, rfl⟩ (fun t ht => ?_) h3'⟩
    · obtain ⟨t, ht, rt⟩ := h1; exact ⟨t, by omega, rt⟩
    · by_cases x : t = k
      · rw [x]; exact y
      · exact h2 t (by omega)
    · by_cases x : t = k
      · rw [x]; exact Nat.le_refl _
      · have := h2 t (by omega); omega
theorem gx_groups {m : Int32} (hc : c ≤ 24) (h : post (nI (cn_t c (fun k => k = 0 ∨ m.toInt < (ed k).toInt))) (nI c, us, xs, ys, wt, gp, od, ed)) :
    ∀ (q k : Nat), 0 < k → k + q = c → wX_groups_17 post m (nI c) us xs ys wt gp od ed (q + 1) (nI (cn_t k (fun k => k = 0 ∨ m.toInt < (ed k).toInt))) (nI k) := by
  intro q
  induction q with
  | zero =>
    intro k k0 kc
    rw [wX_groups_17]
    cases (by omega : k = c)
    exact br_t (nI_le (by omega) (by omega)) h
  | succ q ih =>
    intro k k0 kc
    have hk : k < 24 := by omega
    have := ih (k + 1) (by omega) (by omega)
    rw [cn_S] at this
    rw [wX_groups_17]
    simp only [ba_in hk, ba_cl hk, true_and, nI_1, forall_eq]
    refine br_f (nI_ge (by omega) (by omega)) ⟨fun z => ?_, fun z => ?_⟩
    · rw [Int32.le_iff_toInt_le] at z
      rw [cn_bF (p := k = 0 ∨ m.toInt < (ed k).toInt) (by omega)] at this
      exact this
    · rw [Int32.le_iff_toInt_le] at z
      rw [cn_bT (p := k = 0 ∨ m.toInt < (ed k).toInt) (by omega)] at this
      exact this
theorem gx_total (hc : c ≤ 24) (h : post (Int32.ofInt (tr_s c (fun k => (ed k).toInt))) (nI c, us, xs, ys, wt, gp, od, ed)) :
    ∀ (q k : Nat), 0 < k → k + q = c → wX_treeTotal_8 post (nI c) us xs ys wt gp od ed (q + 1) (Int32.ofInt (tr_s k (fun k => (ed k).toInt))) (nI k) := by
  intro q
  induction q with
  | zero =>
    intro k k0 kc
    rw [wX_treeTotal_8]
    cases (by omega : k = c)
    exact br_t (nI_le (by omega) (by omega)) h
  | succ q ih =>
    intro k k0 kc
    have hk : k < 24 := by omega
    have := ih (k + 1) (by omega) (by omega)
    rw [tr_s, Int32.ofInt_add, Int32.ofInt_toInt] at this
    rw [wX_treeTotal_8]
    simp only [ba_in hk, ba_cl hk, true_and, nI_1, forall_eq]
    exact br_f (nI_ge (by omega) (by omega)) this
def so_I (c k p : Nat) (mv : Int32) (C : Int → Nat) (a : Nat → Int32) : Prop :=
  (∀ m : Int, cn_t c (fun i => m < (upd a p mv i).toInt) = C m) ∧ (∀ i j, i < j → j ≤ k → i ≠ p → j ≠ p → (a i).toInt ≤ (a j).toInt) ∧ (∀ j, p < j → j ≤ k → mv.toInt ≤ (a j).toInt)
theorem so_step {k p : Nat} {mv : Int32} {C : Int → Nat} {a : Nat → Int32} (hp : p + 1 ≤ k) (hk : k < c) (h : so_I c k (p + 1) mv C a) (hm : mv.toInt < (a p).toInt) : so_I c k p mv C (upd a (p + 1) (a p)) := by
  obtain ⟨h1, h2, h3⟩ := h
  refine ⟨fun m => ?_, fun i j hij hj hi hj' => ?_, fun j hj hjk => ?_⟩
  · rw [← h1 m]
    have a1 := cn_one (n := c) (k := p + 1) (P := fun i => m < (upd a (p + 1) mv i).toInt) (Q := fun i => m < (upd a (p + 1) (a p) i).toInt) (by omega) fun i _ ne => by rw [dm_un ne, dm_un ne]
    have a2 := cn_one (n := c) (k := p) (P := fun i => m < (upd (upd a (p + 1) (a p)) p mv i).toInt) (Q := fun i => m < (upd a (p + 1) (a p) i).toInt) (by omega) fun i _ ne => by rw [dm_un ne]
    rw [dm_us, dm_us] at a1
    rw [dm_us, dm_un (by omega : p ≠ p + 1)] at a2
    omega
  · by_cases x : i = p + 1
    · rw [x, dm_us, dm_un (by omega)]
      exact h2 p j (by omega) hj (by omega) (by omega)
    · by_cases y : j = p + 1
      · rw [y, dm_us, dm_un x]
        exact h2 i p (by omega) (by omega) x (by omega)
      · rw [dm_un x, dm_un y]
        exact h2 i j hij hj x y
  · by_cases x : j = p + 1
    · rw [x, dm_us]; omega
    · rw [dm_un x]; exact h3 j (by omega) hjk
theorem so_exit {k p : Nat} {mv : Int32} {C : Int → Nat} {a : Nat → Int32} (hp : p ≤ k) (h : so_I c k p mv C a) (hm : p = 0 ∨ ∃ q, p = q + 1 ∧ (a q).toInt ≤ mv.toInt) :
    (∀ m : Int, cn_t c (fun i => m < (upd a p mv i).toInt) = C m) ∧ (∀ i j, i < j → j ≤ k → (upd a p mv i).toInt ≤ (upd a p mv j).toInt) := by
  obtain ⟨h1, h2, h3⟩ := h
  refine ⟨h1, fun i j hij hj => ?_⟩
  by_cases x : i = p
  · rw [x, dm_us, dm_un (by omega)]; exact h3 j (by omega) hj
  · by_cases y : j = p
    · rw [y, dm_us, dm_un x]
      rcases hm with hm | ⟨q, e, hm⟩
      · omega
      · by_cases z : i = q
        · rw [z]; exact hm
        · have := h2 i q (by omega) (by omega) x (by omega); omega
    · rw [dm_un x, dm_un y]; exact h2 i j hij hj x y
theorem so_in {J : Int32 → (Nat → Int32) → (Nat → Int32) → (Nat → Int32) → (Nat → Int32) → (Nat → Int32) → (Nat → Int32) → (Nat → Int32) → Prop} {k : Nat} {mv fc : Int32} {C : Int → Nat} (hc : c ≤ 24) (hk : k < c)
    (h : ∀ a : Nat → Int32, (∀ m : Int, cn_t c (fun i => m < (a i).toInt) = C m) → (∀ i j, i < j → j ≤ k → (a i).toInt ≤ (a j).toInt) → J (nI (k + 1)) us xs ys wt gp od a) :
    ∀ (p : Nat) (a : Nat → Int32), p ≤ k → so_I c k p mv C a → wX_sortEdges_19 postS J (nI k) mv fc (p + 1) (nI p) us xs ys wt gp od a := by
  intro p
  induction p with
  | zero =>
    intro a hp hI
    rw [wX_sortEdges_19]
    have h0 : (0 : Nat) < 24 := by omega
    simp only [ba_in h0, ba_cl h0, true_and, nI_1, forall_eq]
    obtain ⟨e1, e2⟩ := so_exit hp hI (Or.inl rfl)
    exact br_t (by decide) (h _ e1 e2)
  | succ p ih =>
    intro a hp hI
    rw [wX_sortEdges_19]
    have hp1 : p + 1 < 24 := by omega
    have hp0 : p < 24 := by omega
    simp only [nI_pred, ba_in hp1, ba_cl hp1, ba_in hp0, ba_cl hp0, true_and, nI_1, forall_eq, dm_m1]
    refine br_f (nI_nle (by omega) (by omega)) ⟨fun z => ?_, fun z => ?_⟩
    · obtain ⟨e1, e2⟩ := so_exit hp hI (Or.inr ⟨p, rfl, Int32.le_iff_toInt_le.mp z⟩)
      exact h _ e1 e2
    · rw [Int32.le_iff_toInt_le] at z
      exact ih _ (by omega) (so_step hp hk hI (by omega))
theorem gx_sort (hc : c ≤ 24) (hc0 : 0 < c)
    (h : ∀ a : Nat → Int32, (∀ m : Int, cn_t c (fun i => m < (a i).toInt) = cn_t c (fun i => m < (ed i).toInt)) → (∀ i j, i ≤ j → j < c → (a i).toInt ≤ (a j).toInt) → postS (nI c, us, xs, ys, wt, gp, od, a)) :
    wpX_sortEdges postS (nI c, us, xs, ys, wt, gp, od, ed) := by
  simp only [wpX_sortEdges]
  have key : ∀ (q k : Nat) (a : Nat → Int32), 0 < k → k + q = c → (∀ m : Int, cn_t c (fun i => m < (a i).toInt) = cn_t c (fun i => m < (ed i).toInt)) → (∀ i j, i < j → j < k → (a i).toInt ≤ (a j).toInt) →
      wX_sortEdges_2 postS (nI c) (q + 1) (nI k) us xs ys wt gp od a := by
    intro q
    induction q with
    | zero =>
      intro k a k0 kc h1 h2
      rw [wX_sortEdges_2]
      refine br_t (nI_le (by omega) (by omega)) (h a h1 fun i j hij hj => ?_)
      by_cases x : i = j
      · rw [x]; exact Int.le_refl _
      · exact h2 i j (by omega) (by omega)
    | succ q ih =>
      intro k a k0 kc h1 h2
      have hk : k < 24 := by omega
      rw [wX_sortEdges_2]
      simp only [ba_in hk, ba_cl hk, true_and, forall_eq]
      refine br_f (nI_ge (by omega) (by omega)) ⟨k + 1, ?_⟩
      refine so_in hc (by omega) (C := fun m => cn_t c (fun i => m < (ed i).toInt)) (fun b e1 e2 => ih (k + 1) b (by omega) (by omega) e1 fun i j hij hj => e2 i j hij (by omega)) k a (Nat.le_refl k) ⟨fun m => ?_, fun i j hij hj hi hj' => h2 i j hij (by omega), fun j a b => by omega⟩
      dsimp only
      rw [← h1 m]
      refine cn_cong fun i _ => ?_
      by_cases x : i = k
      · rw [x, dm_us]
      · rw [dm_un x]
  obtain ⟨q, rfl⟩ : ∃ q, c = 1 + q := ⟨c - 1, by omega⟩
  exact ⟨q + 1, key q 1 ed (by omega) rfl (fun _ => rfl) (fun i j hij hj => by omega)⟩
end

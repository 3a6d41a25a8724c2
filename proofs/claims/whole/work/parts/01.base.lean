/-! small facts on indices below 24, the loops' general shape, and the pictures of the reading methods -/
theorem ba_le24 : (24 : Int32) ≤ nI 24 := by decide +kernel
theorem ba_ge {c : Nat} (h : c < 24) : ¬ (24 : Int32) ≤ nI c := nI_ge (b := 24) h (by decide)
theorem ba_in {c : Nat} (h : c < 24) : vp_in (nI c) 24 := vp_in_nI h (by decide)
theorem ba_cl {c : Nat} (h : c < 24) : (nI c).toNatClampNeg = c := nI_clamp (by omega)
theorem ba_nn {c : Nat} (h : c < 24) : ¬ nI c < 0 := nI_pos (by omega)
theorem ba_eq {a b : Nat} (ha : a < 24) (hb : b < 24) : (nI a = nI b) = (a = b) := propext (nI_eq (by omega) (by omega))
theorem ba_10 : ¬ (1 : Int32) = 0 := by decide
theorem ba_00 : (0 : Int32) = 0 := rfl
theorem ba_n4 {c : Nat} (h : c < 24) : ¬ nI c = -4 := fun e => ba_nn h (by rw [e]; decide)
theorem ba_ix (x : Int32) : x < 0 ∨ ((24 : Int32) ≤ x ∧ ¬ x < 0) ∨ ∃ j : Nat, j < 24 ∧ x = nI j := by
  by_cases h : x < 0
  · exact Or.inl h
  · obtain ⟨j, hj, rfl⟩ := nI_of h
    by_cases h2 : j < 24
    · exact Or.inr (Or.inr ⟨j, h2, rfl⟩)
    · exact Or.inr (Or.inl ⟨nI_le (a := 24) (by omega) hj, h⟩)
theorem ba_least (P : Nat → Prop) (h : ∃ k, P k) : ∃ k, P k ∧ ∀ j, j < k → ¬ P j := by
  obtain ⟨k, hk⟩ := h
  induction k using Nat.strongRecOn with
  | ind k ih =>
    by_cases e : ∃ j, j < k ∧ P j
    · obtain ⟨j, hj, pj⟩ := e
      exact ih j hj pj
    · exact ⟨k, hk, fun j hj pj => e ⟨j, hj, pj⟩⟩
/-- a loop over the 24 places that goes on while P holds; A stands for what is due at its end, B for what is due where P fails -/
theorem ba_gl (W : Nat → Int32 → Prop) (P : Nat → Prop) {A B : Prop}
    (hE : A → ∀ n, W (n + 1) (nI 24))
    (hC : ∀ n c, c < 24 → P c → W n (nI (c + 1)) → W (n + 1) (nI c))
    (hX : ∀ n c, c < 24 → ¬ P c → B → W (n + 1) (nI c))
    (hA : (∀ c, c < 24 → P c) → A) (hB : (¬ ∀ c, c < 24 → P c) → B) : ∃ n, W n 0 := by
  by_cases h : ∀ c, c < 24 → P c
  · have key : ∀ d c, c + d = 24 → W (d + 1) (nI c) := by
      intro d
      induction d with
      | zero => intro c hc; cases (by omega : c = 24); exact hE (hA h) 0
      | succ d ih => intro c hc; exact hC _ c (by omega) (h c (by omega)) (ih (c + 1) (by omega))
    exact ⟨25, key 24 0 rfl⟩
  · have hb := hB h
    obtain ⟨k, ⟨hk, pk⟩, hl⟩ := ba_least (fun c => c < 24 ∧ ¬ P c) (by
      apply Classical.byContradiction
      intro z
      exact h fun c hc => Classical.byContradiction fun y => z ⟨c, hc, y⟩)
    have key : ∀ d c, c + d = k → W (d + 1) (nI c) := by
      intro d
      induction d with
      | zero => intro c hc; cases (by omega : c = k); exact hX _ _ hk pk hb
      | succ d ih =>
        intro c hc
        refine hC _ c (by omega) ?_ (ih (c + 1) (by omega))
        exact Classical.byContradiction fun y => hl c (by omega) ⟨by omega, y⟩
    exact ⟨k + 1, key k 0 (by omega)⟩
def dm_t (xs ys : Nat → Int32) (a b c : Nat) : Int32 := (xs b - xs a) * (ys c - ys a) - (ys b - ys a) * (xs c - xs a)
def dm_d (xs ys : Nat → Int32) (a b : Nat) : Int32 := (xs a - xs b) * (xs a - xs b) + (ys a - ys b) * (ys a - ys b)
def dm_o (xs ys : Nat → Int32) (a b c : Nat) : Int32 := (xs a - xs c) * (xs b - xs c) + (ys a - ys c) * (ys b - ys c)
def dm_k (xs ys : Nat → Int32) (a b c d : Nat) : Int64 :=
  ((((xs a - xs d).toInt64 * (xs a - xs d).toInt64 + (ys a - ys d).toInt64 * (ys a - ys d).toInt64) * ((xs b - xs d).toInt64 * (ys c - ys d).toInt64 - (ys b - ys d).toInt64 * (xs c - xs d).toInt64)
    - ((xs b - xs d).toInt64 * (xs b - xs d).toInt64 + (ys b - ys d).toInt64 * (ys b - ys d).toInt64) * ((xs a - xs d).toInt64 * (ys c - ys d).toInt64 - (ys a - ys d).toInt64 * (xs c - xs d).toInt64))
    + ((xs c - xs d).toInt64 * (xs c - xs d).toInt64 + (ys c - ys d).toInt64 * (ys c - ys d).toInt64) * ((xs a - xs d).toInt64 * (ys b - ys d).toInt64 - (ys a - ys d).toInt64 * (xs b - xs d).toInt64)) * (dm_t xs ys a b c).toInt64
def dm_has (us : Nat → Int32) (p : Int32) : Prop := ∃ a, a < 24 ∧ p = nI a ∧ us a ≠ 0
theorem dm_hasF {us : Nat → Int32} {c : Nat} (hc : c < 24) (h : ¬ dm_has us (nI c)) : us c = 0 := Classical.byContradiction fun z => h ⟨c, hc, rfl, z⟩
section
variable {fc : Int32} {us xs ys wt gp od ed wy : Nat → Int32} {post : Int32 → Prop} {postL : Int64 → Prop}
theorem rx_turn {a b c : Nat} (ha : a < 24) (hb : b < 24) (hc : c < 24) (h : post (dm_t xs ys a b c)) : wpX_turn post (fc, us, xs, ys, wt, gp, od, ed) (nI a) (nI b) (nI c) := by
  simp only [wpX_turn, ba_in ha, ba_in hb, ba_in hc, ba_cl ha, ba_cl hb, ba_cl hc, true_and]; exact h
theorem ry_turn {a b c : Nat} (ha : a < 24) (hb : b < 24) (hc : c < 24) (h : post (dm_t xs ys a b c)) : wpY_turn post (us, xs, ys, wy) (nI a) (nI b) (nI c) := by
  simp only [wpY_turn, ba_in ha, ba_in hb, ba_in hc, ba_cl ha, ba_cl hb, ba_cl hc, true_and]; exact h
theorem rx_dist {a b : Nat} (ha : a < 24) (hb : b < 24) (h : post (dm_d xs ys a b)) : wpX_distance post (fc, us, xs, ys, wt, gp, od, ed) (nI a) (nI b) := by
  simp only [wpX_distance, ba_in ha, ba_in hb, ba_cl ha, ba_cl hb, true_and, forall_eq]; exact h
theorem ry_dist {a b : Nat} (ha : a < 24) (hb : b < 24) (h : post (dm_d xs ys a b)) : wpY_square post (us, xs, ys, wy) (nI a) (nI b) := by
  simp only [wpY_square, ba_in ha, ba_in hb, ba_cl ha, ba_cl hb, true_and, forall_eq]; exact h
theorem rx_hasT {a : Nat} (ha : a < 24) (hu : us a ≠ 0) (h : post 1) : wpX_has post (fc, us, xs, ys, wt, gp, od, ed) (nI a) := by
  simp only [wpX_has]
  refine br_f (ba_nn ha) (br_f (ba_ge ha) ⟨ba_in ha, br_f ?_ h⟩)
  rw [ba_cl ha]; exact hu
theorem rx_hasF {p : Int32} (hu : ¬ dm_has us p) (h : post 0) : wpX_has post (fc, us, xs, ys, wt, gp, od, ed) p := by
  simp only [wpX_has]
  rcases ba_ix p with h1 | ⟨h1, h2⟩ | ⟨j, hj, rfl⟩
  · exact br_t h1 h
  · exact br_f h2 (br_t h1 h)
  · refine br_f (ba_nn hj) (br_f (ba_ge hj) ⟨ba_in hj, br_t ?_ h⟩)
    rw [ba_cl hj]; exact dm_hasF hj hu
theorem ry_isT {a : Nat} (ha : a < 24) (hu : us a ≠ 0) (h : post 1) : wpY_is post (us, xs, ys, wy) (nI a) := by
  simp only [wpY_is]
  refine br_f (ba_nn ha) (br_f (ba_ge ha) ⟨ba_in ha, br_f ?_ h⟩)
  rw [ba_cl ha]; exact hu
theorem ry_isF {p : Int32} (hu : ¬ dm_has us p) (h : post 0) : wpY_is post (us, xs, ys, wy) p := by
  simp only [wpY_is]
  rcases ba_ix p with h1 | ⟨h1, h2⟩ | ⟨j, hj, rfl⟩
  · exact br_t h1 h
  · exact br_f h2 (br_t h1 h)
  · refine br_f (ba_nn hj) (br_f (ba_ge hj) ⟨ba_in hj, br_t ?_ h⟩)
    rw [ba_cl hj]; exact dm_hasF hj hu
theorem rx_other {d a b : Nat} (hd : d < 24) (ha : a < 24) (hb : b < 24) (h1 : us d ≠ 0 ∧ d ≠ a ∧ d ≠ b → post 1) (h0 : ¬ (us d ≠ 0 ∧ d ≠ a ∧ d ≠ b) → post 0) :
    wpX_isOther post (fc, us, xs, ys, wt, gp, od, ed) (nI d) (nI a) (nI b) := by
  simp only [wpX_isOther, ba_in hd, ba_cl hd, true_and, ba_eq hd ha, ba_eq hd hb]
  refine ⟨fun z => h0 fun y => y.1 z, fun z => ⟨fun y => h0 fun x => x.2.1 y, fun y => ⟨fun x => h0 fun w => w.2.2 x, fun x => h1 ⟨z, y, x⟩⟩⟩⟩
theorem rx_betw {a b c : Nat} (ha : a < 24) (hb : b < 24) (hc : c < 24) (h1 : ¬ 0 ≤ dm_o xs ys a b c ∧ dm_t xs ys a b c = 0 → post 1) (h0 : ¬ (¬ 0 ≤ dm_o xs ys a b c ∧ dm_t xs ys a b c = 0) → post 0) :
    wpX_between post (fc, us, xs, ys, wt, gp, od, ed) (nI a) (nI b) (nI c) := by
  simp only [wpX_between, ba_in ha, ba_in hb, ba_in hc, ba_cl ha, ba_cl hb, ba_cl hc, true_and, forall_eq]
  refine ⟨fun z => h0 fun y => y.1 z, fun z => rx_turn ha hb hc ⟨fun y => h1 ⟨z, y⟩, fun y => h0 fun x => y x.2⟩⟩
theorem ry_betw {a b c : Nat} (ha : a < 24) (hb : b < 24) (hc : c < 24) (h1 : ¬ 0 < dm_o xs ys a b c → post 1) (h0 : 0 < dm_o xs ys a b c → post 0) :
    wpY_between post (us, xs, ys, wy) (nI a) (nI b) (nI c) := by
  simp only [wpY_between, ba_in ha, ba_in hb, ba_in hc, ba_cl ha, ba_cl hb, ba_cl hc, true_and, forall_eq]
  exact ⟨h0, h1⟩
theorem rx_out {a b c d : Nat} (ha : a < 24) (hb : b < 24) (hc : c < 24) (hd : d < 24) (h1 : ¬ 0 ≤ dm_k xs ys a b c d → post 1) (h0 : 0 ≤ dm_k xs ys a b c d → post 0) :
    wpX_outsideCircle post (fc, us, xs, ys, wt, gp, od, ed) (nI a) (nI b) (nI c) (nI d) := by
  simp only [wpX_outsideCircle, ba_in ha, ba_in hb, ba_in hc, ba_in hd, ba_cl ha, ba_cl hb, ba_cl hc, ba_cl hd, true_and, forall_eq]
  exact rx_turn ha hb hc ⟨h0, h1⟩
theorem ry_circ {a b c d : Nat} (ha : a < 24) (hb : b < 24) (hc : c < 24) (hd : d < 24) (h : postL (dm_k xs ys a b c d)) :
    wpY_circle postL (us, xs, ys, wy) (nI a) (nI b) (nI c) (nI d) := by
  simp only [wpY_circle, ba_in ha, ba_in hb, ba_in hc, ba_in hd, ba_cl ha, ba_cl hb, ba_cl hc, ba_cl hd, true_and, forall_eq]
  exact ry_turn ha hb hc h
end

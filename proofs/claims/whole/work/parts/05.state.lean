/-! counting, the relation, and the methods that change the state -/
noncomputable def cn_b (p : Prop) : Nat := @ite Nat p (Classical.propDecidable p) 1 0
theorem cn_bT {p : Prop} (h : p) : cn_b p = 1 := by unfold cn_b; exact if_pos h
theorem cn_bF {p : Prop} (h : ¬ p) : cn_b p = 0 := by unfold cn_b; exact if_neg h
theorem cn_bI {p q : Prop} (h : p ↔ q) : cn_b p = cn_b q := by rw [propext h]
theorem cn_b1 (p : Prop) : cn_b p ≤ 1 := by
  by_cases h : p
  · rw [cn_bT h]; omega
  · rw [cn_bF h]; omega
noncomputable def cn_t : Nat → (Nat → Prop) → Nat
  | 0, _ => 0
  | n + 1, P => cn_t n P + cn_b (P n)
theorem cn_S (n : Nat) (P : Nat → Prop) : cn_t (n + 1) P = cn_t n P + cn_b (P n) := rfl
theorem cn_0 (P : Nat → Prop) : cn_t 0 P = 0 := rfl
theorem cn_le (n : Nat) (P : Nat → Prop) : cn_t n P ≤ n := by
  induction n with
  | zero => exact Nat.le_refl 0
  | succ n ih => rw [cn_S]; have := cn_b1 (P n); omega
theorem cn_cong {n : Nat} {P Q : Nat → Prop} (h : ∀ i, i < n → (P i ↔ Q i)) : cn_t n P = cn_t n Q := by
  induction n with
  | zero => rfl
  | succ n ih => rw [cn_S, cn_S, ih fun i hi => h i (by omega), cn_bI (h n (by omega))]
theorem cn_mono {n : Nat} {P Q : Nat → Prop} (h : ∀ i, i < n → P i → Q i) : cn_t n P ≤ cn_t n Q := by
  induction n with
  | zero => exact Nat.le_refl 0
  | succ n ih =>
    rw [cn_S, cn_S]
    have := ih fun i hi => h i (by omega)
    by_cases hp : P n
    · rw [cn_bT hp, cn_bT (h n (by omega) hp)]; omega
    · rw [cn_bF hp]; omega
theorem cn_zero {n : Nat} {P : Nat → Prop} (h : cn_t n P = 0) : ∀ i, i < n → ¬ P i := by
  induction n with
  | zero => intro i hi; omega
  | succ n ih =>
    intro i hi hp
    rw [cn_S] at h
    rcases Nat.lt_succ_iff_lt_or_eq.mp hi with hl | rfl
    · exact ih (by omega) i hl hp
    · rw [cn_bT hp] at h; omega
theorem cn_pos {n : Nat} {P : Nat → Prop} (h : 0 < cn_t n P) : ∃ i, i < n ∧ P i := by
  apply Classical.byContradiction
  intro z
  have : ∀ n', n' ≤ n → cn_t n' P = 0 := by
    intro n'
    induction n' with
    | zero => intro _; rfl
    | succ k ih => intro hk; rw [cn_S, ih (by omega), cn_bF fun hp => z ⟨k, by omega, hp⟩]
  have := this n (Nat.le_refl n); omega
theorem cn_none {n : Nat} {P : Nat → Prop} (h : ∀ i, i < n → ¬ P i) : cn_t n P = 0 := by
  apply Classical.byContradiction
  intro z
  obtain ⟨i, hi, hp⟩ := cn_pos (P := P) (n := n) (by omega)
  exact h i hi hp
/-- one place changed -/
theorem cn_one {n k : Nat} {P Q : Nat → Prop} (hk : k < n) (h : ∀ i, i < n → i ≠ k → (P i ↔ Q i)) : cn_t n P + cn_b (Q k) = cn_t n Q + cn_b (P k) := by
  induction n with
  | zero => omega
  | succ n ih =>
    rw [cn_S, cn_S]
    by_cases e : n = k
    · subst e
      rw [cn_cong (P := P) (Q := Q) fun i hi => h i (by omega) (by omega)]; omega
    · rw [cn_bI (h n (by omega) e)]
      have := ih (by omega) fun i hi => h i (by omega)
      omega
def dm_u (us : Nat → Int32) : Nat → Prop := fun j => us j ≠ 0
def dm_ok (fc : Int32) (us xs ys : Nat → Int32) : Prop :=
  fc = nI (cn_t 24 (dm_u us)) ∧ (∀ j, us j = 0 ∨ us j = 1) ∧ (∀ j, 0 ≤ (xs j).toInt ∧ (xs j).toInt ≤ 127) ∧ (∀ j, 0 ≤ (ys j).toInt ∧ (ys j).toInt ≤ 127) ∧
  (∀ i j, i < 24 → j < 24 → us i ≠ 0 → us j ≠ 0 → xs i = xs j → ys i = ys j → i = j)
def i_Rel (_ : Nat) (u : SX) (v : SY) : Prop := ∃ (fc : Int32) (us xs ys wt gp od ed wy : Nat → Int32), u = (fc, us, xs, ys, wt, gp, od, ed) ∧ v = (us, xs, ys, wy) ∧ dm_ok fc us xs ys
theorem i_up {k : Nat} {u : SX} {v : SY} (h : i_Rel k u v) : i_Rel (k + 4) u v := h
theorem dm_rel {k : Nat} {fc : Int32} {us xs ys wt gp od ed wy : Nat → Int32} (h : dm_ok fc us xs ys) : i_Rel k (fc, us, xs, ys, wt, gp, od, ed) (us, xs, ys, wy) := ⟨fc, us, xs, ys, wt, gp, od, ed, wy, rfl, rfl, h⟩
theorem dm_us (f : Nat → Int32) (k : Nat) (x : Int32) : upd f k x k = x := if_pos rfl
theorem dm_un {f : Nat → Int32} {k j : Nat} {x : Int32} (h : j ≠ k) : upd f k x j = f j := if_neg h
theorem dm_m1 (n : Nat) : nI (n + 1) + (-1) = nI n := by
  rw [← nI_1, Int32.add_assoc, show (1 : Int32) + (-1) = 0 from rfl, Int32.add_zero]
theorem i_vc0 : wpX_init (fun u => wpY_init (fun v => i_Rel 0 u v)) := by
  have z0 : 0 ≤ (0 : Int32).toInt ∧ (0 : Int32).toInt ≤ 127 := by decide
  have zc : cn_t 24 (dm_u fun _ => 0) = 0 := cn_none fun i _ z => z rfl
  exact dm_rel (k := 0) (fc := 0) (us := fun _ => 0) (xs := fun _ => 0) (ys := fun _ => 0) ⟨by rw [zc]; rfl, fun j => Or.inl rfl, fun j => z0, fun j => z0, fun i j _ _ h => absurd rfl h⟩
theorem dm_n1 : vp_nar .boolean 1 = 1 := by decide
theorem dm_n0 : vp_nar .boolean 0 = 0 := by decide
section
variable {fc : Int32} {us xs ys wt gp od ed wy : Nat → Int32} {post : Int32 → Prop}
theorem st_size (h : post (nI (cn_t 24 (dm_u us)))) : wpY_size post (us, xs, ys, wy) := by
  simp only [wpY_size]
  refine loop_0 (fun n i (s : Int32) => wY_size_4 post us xs ys wy n s (nI i)) (fun i s => s = nI (cn_t i (dm_u us))) 24 0 rfl ?_ ?_
  · rintro n s rfl; exact br_t ba_le24 h
  · rintro n c s hc rfl ih
    rw [wY_size_4]
    simp only [ba_in hc, ba_cl hc, true_and, nI_1, forall_eq]
    refine br_f (ba_ge hc) ⟨fun u => ih _ ?_, fun u => ih _ ?_⟩
    · rw [cn_S, cn_bF (p := dm_u us c) fun z => z u, Nat.add_zero]
    · rw [cn_S, cn_bT (p := dm_u us c) u]
def st_dup (us xs ys : Nat → Int32) (x y : Int32) (c : Nat) : Prop := us c ≠ 0 ∧ xs c = x ∧ ys c = y
theorem st_holds {x y : Int32} (h1 : (∃ c, c < 24 ∧ st_dup us xs ys x y c) → post 1) (h0 : (¬ ∃ c, c < 24 ∧ st_dup us xs ys x y c) → post 0) :
    wpX_holds post (fc, us, xs, ys, wt, gp, od, ed) x y := by
  simp only [wpX_holds]
  refine ba_gl (fun n z => wX_holds_2 post x y fc us xs ys wt gp od ed n z) (fun c => ¬ st_dup us xs ys x y c) (A := post 0) (B := post 1) ?_ ?_ ?_ (fun h => h0 (sc_nex h)) (fun h => h1 (sc_ex h))
  · intro h n; exact br_t ba_le24 h
  · intro n c hc hP hW
    rw [wX_holds_2]
    simp only [ba_in hc, ba_cl hc, true_and, nI_1, forall_eq]
    exact br_f (ba_ge hc) ⟨fun _ => hW, fun u1 => ⟨fun u2 => ⟨fun u3 => absurd ⟨u1, u2, u3⟩ hP, fun _ => hW⟩, fun _ => hW⟩⟩
  · intro n c hc hP hB
    obtain ⟨u1, u2, u3⟩ : st_dup us xs ys x y c := Classical.byContradiction hP
    rw [wX_holds_2]
    simp only [ba_in hc, ba_cl hc, true_and, nI_1, forall_eq]
    exact br_f (ba_ge hc) (br_f u1 (br_t u2 (br_t u3 hB)))
end
section
variable {fc : Int32} {us xs ys wt gp od ed wy : Nat → Int32} {post : Int32 → SX → Prop} {postY : Int32 → SY → Prop}
/-- the first free place -/
theorem st_addX {x y : Int32} (hN : (∀ c, c < 24 → us c ≠ 0) → post (-3) (fc, us, xs, ys, wt, gp, od, ed))
    (hF : ∀ f, f < 24 → us f = 0 → (∀ c, c < f → us c ≠ 0) → post (nI f) (fc + 1, upd us f 1, upd xs f x, upd ys f y, wt, gp, od, ed)) :
    ∃ n, wX_add_32 post x y fc us xs ys wt gp od ed n 0 := by
  have step : ∀ n c, c < 24 → us c ≠ 0 → wX_add_32 post x y fc us xs ys wt gp od ed n (nI (c + 1)) → wX_add_32 post x y fc us xs ys wt gp od ed (n + 1) (nI c) := by
    intro n c hc hu hW
    rw [wX_add_32]
    simp only [ba_in hc, ba_cl hc, true_and, nI_1, forall_eq]
    exact br_f (ba_ge hc) (br_f hu hW)
  by_cases h : ∀ c, c < 24 → us c ≠ 0
  · have key : ∀ d c, c + d = 24 → wX_add_32 post x y fc us xs ys wt gp od ed (d + 1) (nI c) := by
      intro d
      induction d with
      | zero => intro c hc; cases (by omega : c = 24); exact br_t ba_le24 (hN h)
      | succ d ih => intro c hc; exact step _ c (by omega) (h c (by omega)) (ih (c + 1) (by omega))
    exact ⟨25, key 24 0 rfl⟩
  · obtain ⟨f, ⟨hf, u⟩, hl⟩ := ba_least (fun c => c < 24 ∧ us c = 0) (by
      apply Classical.byContradiction
      intro z
      exact h fun c hc hu => z ⟨c, hc, hu⟩)
    have key : ∀ d c, c + d = f → wX_add_32 post x y fc us xs ys wt gp od ed (d + 1) (nI c) := by
      intro d
      induction d with
      | zero =>
        intro c hc
        rw [(by omega : c = f), wX_add_32]
        simp only [ba_in hf, ba_cl hf, true_and, nI_1, forall_eq, dm_n1]
        exact br_f (ba_ge hf) (br_t u (hF f hf u fun c hc z => hl c hc ⟨by omega, z⟩))
      | succ d ih => intro c hc; exact step _ c (by omega) (fun z => hl c (by omega) ⟨by omega, z⟩) (ih (c + 1) (by omega))
    exact ⟨f + 1, key f 0 (by omega)⟩
theorem st_57 {J : Int32 → Int32 → Prop} {x1 x2 x3 : Int32} {c : Nat} (hc : c < 24) (h0 : us c = 0 → J (nI c) (nI c + (-1))) (h1 : us c ≠ 0 → J x3 (nI c + (-1))) : wY_add_57 postY J x1 x2 x3 (nI c) us xs ys wy := by
  simp only [wY_add_57, ba_in hc, ba_cl hc, true_and, forall_eq]
  exact ⟨h0, h1⟩
theorem st_m1 : nI 0 + (-1) < 0 := by decide
theorem st_addY {x y : Int32} (hd : ¬ ∃ c, c < 24 ∧ st_dup us xs ys x y c) (hN : (∀ c, c < 24 → us c ≠ 0) → postY (-3) (us, xs, ys, wy))
    (hF : ∀ f, f < 24 → us f = 0 → (∀ c, c < f → us c ≠ 0) → postY (nI f) (upd us f 1, upd xs f x, upd ys f y, wy)) :
    ∀ k, k ≤ 24 → ∀ fr : Int32, ((fr = -1 ∧ ∀ j, k ≤ j → j < 24 → us j ≠ 0) ∨ (∃ f, k ≤ f ∧ f < 24 ∧ fr = nI f ∧ us f = 0 ∧ ∀ j, k ≤ j → j < f → us j ≠ 0)) →
      wY_add_17 postY x y us xs ys wy (k + 1) fr (nI k + (-1)) := by
  intro k
  induction k with
  | zero =>
    intro _ fr hfr
    rw [wY_add_17]
    refine br_t st_m1 ?_
    rcases hfr with ⟨rfl, h⟩ | ⟨f, _, hf, rfl, u, h⟩
    · exact br_f (by decide) (hN fun c hc => h c (by omega) hc)
    · simp only [ba_in hf, ba_cl hf, true_and, nI_1, forall_eq, dm_n1]
      exact br_t (nI_pos' (by omega)) (hF f hf u fun c hc => h c (by omega) hc)
  | succ k ih =>
    intro hk fr hfr
    have hk' : k < 24 := by omega
    rw [dm_m1, wY_add_17]
    have G : wY_add_57 postY (wY_add_17 postY x y us xs ys wy (k + 1)) x y fr (nI k) us xs ys wy := by
      refine st_57 hk' (fun u => ih (by omega) _ (Or.inr ⟨k, by omega, hk', rfl, u, fun j h1 h2 => by omega⟩)) (fun u => ih (by omega) _ ?_)
      rcases hfr with ⟨e, h⟩ | ⟨f, h1, hf, e, v, h⟩
      · refine Or.inl ⟨e, fun j h1 h2 => ?_⟩
        by_cases hj : j = k
        · exact hj ▸ u
        · exact h j (by omega) h2
      · refine Or.inr ⟨f, by omega, hf, e, v, fun j h1 h2 => ?_⟩
        by_cases hj : j = k
        · exact hj ▸ u
        · exact h j (by omega) h2
    simp only [ba_in hk', ba_cl hk', true_and]
    exact br_f (ba_nn hk') ⟨fun _ => G, fun u1 => ⟨fun u2 => ⟨fun u3 => absurd ⟨k, hk', u1, u2, u3⟩ hd, fun _ => G⟩, fun _ => G⟩⟩
theorem st_addYd {x y : Int32} (hd : ∃ c, c < 24 ∧ st_dup us xs ys x y c) (hD : postY (-2) (us, xs, ys, wy)) (fr : Int32) : ∃ n, wY_add_17 postY x y us xs ys wy n fr 23 := by
  have key : ∀ k, k ≤ 24 → (∃ c, c < k ∧ st_dup us xs ys x y c) → ∀ fr : Int32, wY_add_17 postY x y us xs ys wy (k + 1) fr (nI k + (-1)) := by
    intro k
    induction k with
    | zero => rintro _ ⟨c, hc, _⟩; omega
    | succ k ih =>
      rintro hk ⟨c, hc, u1, u2, u3⟩ fr
      have hk' : k < 24 := by omega
      rw [dm_m1, wY_add_17]
      simp only [ba_in hk', ba_cl hk', true_and]
      by_cases e : c = k
      · subst e
        exact br_f (ba_nn hk') (br_f u1 (br_t u2 (br_t u3 hD)))
      · have G : wY_add_57 postY (wY_add_17 postY x y us xs ys wy (k + 1)) x y fr (nI k) us xs ys wy :=
          st_57 hk' (fun _ => ih (by omega) ⟨c, by omega, u1, u2, u3⟩ _) (fun _ => ih (by omega) ⟨c, by omega, u1, u2, u3⟩ _)
        exact br_f (ba_nn hk') ⟨fun _ => G, fun _ => ⟨fun _ => ⟨fun _ => hD, fun _ => G⟩, fun _ => G⟩⟩
  have := key 24 (by omega) hd fr
  rw [show nI 24 + (-1) = 23 from by decide] at this
  exact ⟨25, this⟩
end

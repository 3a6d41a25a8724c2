section
/-! small facts on indices below 24, the loops' general shape, and the pictures of the reading methods -/
theorem ba_le24 : (24 : Int32) ≤ nI 24 := by decide +kernel
theorem ba_ge {c : Nat} (h : c < 24) : ¬ (24 : Int32) ≤ nI c := nI_ge (b := 24) h (by decide)
theorem ba_in {c : Nat} (h : c < 24) : vp_in (nI c) 24 := vp_in_nI h (by decide)
theorem ba_cl {c : Nat} (h : c < 24) : (nI c).toNatClampNeg = c := nI_clamp (by omega)
theorem ba_nn {c : Nat} (h : c < 24) : ¬ nI c < 0 := nI_pos (by omega)
theorem ba_eq {a b : Nat} (ha : a < 24) (hb : b < 24) : (nI a = nI b) = (a = b) := propext (nI_eq (by omega) (by omega))
theorem ba_10 : ¬ (1 : Int32) = 0 := by decide
theorem ba_00 : (0 : Int32) = 0 := rfl
theorem ba_n4 {c : Nat} (h : c < 24) : ¬ nI c = -4 := fun e => ba_nn h (by rw [e]; decide)
theorem ba_ix (x : Int32) : x < 0 ∨ ((24 : Int32) ≤ x ∧ ¬ x < 0) ∨ ∃ j : Nat, j < 24 ∧ x = nI j := by
  by_cases h : x < 0
  · exact Or.inl h
  · obtain ⟨j, hj, rfl⟩ := nI_of h
    by_cases h2 : j < 24
    · exact Or.inr (Or.inr ⟨j, h2, rfl⟩)
    · exact Or.inr (Or.inl ⟨nI_le (a := 24) (by omega) hj, h⟩)
theorem ba_least (P : Nat → Prop) (h : ∃ k, P k) : ∃ k, P k ∧ ∀ j, j < k → ¬ P j := by
  obtain ⟨k, hk⟩ := h
  induction k using Nat.strongRecOn with
  | ind k ih =>
    by_cases e : ∃ j, j < k ∧ P j
    · obtain ⟨j, hj, pj⟩ := e
      exact ih j hj pj
    · exact ⟨k, hk, fun j hj pj => e ⟨j, hj, pj⟩⟩
/-- a loop over the 24 places that goes on while P holds; A stands for what is due at its end, B for what is due where P fails -/
theorem ba_gl (W : Nat → Int32 → Prop) (P : Nat → Prop) {A B : Prop}
    (hE : A → ∀ n, W (n + 1) (nI 24))
    (hC : ∀ n c, c < 24 → P c → W n (nI (c + 1)) → W (n + 1) (nI c))
    (hX : ∀ n c, c < 24 → ¬ P c → B → W (n + 1) (nI c))
    (hA : (∀ c, c < 24 → P c) → A) (hB : (¬ ∀ c, c < 24 → P c) → B) : ∃ n, W n 0 := by
  by_cases h : ∀ c, c < 24 → P c
  · have key : ∀ d c, c + d = 24 → W (d + 1) (nI c) := by
      intro d
      induction d with
      | zero => intro c hc; cases (by omega : c = 24); exact hE (hA h) 0
      | succ d ih => intro c hc; exact hC _ c (by omega) (h c (by omega)) (ih (c + 1) (by omega))
    exact ⟨25, key 24 0 rfl⟩
  · have hb := hB h
    obtain ⟨k, ⟨hk, pk⟩, hl⟩ := ba_least (fun c => c < 24 ∧ ¬ P c) (by
      apply Classical.byContradiction
      intro z
      exact h fun c hc => Classical.byContradiction fun y => z ⟨c, hc, y⟩)
    have key : ∀ d c, c + d = k → W (d + 1) (nI c) := by
      intro d
      induction d with
      | zero => intro c hc; cases (by omega : c = k); exact hX _ _ hk pk hb
      | succ d ih =>
        intro c hc
        refine hC _ c (by omega) ?_ (ih (c + 1) (by omega))
        exact Classical.byContradiction fun y => hl c (by omega) ⟨by omega, y⟩
    exact ⟨k + 1, key k 0 (by omega)⟩
def dm_t (xs ys : Nat → Int32) (a b c : Nat) : Int32 := (xs b - xs a) * (ys c - ys a) - (ys b - ys a) * (xs c - xs a)
def dm_d (xs ys : Nat → Int32) (a b : Nat) : Int32 := (xs a - xs b) * (xs a - xs b) + (ys a - ys b) * (ys a - ys b)
def dm_o (xs ys : Nat → Int32) (a b c : Nat) : Int32 := (xs a - xs c) * (xs b - xs c) + (ys a - ys c) * (ys b - ys c)
def dm_k (xs ys : Nat → Int32) (a b c d : Nat) : Int64 :=
  ((((xs a - xs d).toInt64 * (xs a - xs d).toInt64 + (ys a - ys d).toInt64 * (ys a - ys d).toInt64) * ((xs b - xs d).toInt64 * (ys c - ys d).toInt64 - (ys b - ys d).toInt64 * (xs c - xs d).toInt64)
    - ((xs b - xs d).toInt64 * (xs b - xs d).toInt64 + (ys b - ys d).toInt64 * (ys b - ys d).toInt64) * ((xs a - xs d).toInt64 * (ys c - ys d).toInt64 - (ys a - ys d).toInt64 * (xs c - xs d).toInt64))
    + ((xs c - xs d).toInt64 * (xs c - xs d).toInt64 + (ys c - ys d).toInt64 * (ys c - ys d).toInt64) * ((xs a - xs d).toInt64 * (ys b - ys d).toInt64 - (ys a - ys d).toInt64 * (xs b - xs d).toInt64)) * (dm_t xs ys a b c).toInt64
def dm_has (us : Nat → Int32) (p : Int32) : Prop := ∃ a, a < 24 ∧ p = nI a ∧ us a ≠ 0
theorem dm_hasF {us : Nat → Int32} {c : Nat} (hc : c < 24) (h : ¬ dm_has us (nI c)) : us c = 0 := Classical.byContradiction fun z => h ⟨c, hc, rfl, z⟩
section
variable {fc : Int32} {us xs ys wt gp od ed wy : Nat → Int32} {post : Int32 → Prop} {postL : Int64 → Prop}
theorem rx_turn {a b c : Nat} (ha : a < 24) (hb : b < 24) (hc : c < 24) (h : post (dm_t xs ys a b c)) : wpX_turn post (fc, us, xs, ys, wt, gp, od, ed) (nI a) (nI b) (nI c) := by
  simp only [wpX_turn, ba_in ha, ba_in hb, ba_in hc, ba_cl ha, ba_cl hb, ba_cl hc, true_and]; exact h
theorem ry_turn {a b c : Nat} (ha : a < 24) (hb : b < 24) (hc : c < 24) (h : post (dm_t xs ys a b c)) : wpY_turn post (us, xs, ys, wy) (nI a) (nI b) (nI c) := by
  simp only [wpY_turn, ba_in ha, ba_in hb, ba_in hc, ba_cl ha, ba_cl hb, ba_cl hc, true_and]; exact h
theorem rx_dist {a b : Nat} (ha : a < 24) (hb : b < 24) (h : post (dm_d xs ys a b)) : wpX_distance post (fc, us, xs, ys, wt, gp, od, ed) (nI a) (nI b) := by
  simp only [wpX_distance, ba_in ha, ba_in hb, ba_cl ha, ba_cl hb, true_and, forall_eq]; exact h
theorem ry_dist {a b : Nat} (ha : a < 24) (hb : b < 24) (h : post (dm_d xs ys a b)) : wpY_square post (us, xs, ys, wy) (nI a) (nI b) := by
  simp only [wpY_square, ba_in ha, ba_in hb, ba_cl ha, ba_cl hb, true_and, forall_eq]; exact h
theorem rx_hasT {a : Nat} (ha : a < 24) (hu : us a ≠ 0) (h : post 1) : wpX_has post (fc, us, xs, ys, wt, gp, od, ed) (nI a) := by
  simp only [wpX_has]
  refine br_f (ba_nn ha) (br_f (ba_ge ha) ⟨ba_in ha, br_f ?_ h⟩)
  rw [ba_cl ha]; exact hu
theorem rx_hasF {p : Int32} (hu : ¬ dm_has us p) (h : post 0) : wpX_has post (fc, us, xs, ys, wt, gp, od, ed) p := by
  simp only [wpX_has]
  rcases ba_ix p with h1 | ⟨h1, h2⟩ | ⟨j, hj, rfl⟩
  · exact br_t h1 h
  · exact br_f h2 (br_t h1 h)
  · refine br_f (ba_nn hj) (br_f (ba_ge hj) ⟨ba_in hj, br_t ?_ h⟩)
    rw [ba_cl hj]; exact dm_hasF hj hu
theorem ry_isT {a : Nat} (ha : a < 24) (hu : us a ≠ 0) (h : post 1) : wpY_is post (us, xs, ys, wy) (nI a) := by
  simp only [wpY_is]
  refine br_f (ba_nn ha) (br_f (ba_ge ha) ⟨ba_in ha, br_f ?_ h⟩)
  rw [ba_cl ha]; exact hu
theorem ry_isF {p : Int32} (hu : ¬ dm_has us p) (h : post 0) : wpY_is post (us, xs, ys, wy) p := by
  simp only [wpY_is]
  rcases ba_ix p with h1 | ⟨h1, h2⟩ | ⟨j, hj, rfl⟩
  · exact br_t h1 h
  · exact br_f h2 (br_t h1 h)
  · refine br_f (ba_nn hj) (br_f (ba_ge hj) ⟨ba_in hj, br_t ?_ h⟩)
    rw [ba_cl hj]; exact dm_hasF hj hu
theorem rx_other {d a b : Nat} (hd : d < 24) (ha : a < 24) (hb : b < 24) (h1 : us d ≠ 0 ∧ d ≠ a ∧ d ≠ b → post 1) (h0 : ¬ (us d ≠ 0 ∧ d ≠ a ∧ d ≠ b) → post 0) :
    wpX_isOther post (fc, us, xs, ys, wt, gp, od, ed) (nI d) (nI a) (nI b) := by
  simp only [wpX_isOther, ba_in hd, ba_cl hd, true_and, ba_eq hd ha, ba_eq hd hb]
  refine ⟨fun z => h0 fun y => y.1 z, fun z => ⟨fun y => h0 fun x => x.2.1 y, fun y => ⟨fun x => h0 fun w => w.2.2 x, fun x => h1 ⟨z, y, x⟩⟩⟩⟩
theorem rx_betw {a b c : Nat} (ha : a < 24) (hb : b < 24) (hc : c < 24) (h1 : ¬ 0 ≤ dm_o xs ys a b c ∧ dm_t xs ys a b c = 0 → post 1) (h0 : ¬ (¬ 0 ≤ dm_o xs ys a b c ∧ dm_t xs ys a b c = 0) → post 0) :
    wpX_between post (fc, us, xs, ys, wt, gp, od, ed) (nI a) (nI b) (nI c) := by
  simp only [wpX_between, ba_in ha, ba_in hb, ba_in hc, ba_cl ha, ba_cl hb, ba_cl hc, true_and, forall_eq]
  refine ⟨fun z => h0 fun y => y.1 z, fun z => rx_turn ha hb hc ⟨fun y => h1 ⟨z, y⟩, fun y => h0 fun x => y x.2⟩⟩
theorem ry_betw {a b c : Nat} (ha : a < 24) (hb : b < 24) (hc : c < 24) (h1 : ¬ 0 < dm_o xs ys a b c → post 1) (h0 : 0 < dm_o xs ys a b c → post 0) :
    wpY_between post (us, xs, ys, wy) (nI a) (nI b) (nI c) := by
  simp only [wpY_between, ba_in ha, ba_in hb, ba_in hc, ba_cl ha, ba_cl hb, ba_cl hc, true_and, forall_eq]
  exact ⟨h0, h1⟩
theorem rx_out {a b c d : Nat} (ha : a < 24) (hb : b < 24) (hc : c < 24) (hd : d < 24) (h1 : ¬ 0 ≤ dm_k xs ys a b c d → post 1) (h0 : 0 ≤ dm_k xs ys a b c d → post 0) :
    wpX_outsideCircle post (fc, us, xs, ys, wt, gp, od, ed) (nI a) (nI b) (nI c) (nI d) := by
  simp only [wpX_outsideCircle, ba_in ha, ba_in hb, ba_in hc, ba_in hd, ba_cl ha, ba_cl hb, ba_cl hc, ba_cl hd, true_and, forall_eq]
  exact rx_turn ha hb hc ⟨h0, h1⟩
theorem ry_circ {a b c d : Nat} (ha : a < 24) (hb : b < 24) (hc : c < 24) (hd : d < 24) (h : postL (dm_k xs ys a b c d)) :
    wpY_circle postL (us, xs, ys, wy) (nI a) (nI b) (nI c) (nI d) := by
  simp only [wpY_circle, ba_in ha, ba_in hb, ba_in hc, ba_in hd, ba_cl ha, ba_cl hb, ba_cl hc, ba_cl hd, true_and, forall_eq]
  exact ry_turn ha hb hc h
end
end
section
/-! the scans that answer true or false, on both sides, each against a plain condition -/
section
variable {fc : Int32} {us xs ys wt gp od ed wy : Nat → Int32} {post : Int32 → Prop}
def sc_opp (t u : Int32) : Prop := (¬ t ≤ 0 ∧ u < 0) ∨ (¬ 0 ≤ t ∧ ¬ u ≤ 0)
def sc_farX (us xs ys : Nat → Int32) (a b c d : Nat) : Prop := us d ≠ 0 ∧ sc_opp (dm_t xs ys a b c) (dm_t xs ys a b d) ∧ 0 ≤ dm_k xs ys a b c d
theorem sx_54 {J : Int32 → Prop} {a b c d : Nat} {x4 z : Int32} (ha : a < 24) (hb : b < 24) (hc : c < 24) (hd : d < 24)
    (h1 : us d ≠ 0 → ¬ z = 0 → 0 ≤ dm_k xs ys a b c d → post 1) (h0 : (us d ≠ 0 → ¬ z = 0 → ¬ 0 ≤ dm_k xs ys a b c d) → J (nI (d + 1))) :
    wX_meetsFarSide_54 post J (nI a) (nI b) (nI c) x4 (nI d) z fc us xs ys wt gp od ed := by
  simp only [wX_meetsFarSide_54, ba_in hd, ba_cl hd, true_and, forall_eq, nI_1]
  refine ⟨fun y => h0 fun x => absurd y x, fun y => ⟨fun x => h0 fun _ w => absurd x w, fun x => ?_⟩⟩
  exact rx_out ha hb hc hd (fun w => br_f ba_10 (h0 fun _ _ => w)) (fun w => br_t rfl (h1 y x w))
theorem sx_far {a b c : Nat} (ha : a < 24) (hb : b < 24) (hc : c < 24) (h1 : (∃ d, d < 24 ∧ sc_farX us xs ys a b c d) → post 1) (h0 : (¬ ∃ d, d < 24 ∧ sc_farX us xs ys a b c d) → post 0) :
    wpX_meetsFarSide post (fc, us, xs, ys, wt, gp, od, ed) (nI a) (nI b) (nI c) := by
  simp only [wpX_meetsFarSide]
  refine rx_turn ha hb hc ?_
  refine ba_gl (fun n x => wX_meetsFarSide_12 post (nI a) (nI b) (nI c) (dm_t xs ys a b c) fc us xs ys wt gp od ed n x) (fun d => ¬ sc_farX us xs ys a b c d) (A := post 0) (B := post 1) ?_ ?_ ?_ ?_ ?_
  · intro h n; exact br_t ba_le24 h
  · intro n d hd hP hW
    rw [wX_meetsFarSide_12]
    refine br_f (ba_ge hd) (rx_turn ha hb hd ⟨fun h => ?_, fun h => ⟨fun g => ?_, fun g => ?_⟩⟩)
    · refine ⟨fun y => sx_54 ha hb hc hd (fun _ w => absurd rfl w) (fun _ => hW), fun y => ⟨fun x => sx_54 ha hb hc hd (fun _ w => absurd rfl w) (fun _ => hW), fun x => sx_54 ha hb hc hd (fun v _ w => absurd ⟨v, Or.inr ⟨y, x⟩, w⟩ hP) (fun _ => hW)⟩⟩
    · exact sx_54 ha hb hc hd (fun v _ w => absurd ⟨v, Or.inl ⟨h, g⟩, w⟩ hP) (fun _ => hW)
    · refine ⟨fun y => sx_54 ha hb hc hd (fun _ w => absurd rfl w) (fun _ => hW), fun y => ⟨fun x => sx_54 ha hb hc hd (fun _ w => absurd rfl w) (fun _ => hW), fun x => sx_54 ha hb hc hd (fun v _ w => absurd ⟨v, Or.inr ⟨y, x⟩, w⟩ hP) (fun _ => hW)⟩⟩
  · intro n d hd hP hB
    have hP' : sc_farX us xs ys a b c d := Classical.byContradiction hP
    obtain ⟨hu, ho, hk⟩ := hP'
    rw [wX_meetsFarSide_12]
    have E : ∀ z : Int32, ¬ z = 0 → wX_meetsFarSide_54 post (wX_meetsFarSide_12 post (nI a) (nI b) (nI c) (dm_t xs ys a b c) fc us xs ys wt gp od ed n) (nI a) (nI b) (nI c) (dm_t xs ys a b c) (nI d) z fc us xs ys wt gp od ed :=
      fun z hz => sx_54 ha hb hc hd (fun _ _ _ => hB) (fun w => absurd hk (w hu hz))
    refine br_f (ba_ge hd) (rx_turn ha hb hd ?_)
    rcases ho with ⟨h1, h2⟩ | ⟨h1, h2⟩
    · exact br_f h1 (br_t h2 (E 1 ba_10))
    · have h3 : dm_t xs ys a b c ≤ 0 := by
        simp only [Int32.le_iff_toInt_le] at h1 ⊢; omega
      exact br_t h3 (br_f h1 (br_f h2 (E 1 ba_10)))
  · exact fun h => h0 fun ⟨d, hd, hf⟩ => h d hd hf
  · exact fun h => h1 (Classical.byContradiction fun z => h fun d hd hf => z ⟨d, hd, hf⟩)
def sc_linkX (us xs ys : Nat → Int32) (a b c : Nat) : Prop := us c ≠ 0 ∧ c ≠ a ∧ c ≠ b ∧ ((¬ 0 ≤ dm_o xs ys a b c ∧ dm_t xs ys a b c = 0) ∨ ∃ d, d < 24 ∧ sc_farX us xs ys a b c d)
theorem sx_link {a b : Nat} (ha : a < 24) (hb : b < 24) (h1 : (¬ ∃ c, c < 24 ∧ sc_linkX us xs ys a b c) → post 1) (h0 : (∃ c, c < 24 ∧ sc_linkX us xs ys a b c) → post 0) :
    ∃ n, wX_linked_25 post (nI a) (nI b) fc us xs ys wt gp od ed n 0 := by
  refine ba_gl (fun n x => wX_linked_25 post (nI a) (nI b) fc us xs ys wt gp od ed n x) (fun c => ¬ sc_linkX us xs ys a b c) (A := post 1) (B := post 0) ?_ ?_ ?_ ?_ ?_
  · intro h n; exact br_t ba_le24 h
  · intro n c hc hP hW
    rw [wX_linked_25]
    refine br_f (ba_ge hc) (rx_other hc ha hb (fun g => br_f ba_10 ?_) (fun g => br_t rfl (nm_r (nI_1 c) hW)))
    refine rx_betw ha hb hc (fun f => absurd ⟨g.1, g.2.1, g.2.2, Or.inl f⟩ hP) (fun f => br_t rfl ?_)
    exact sx_far ha hb hc (fun e => absurd ⟨g.1, g.2.1, g.2.2, Or.inr e⟩ hP) (fun e => br_t rfl (nm_r (nI_1 c) hW))
  · intro n c hc hP hB
    obtain ⟨g1, g2, g3, g4⟩ : sc_linkX us xs ys a b c := Classical.byContradiction hP
    rw [wX_linked_25]
    refine br_f (ba_ge hc) (rx_other hc ha hb (fun g => br_f ba_10 ?_) (fun g => absurd ⟨g1, g2, g3⟩ g))
    refine rx_betw ha hb hc (fun f => br_f ba_10 hB) (fun f => br_t rfl ?_)
    exact sx_far ha hb hc (fun e => br_f ba_10 hB) (fun e => absurd g4 fun y => y.elim f e)
  · exact fun h => h1 fun ⟨d, hd, hf⟩ => h d hd hf
  · exact fun h => h0 (Classical.byContradiction fun z => h fun d hd hf => z ⟨d, hd, hf⟩)
def sc_farY (us xs ys : Nat → Int32) (a b c d : Nat) : Prop := us d ≠ 0 ∧ d ≠ a ∧ d ≠ b ∧ d ≠ c ∧ sc_opp (dm_t xs ys a b c) (dm_t xs ys a b d) ∧ ¬ dm_k xs ys a b c d < 0
theorem sy_82 {J : Int32 → Prop} {a b c d : Nat} {x4 z : Int32} (ha : a < 24) (hb : b < 24) (hc : c < 24) (hd : d < 24)
    (h1 : ¬ z = 0 → ¬ dm_k xs ys a b c d < 0 → post 1) (h0 : (¬ z = 0 → dm_k xs ys a b c d < 0) → J (nI (d + 1))) :
    wY_crossed_82 post J (nI a) (nI b) (nI c) x4 (nI d) z us xs ys wy := by
  simp only [wY_crossed_82, forall_eq, nI_1]
  refine ⟨fun x => h0 fun w => absurd x w, fun x => ?_⟩
  exact ry_circ ha hb hc hd ⟨fun w => h0 fun _ => w, fun w => h1 x w⟩
theorem sy_far {a b c : Nat} (ha : a < 24) (hb : b < 24) (hc : c < 24) (h1 : (∃ d, d < 24 ∧ sc_farY us xs ys a b c d) → post 1) (h0 : (¬ ∃ d, d < 24 ∧ sc_farY us xs ys a b c d) → post 0) :
    wpY_crossed post (us, xs, ys, wy) (nI a) (nI b) (nI c) := by
  simp only [wpY_crossed]
  refine ry_turn ha hb hc ?_
  refine ba_gl (fun n x => wY_crossed_12 post (nI a) (nI b) (nI c) (dm_t xs ys a b c) us xs ys wy n x) (fun d => ¬ sc_farY us xs ys a b c d) (A := post 0) (B := post 1) ?_ ?_ ?_ ?_ ?_
  · intro h n; exact br_t ba_le24 h
  · intro n d hd hP hW
    rw [wY_crossed_12]
    simp only [ba_in hd, ba_cl hd, true_and, nI_1, forall_eq, ba_eq hd ha, ba_eq hd hb, ba_eq hd hc]
    refine br_f (ba_ge hd) ⟨fun _ => hW, fun u1 => ⟨fun _ => hW, fun u2 => ⟨fun _ => hW, fun u3 => ⟨fun _ => hW, fun u4 => ry_turn ha hb hd ⟨fun h => ?_, fun h => ⟨fun g => ?_, fun g => ?_⟩⟩⟩⟩⟩⟩
    · refine ⟨fun y => sy_82 ha hb hc hd (fun w => absurd rfl w) (fun _ => hW), fun y => ⟨fun x => sy_82 ha hb hc hd (fun w => absurd rfl w) (fun _ => hW), fun x => sy_82 ha hb hc hd (fun _ w => absurd ⟨u1, u2, u3, u4, Or.inr ⟨y, x⟩, w⟩ hP) (fun _ => hW)⟩⟩
    · exact sy_82 ha hb hc hd (fun _ w => absurd ⟨u1, u2, u3, u4, Or.inl ⟨h, g⟩, w⟩ hP) (fun _ => hW)
    · refine ⟨fun y => sy_82 ha hb hc hd (fun w => absurd rfl w) (fun _ => hW), fun y => ⟨fun x => sy_82 ha hb hc hd (fun w => absurd rfl w) (fun _ => hW), fun x => sy_82 ha hb hc hd (fun _ w => absurd ⟨u1, u2, u3, u4, Or.inr ⟨y, x⟩, w⟩ hP) (fun _ => hW)⟩⟩
  · intro n d hd hP hB
    obtain ⟨u1, u2, u3, u4, ho, hk⟩ : sc_farY us xs ys a b c d := Classical.byContradiction hP
    rw [wY_crossed_12]
    have E : ∀ z : Int32, ¬ z = 0 → wY_crossed_82 post (wY_crossed_12 post (nI a) (nI b) (nI c) (dm_t xs ys a b c) us xs ys wy n) (nI a) (nI b) (nI c) (dm_t xs ys a b c) (nI d) z us xs ys wy :=
      fun z hz => sy_82 ha hb hc hd (fun _ _ => hB) (fun w => absurd (w hz) hk)
    simp only [ba_in hd, ba_cl hd, true_and, nI_1, forall_eq, ba_eq hd ha, ba_eq hd hb, ba_eq hd hc]
    refine br_f (ba_ge hd) (br_f u1 (br_f u2 (br_f u3 (br_f u4 (ry_turn ha hb hd ?_)))))
    rcases ho with ⟨h1, h2⟩ | ⟨h1, h2⟩
    · exact br_f h1 (br_t h2 (E 1 ba_10))
    · have h3 : dm_t xs ys a b c ≤ 0 := by
        simp only [Int32.le_iff_toInt_le] at h1 ⊢; omega
      exact br_t h3 (br_f h1 (br_f h2 (E 1 ba_10)))
  · exact fun h => h0 fun ⟨d, hd, hf⟩ => h d hd hf
  · exact fun h => h1 (Classical.byContradiction fun z => h fun d hd hf => z ⟨d, hd, hf⟩)
def sc_linkY (us xs ys : Nat → Int32) (a b c : Nat) : Prop := us c ≠ 0 ∧ c ≠ a ∧ c ≠ b ∧ ((dm_t xs ys a b c = 0 ∧ ¬ 0 < dm_o xs ys a b c) ∨ (¬ dm_t xs ys a b c = 0 ∧ ∃ d, d < 24 ∧ sc_farY us xs ys a b c d))
theorem sy_76 {J : Int32 → Prop} {a b c : Nat} {t : Int32} (ha : a < 24) (hb : b < 24) (hc : c < 24)
    (h1 : ¬ t = 0 → (∃ d, d < 24 ∧ sc_farY us xs ys a b c d) → post 0) (h0 : (¬ t = 0 → ¬ ∃ d, d < 24 ∧ sc_farY us xs ys a b c d) → J (nI (c + 1))) :
    wY_linked_76 post J (nI a) (nI b) (nI c) t us xs ys wy := by
  simp only [wY_linked_76, forall_eq, nI_1]
  refine ⟨fun x => h0 fun w => absurd x w, fun x => ?_⟩
  exact sy_far ha hb hc (fun w => br_f ba_10 (h1 x w)) (fun w => br_t rfl (h0 fun _ => w))
theorem sy_link {a b : Nat} (ha : a < 24) (hb : b < 24) (h1 : (¬ ∃ c, c < 24 ∧ sc_linkY us xs ys a b c) → post 1) (h0 : (∃ c, c < 24 ∧ sc_linkY us xs ys a b c) → post 0) :
    ∃ n, wY_linked_25 post (nI a) (nI b) us xs ys wy n 0 := by
  refine ba_gl (fun n x => wY_linked_25 post (nI a) (nI b) us xs ys wy n x) (fun c => ¬ sc_linkY us xs ys a b c) (A := post 1) (B := post 0) ?_ ?_ ?_ ?_ ?_
  · intro h n; exact br_t ba_le24 h
  · intro n c hc hP hW
    rw [wY_linked_25]
    simp only [ba_in hc, ba_cl hc, true_and, nI_1, forall_eq, ba_eq hc ha, ba_eq hc hb]
    refine br_f (ba_ge hc) ⟨fun _ => hW, fun u1 => ⟨fun _ => hW, fun u2 => ⟨fun _ => hW, fun u3 => ry_turn ha hb hc ⟨fun h => ?_, fun h => ?_⟩⟩⟩⟩
    · exact ry_betw ha hb hc (fun g => absurd ⟨u1, u2, u3, Or.inl ⟨h, g⟩⟩ hP) (fun g => br_t rfl (sy_76 ha hb hc (fun w => absurd h w) (fun _ => hW)))
    · exact sy_76 ha hb hc (fun w e => absurd ⟨u1, u2, u3, Or.inr ⟨h, e⟩⟩ hP) (fun _ => hW)
  · intro n c hc hP hB
    obtain ⟨u1, u2, u3, u4⟩ : sc_linkY us xs ys a b c := Classical.byContradiction hP
    rw [wY_linked_25]
    simp only [ba_in hc, ba_cl hc, true_and, nI_1, forall_eq, ba_eq hc ha, ba_eq hc hb]
    refine br_f (ba_ge hc) (br_f u1 (br_f u2 (br_f u3 (ry_turn ha hb hc ⟨fun h => ?_, fun h => ?_⟩))))
    · exact ry_betw ha hb hc (fun g => br_f ba_10 hB) (fun g => (u4.elim (fun y => absurd g y.2) (fun y => absurd h y.1)))
    · exact sy_76 ha hb hc (fun w e => hB) (fun w => absurd (u4.elim (fun y => absurd y.1 h) (fun y => y.2)) (w h))
  · exact fun h => h1 fun ⟨d, hd, hf⟩ => h d hd hf
  · exact fun h => h0 (Classical.byContradiction fun z => h fun d hd hf => z ⟨d, hd, hf⟩)
end
end
section
/-! close, emptyCircle, onHull, hullArea2: the scans -/
section
variable {fc : Int32} {us xs ys wt gp od ed wy : Nat → Int32} {post : Int32 → Prop}
theorem sc_ex {P : Nat → Prop} (h : ¬ ∀ c, c < 24 → ¬ P c) : ∃ c, c < 24 ∧ P c := Classical.byContradiction fun z => h fun d hd hf => z ⟨d, hd, hf⟩
theorem sc_nex {P : Nat → Prop} (h : ∀ c, c < 24 → ¬ P c) : ¬ ∃ c, c < 24 ∧ P c := fun ⟨d, hd, hf⟩ => h d hd hf
def sc_closeX (us xs ys : Nat → Int32) (a b c : Nat) : Prop := us c ≠ 0 ∧ c ≠ a ∧ c ≠ b ∧ ¬ dm_d xs ys a b < dm_d xs ys a c + dm_d xs ys b c
theorem sx_close {a b : Nat} (ha : a < 24) (hb : b < 24) (h1 : (¬ ∃ c, c < 24 ∧ sc_closeX us xs ys a b c) → post 1) (h0 : (∃ c, c < 24 ∧ sc_closeX us xs ys a b c) → post 0) :
    ∃ n, wX_close_33 post (nI a) (nI b) (dm_d xs ys a b) fc us xs ys wt gp od ed n 0 := by
  refine ba_gl (fun n x => wX_close_33 post (nI a) (nI b) (dm_d xs ys a b) fc us xs ys wt gp od ed n x) (fun c => ¬ sc_closeX us xs ys a b c) (A := post 1) (B := post 0) ?_ ?_ ?_ (fun h => h1 (sc_nex h)) (fun h => h0 (sc_ex h))
  · intro h n; exact br_t ba_le24 h
  · intro n c hc hP hW
    rw [wX_close_33]
    refine br_f (ba_ge hc) (rx_other hc ha hb (fun g => br_f ba_10 ?_) (fun g => br_t rfl (nm_r (nI_1 c) hW)))
    exact rx_dist ha hc (rx_dist hb hc ⟨fun _ => nm_r (nI_1 c) hW, fun f => absurd ⟨g.1, g.2.1, g.2.2, f⟩ hP⟩)
  · intro n c hc hP hB
    obtain ⟨g1, g2, g3, g4⟩ : sc_closeX us xs ys a b c := Classical.byContradiction hP
    rw [wX_close_33]
    refine br_f (ba_ge hc) (rx_other hc ha hb (fun g => br_f ba_10 ?_) (fun g => absurd ⟨g1, g2, g3⟩ g))
    exact rx_dist ha hc (rx_dist hb hc (br_f g4 hB))
def sc_closeY (us xs ys : Nat → Int32) (a b c : Nat) : Prop := us c ≠ 0 ∧ c ≠ a ∧ c ≠ b ∧ ¬ dm_d xs ys a b < dm_d xs ys c a + dm_d xs ys c b
theorem sy_close {a b : Nat} (ha : a < 24) (hb : b < 24) (h1 : (¬ ∃ c, c < 24 ∧ sc_closeY us xs ys a b c) → post 1) (h0 : (∃ c, c < 24 ∧ sc_closeY us xs ys a b c) → post 0) :
    ∃ n, wY_close_25 post (nI a) (nI b) us xs ys wy n 0 := by
  refine ba_gl (fun n x => wY_close_25 post (nI a) (nI b) us xs ys wy n x) (fun c => ¬ sc_closeY us xs ys a b c) (A := post 1) (B := post 0) ?_ ?_ ?_ (fun h => h1 (sc_nex h)) (fun h => h0 (sc_ex h))
  · intro h n; exact br_t ba_le24 h
  · intro n c hc hP hW
    rw [wY_close_25]
    simp only [ba_in hc, ba_cl hc, true_and, nI_1, forall_eq, ba_eq hc ha, ba_eq hc hb]
    refine br_f (ba_ge hc) ⟨fun _ => hW, fun u1 => ⟨fun _ => hW, fun u2 => ⟨fun _ => hW, fun u3 => ?_⟩⟩⟩
    exact ry_dist hc ha (ry_dist hc hb (ry_dist ha hb ⟨fun _ => hW, fun f => absurd ⟨u1, u2, u3, f⟩ hP⟩))
  · intro n c hc hP hB
    obtain ⟨g1, g2, g3, g4⟩ : sc_closeY us xs ys a b c := Classical.byContradiction hP
    rw [wY_close_25]
    simp only [ba_in hc, ba_cl hc, true_and, nI_1, forall_eq, ba_eq hc ha, ba_eq hc hb]
    refine br_f (ba_ge hc) (br_f g1 (br_f g2 (br_f g3 ?_)))
    exact ry_dist hc ha (ry_dist hc hb (ry_dist ha hb (br_f g4 hB)))
def sc_circX (us xs ys : Nat → Int32) (a b c d : Nat) : Prop := us d ≠ 0 ∧ d ≠ a ∧ d ≠ b ∧ d ≠ c ∧ 0 ≤ dm_k xs ys a b c d
theorem sx_circ {a b c : Nat} (ha : a < 24) (hb : b < 24) (hc : c < 24) (h1 : (¬ ∃ d, d < 24 ∧ sc_circX us xs ys a b c d) → post 1) (h0 : (∃ d, d < 24 ∧ sc_circX us xs ys a b c d) → post 0) :
    ∃ n, wX_emptyCircle_56 post (nI a) (nI b) (nI c) fc us xs ys wt gp od ed n 0 := by
  refine ba_gl (fun n x => wX_emptyCircle_56 post (nI a) (nI b) (nI c) fc us xs ys wt gp od ed n x) (fun d => ¬ sc_circX us xs ys a b c d) (A := post 1) (B := post 0) ?_ ?_ ?_ (fun h => h1 (sc_nex h)) (fun h => h0 (sc_ex h))
  · intro h n; exact br_t ba_le24 h
  · intro n d hd hP hW
    rw [wX_emptyCircle_56]
    simp only [nI_1, forall_eq, ba_eq hd hc]
    refine br_f (ba_ge hd) (rx_other hd ha hb (fun g => br_f ba_10 ⟨fun _ => hW, fun u4 => ?_⟩) (fun g => br_t rfl hW))
    exact rx_out ha hb hc hd (fun _ => br_f ba_10 hW) (fun f => absurd ⟨g.1, g.2.1, g.2.2, u4, f⟩ hP)
  · intro n d hd hP hB
    obtain ⟨g1, g2, g3, g4, g5⟩ : sc_circX us xs ys a b c d := Classical.byContradiction hP
    rw [wX_emptyCircle_56]
    simp only [nI_1, forall_eq, ba_eq hd hc]
    refine br_f (ba_ge hd) (rx_other hd ha hb (fun g => br_f ba_10 (br_f g4 ?_)) (fun g => absurd ⟨g1, g2, g3⟩ g))
    exact rx_out ha hb hc hd (fun f => absurd g5 f) (fun f => br_t rfl hB)
def sc_circY (us xs ys : Nat → Int32) (a b c d : Nat) : Prop := us d ≠ 0 ∧ d ≠ a ∧ d ≠ b ∧ d ≠ c ∧ ¬ dm_k xs ys a b c d < 0
theorem sy_circ {a b c : Nat} (ha : a < 24) (hb : b < 24) (hc : c < 24) (h1 : (¬ ∃ d, d < 24 ∧ sc_circY us xs ys a b c d) → post 1) (h0 : (∃ d, d < 24 ∧ sc_circY us xs ys a b c d) → post 0) :
    ∃ n, wY_emptyCircle_56 post (nI a) (nI b) (nI c) us xs ys wy n 0 := by
  refine ba_gl (fun n x => wY_emptyCircle_56 post (nI a) (nI b) (nI c) us xs ys wy n x) (fun d => ¬ sc_circY us xs ys a b c d) (A := post 1) (B := post 0) ?_ ?_ ?_ (fun h => h1 (sc_nex h)) (fun h => h0 (sc_ex h))
  · intro h n; exact br_t ba_le24 h
  · intro n d hd hP hW
    rw [wY_emptyCircle_56]
    simp only [ba_in hd, ba_cl hd, true_and, nI_1, forall_eq, ba_eq hd ha, ba_eq hd hb, ba_eq hd hc]
    refine br_f (ba_ge hd) ⟨fun _ => hW, fun u1 => ⟨fun _ => hW, fun u2 => ⟨fun _ => hW, fun u3 => ⟨fun _ => hW, fun u4 => ?_⟩⟩⟩⟩
    exact ry_circ ha hb hc hd ⟨fun _ => hW, fun f => absurd ⟨u1, u2, u3, u4, f⟩ hP⟩
  · intro n d hd hP hB
    obtain ⟨g1, g2, g3, g4, g5⟩ : sc_circY us xs ys a b c d := Classical.byContradiction hP
    rw [wY_emptyCircle_56]
    simp only [ba_in hd, ba_cl hd, true_and, nI_1, forall_eq, ba_eq hd ha, ba_eq hd hb, ba_eq hd hc]
    refine br_f (ba_ge hd) (br_f g1 (br_f g2 (br_f g3 (br_f g4 ?_))))
    exact ry_circ ha hb hc hd (br_f g5 hB)
/-- the two marks of allOnOneSide after the places below c -/
def sc_mk (us xs ys : Nat → Int32) (a b : Nat) (S : Int32 → Prop) (c : Nat) (x : Int32) : Prop := (x = 0 ∧ ∀ e, e < c → us e ≠ 0 → ¬ S (dm_t xs ys a b e)) ∨ (x = 1 ∧ ∃ e, e < c ∧ us e ≠ 0 ∧ S (dm_t xs ys a b e))
theorem sc_mk_skip {S : Int32 → Prop} {a b c : Nat} {x : Int32} (h : sc_mk us xs ys a b S c x) (hc : us c = 0 ∨ ¬ S (dm_t xs ys a b c) ∨ x = 1) : sc_mk us xs ys a b S (c + 1) x := by
  rcases h with ⟨h1, h2⟩ | ⟨h1, e, h2, h3⟩
  · refine Or.inl ⟨h1, fun e he hu hs => ?_⟩
    rcases Nat.lt_succ_iff_lt_or_eq.mp he with hl | rfl
    · exact h2 e hl hu hs
    · rcases hc with z | z | z
      · exact hu z
      · exact z hs
      · rw [h1] at z; exact absurd z (by decide)
  · exact Or.inr ⟨h1, e, by omega, h3⟩
theorem sc_mk_set {S : Int32 → Prop} {a b c : Nat} (hu : us c ≠ 0) (hs : S (dm_t xs ys a b c)) : sc_mk us xs ys a b S (c + 1) 1 := Or.inr ⟨rfl, c, by omega, hu, hs⟩
def sc_side (us xs ys : Nat → Int32) (a b : Nat) : Prop := (∀ e, e < 24 → us e ≠ 0 → ¬ ¬ dm_t xs ys a b e ≤ 0) ∨ (∀ e, e < 24 → us e ≠ 0 → ¬ ¬ 0 ≤ dm_t xs ys a b e)
theorem sx_49 {J : Int32 → Int32 → Int32 → Prop} {x1 x2 x4 t z : Int32} {c : Nat}
    (h0 : x4 = 0 → 0 ≤ t → J z 0 (nI (c + 1))) (h1 : (¬ x4 = 0 ∨ ¬ 0 ≤ t) → J z 1 (nI (c + 1))) : wX_allOnOneSide_49 post J x1 x2 x4 (nI c) t z fc us xs ys wt gp od ed := by
  simp only [wX_allOnOneSide_49, forall_eq, nI_1]
  exact ⟨fun y => ⟨fun x => h0 y x, fun x => h1 (Or.inr x)⟩, fun y => h1 (Or.inl y)⟩
theorem sx_side {a b : Nat} (ha : a < 24) (hb : b < 24) (h1 : sc_side us xs ys a b → post 1) (h0 : ¬ sc_side us xs ys a b → post 0) :
    wpX_allOnOneSide post (fc, us, xs, ys, wt, gp, od, ed) (nI a) (nI b) := by
  simp only [wpX_allOnOneSide]
  refine loop_0 (fun n i (s : Int32 × Int32) => wX_allOnOneSide_8 post (nI a) (nI b) fc us xs ys wt gp od ed n s.1 s.2 (nI i)) (fun i s => sc_mk us xs ys a b (fun t => ¬ t ≤ 0) i s.1 ∧ sc_mk us xs ys a b (fun t => ¬ 0 ≤ t) i s.2) 24 (0, 0) ?_ ?_ ?_
  · exact ⟨Or.inl ⟨rfl, fun e he => absurd he (by omega)⟩, Or.inl ⟨rfl, fun e he => absurd he (by omega)⟩⟩
  · rintro n ⟨x, y⟩ ⟨hx, hy⟩
    rw [wX_allOnOneSide_8]
    refine br_t ba_le24 ?_
    dsimp only at hx hy ⊢
    rcases hx with ⟨e1, e2⟩ | ⟨e1, q, e2, e3, e4⟩
    · exact br_t e1 (h1 (Or.inl e2))
    · refine br_f (by rw [e1]; decide) ?_
      rcases hy with ⟨f1, f2⟩ | ⟨f1, r, f2, f3, f4⟩
      · exact br_t f1 (h1 (Or.inr f2))
      · exact br_f (by rw [f1]; decide) (h0 fun z => z.elim (fun w => w q e2 e3 e4) (fun w => w r f2 f3 f4))
  · rintro n c ⟨x, y⟩ hc ⟨hx, hy⟩ ih
    dsimp only at hx hy ⊢
    rw [wX_allOnOneSide_8]
    simp only [ba_in hc, ba_cl hc, true_and, nI_1, forall_eq]
    refine br_f (ba_ge hc) ⟨fun u => ih (x, y) ⟨sc_mk_skip hx (Or.inl u), sc_mk_skip hy (Or.inl u)⟩, fun u => rx_turn ha hb hc ?_⟩
    have K : ∀ z : Int32, sc_mk us xs ys a b (fun t => ¬ t ≤ 0) (c + 1) z → wX_allOnOneSide_49 post (wX_allOnOneSide_8 post (nI a) (nI b) fc us xs ys wt gp od ed n) (nI a) (nI b) y (nI c) (dm_t xs ys a b c) z fc us xs ys wt gp od ed := by
      intro z hz
      refine sx_49 (fun e1 e2 => ih (z, 0) ⟨hz, sc_mk_skip (e1 ▸ hy) (Or.inr (Or.inl fun w => w e2))⟩) (fun e1 => ih (z, 1) ⟨hz, ?_⟩)
      rcases e1 with e1 | e1
      · rcases hy with ⟨f1, f2⟩ | hy
        · exact absurd f1 e1
        · exact sc_mk_skip (Or.inr ⟨rfl, hy.2⟩) (Or.inr (Or.inr rfl))
      · exact sc_mk_set (S := fun t => ¬ 0 ≤ t) u e1
    refine ⟨fun g => ⟨fun f => K 0 (sc_mk_skip (g ▸ hx) (Or.inr (Or.inl fun w => w f))), fun f => K 1 (sc_mk_set (S := fun t => ¬ t ≤ 0) u f)⟩, fun g => K 1 ?_⟩
    rcases hx with ⟨f1, f2⟩ | hx
    · exact absurd f1 g
    · exact sc_mk_skip (Or.inr ⟨rfl, hx.2⟩) (Or.inr (Or.inr rfl))
theorem sx_hull {a : Nat} (ha : a < 24) (h1 : (∃ b, b < 24 ∧ us b ≠ 0 ∧ b ≠ a ∧ sc_side us xs ys a b) → post 1) (h0 : (¬ ∃ b, b < 24 ∧ us b ≠ 0 ∧ b ≠ a ∧ sc_side us xs ys a b) → post 0) :
    ∃ n, wX_onHull_22 post (nI a) fc us xs ys wt gp od ed n 0 := by
  refine ba_gl (fun n x => wX_onHull_22 post (nI a) fc us xs ys wt gp od ed n x) (fun b => ¬ (us b ≠ 0 ∧ b ≠ a ∧ sc_side us xs ys a b)) (A := post 0) (B := post 1) ?_ ?_ ?_ (fun h => h0 (sc_nex h)) (fun h => h1 (sc_ex h))
  · intro h n; exact br_t ba_le24 h
  · intro n b hb hP hW
    rw [wX_onHull_22]
    simp only [ba_in hb, ba_cl hb, true_and, nI_1, forall_eq, ba_eq hb ha]
    refine br_f (ba_ge hb) ⟨fun _ => hW, fun u1 => ⟨fun _ => hW, fun u2 => ?_⟩⟩
    exact sx_side ha hb (fun g => absurd ⟨u1, u2, g⟩ hP) (fun g => br_t rfl hW)
  · intro n b hb hP hB
    obtain ⟨g1, g2, g3⟩ := Classical.byContradiction hP
    rw [wX_onHull_22]
    simp only [ba_in hb, ba_cl hb, true_and, nI_1, forall_eq, ba_eq hb ha]
    refine br_f (ba_ge hb) (br_f g1 (br_f g2 ?_))
    exact sx_side ha hb (fun g => br_f ba_10 hB) (fun g => absurd g3 g)
theorem sy_right {a b : Nat} (ha : a < 24) (hb : b < 24) (h1 : (∀ c, c < 24 → us c ≠ 0 → 0 ≤ dm_t xs ys a b c) → post 1) (h0 : (¬ ∀ c, c < 24 → us c ≠ 0 → 0 ≤ dm_t xs ys a b c) → post 0) :
    wpY_noneRight post (us, xs, ys, wy) (nI a) (nI b) := by
  simp only [wpY_noneRight]
  refine ba_gl (fun n x => wY_noneRight_2 post (nI a) (nI b) us xs ys wy n x) (fun c => us c ≠ 0 → 0 ≤ dm_t xs ys a b c) (A := post 1) (B := post 0) ?_ ?_ ?_ h1 h0
  · intro h n; exact br_t ba_le24 h
  · intro n c hc hP hW
    rw [wY_noneRight_2]
    simp only [ba_in hc, ba_cl hc, true_and, nI_1, forall_eq]
    exact br_f (ba_ge hc) ⟨fun _ => hW, fun u => ry_turn ha hb hc (br_t (hP u) hW)⟩
  · intro n c hc hP hB
    rw [wY_noneRight_2]
    simp only [ba_in hc, ba_cl hc, true_and, nI_1, forall_eq]
    exact br_f (ba_ge hc) ⟨fun u => absurd (fun v => absurd u v) hP, fun u => ry_turn ha hb hc (br_f (fun z => hP fun _ => z) hB)⟩
theorem sy_left {a b : Nat} (ha : a < 24) (hb : b < 24) (h1 : (∀ c, c < 24 → us c ≠ 0 → dm_t xs ys a b c ≤ 0) → post 1) (h0 : (¬ ∀ c, c < 24 → us c ≠ 0 → dm_t xs ys a b c ≤ 0) → post 0) :
    wpY_noneLeft post (us, xs, ys, wy) (nI a) (nI b) := by
  simp only [wpY_noneLeft]
  refine ba_gl (fun n x => wY_noneLeft_2 post (nI a) (nI b) us xs ys wy n x) (fun c => us c ≠ 0 → dm_t xs ys a b c ≤ 0) (A := post 1) (B := post 0) ?_ ?_ ?_ h1 h0
  · intro h n; exact br_t ba_le24 h
  · intro n c hc hP hW
    rw [wY_noneLeft_2]
    simp only [ba_in hc, ba_cl hc, true_and, nI_1, forall_eq]
    exact br_f (ba_ge hc) ⟨fun _ => hW, fun u => ry_turn ha hb hc (br_t (hP u) hW)⟩
  · intro n c hc hP hB
    rw [wY_noneLeft_2]
    simp only [ba_in hc, ba_cl hc, true_and, nI_1, forall_eq]
    exact br_f (ba_ge hc) ⟨fun u => absurd (fun v => absurd u v) hP, fun u => ry_turn ha hb hc (br_f (fun z => hP fun _ => z) hB)⟩
def sc_sideY (us xs ys : Nat → Int32) (a b : Nat) : Prop := (∀ c, c < 24 → us c ≠ 0 → 0 ≤ dm_t xs ys a b c) ∨ (∀ c, c < 24 → us c ≠ 0 → dm_t xs ys a b c ≤ 0)
theorem sy_hull {a : Nat} (ha : a < 24) (h1 : (∃ b, b < 24 ∧ us b ≠ 0 ∧ b ≠ a ∧ sc_sideY us xs ys a b) → post 1) (h0 : (¬ ∃ b, b < 24 ∧ us b ≠ 0 ∧ b ≠ a ∧ sc_sideY us xs ys a b) → post 0) :
    ∃ n, wY_onHull_22 post (nI a) us xs ys wy n 0 := by
  refine ba_gl (fun n x => wY_onHull_22 post (nI a) us xs ys wy n x) (fun b => ¬ (us b ≠ 0 ∧ b ≠ a ∧ sc_sideY us xs ys a b)) (A := post 0) (B := post 1) ?_ ?_ ?_ (fun h => h0 (sc_nex h)) (fun h => h1 (sc_ex h))
  · intro h n; exact br_t ba_le24 h
  · intro n b hb hP hW
    rw [wY_onHull_22]
    simp only [ba_in hb, ba_cl hb, true_and, nI_1, forall_eq, ba_eq hb ha]
    refine br_f (ba_ge hb) ⟨fun _ => hW, fun u1 => ⟨fun _ => hW, fun u2 => ?_⟩⟩
    exact sy_right ha hb (fun g => absurd ⟨u1, u2, Or.inl g⟩ hP) (fun _ => br_t rfl (sy_left ha hb (fun g => absurd ⟨u1, u2, Or.inr g⟩ hP) (fun _ => br_t rfl hW)))
  · intro n b hb hP hB
    obtain ⟨g1, g2, g3⟩ := Classical.byContradiction hP
    rw [wY_onHull_22]
    simp only [ba_in hb, ba_cl hb, true_and, nI_1, forall_eq, ba_eq hb ha]
    refine br_f (ba_ge hb) (br_f g1 (br_f g2 ?_))
    exact sy_right ha hb (fun g => br_f ba_10 hB) (fun f => br_t rfl (sy_left ha hb (fun g => br_f ba_10 hB) (fun g => absurd g3 fun z => z.elim f g)))
end
end
section
/-! hull sides, hullArea2, nearest, neighbour -/
section
variable {fc : Int32} {us xs ys wt gp od ed wy : Nat → Int32} {post : Int32 → Prop}
def sc_hsX (us xs ys : Nat → Int32) (a b : Nat) : Prop := ∀ c, c < 24 → (us c ≠ 0 ∧ c ≠ a ∧ c ≠ b → ¬ 0 < dm_t xs ys a b c → (¬ 0 ≤ dm_o xs ys a b c ∧ dm_t xs ys a b c = 0))
theorem sx_hside {a b : Nat} (ha : a < 24) (hb : b < 24) (h1 : sc_hsX us xs ys a b → post 1) (h0 : ¬ sc_hsX us xs ys a b → post 0) :
    wpX_isHullSide post (fc, us, xs, ys, wt, gp, od, ed) (nI a) (nI b) := by
  simp only [wpX_isHullSide]
  refine ba_gl (fun n x => wX_isHullSide_2 post (nI a) (nI b) fc us xs ys wt gp od ed n x) (fun c => (us c ≠ 0 ∧ c ≠ a ∧ c ≠ b → ¬ 0 < dm_t xs ys a b c → (¬ 0 ≤ dm_o xs ys a b c ∧ dm_t xs ys a b c = 0))) (A := post 1) (B := post 0) ?_ ?_ ?_ h1 h0
  · intro h n; exact br_t ba_le24 h
  · intro n c hc hP hW
    rw [wX_isHullSide_2]
    simp only [nI_1, forall_eq]
    refine br_f (ba_ge hc) (rx_other hc ha hb (fun g => br_f ba_10 ?_) (fun g => br_t rfl hW))
    exact rx_turn ha hb hc ⟨fun _ => hW, fun f => rx_betw ha hb hc (fun e => br_f ba_10 hW) (fun e => absurd (hP g f) e)⟩
  · intro n c hc hP hB
    rw [wX_isHullSide_2]
    simp only [nI_1, forall_eq]
    refine br_f (ba_ge hc) (rx_other hc ha hb (fun g => br_f ba_10 ?_) (fun g => absurd (fun f => absurd f g) hP))
    exact rx_turn ha hb hc ⟨fun f => absurd (fun _ e => absurd f e) hP, fun f => rx_betw ha hb hc (fun e => absurd (fun _ _ => e) hP) (fun e => br_t rfl hB)⟩
theorem sy_long {a b : Nat} (ha : a < 24) (hb : b < 24) (h1 : (∀ c, c < 24 → us c ≠ 0 → dm_t xs ys a b c = 0 → ¬ 0 < dm_o xs ys a b c) → post 1) (h0 : (¬ ∀ c, c < 24 → us c ≠ 0 → dm_t xs ys a b c = 0 → ¬ 0 < dm_o xs ys a b c) → post 0) :
    wpY_longest post (us, xs, ys, wy) (nI a) (nI b) := by
  simp only [wpY_longest]
  refine ba_gl (fun n x => wY_longest_2 post (nI a) (nI b) us xs ys wy n x) (fun c => us c ≠ 0 → dm_t xs ys a b c = 0 → ¬ 0 < dm_o xs ys a b c) (A := post 1) (B := post 0) ?_ ?_ ?_ h1 h0
  · intro h n; exact br_t ba_le24 h
  · intro n c hc hP hW
    rw [wY_longest_2]
    simp only [ba_in hc, ba_cl hc, true_and, nI_1, forall_eq]
    refine br_f (ba_ge hc) ⟨fun _ => hW, fun u => ry_turn ha hb hc ⟨fun g => ?_, fun g => hW⟩⟩
    exact ry_betw ha hb hc (fun _ => br_f ba_10 hW) (fun f => absurd f (hP u g))
  · intro n c hc hP hB
    rw [wY_longest_2]
    simp only [ba_in hc, ba_cl hc, true_and, nI_1, forall_eq]
    refine br_f (ba_ge hc) ⟨fun u => absurd (fun v => absurd u v) hP, fun u => ry_turn ha hb hc ⟨fun g => ?_, fun g => absurd (fun _ v => absurd v g) hP⟩⟩
    exact ry_betw ha hb hc (fun f => absurd (fun _ _ => f) hP) (fun _ => br_t rfl hB)
def sc_hsY (us xs ys : Nat → Int32) (a b : Nat) : Prop := (∀ c, c < 24 → us c ≠ 0 → 0 ≤ dm_t xs ys a b c) ∧ (∀ c, c < 24 → us c ≠ 0 → dm_t xs ys a b c = 0 → ¬ 0 < dm_o xs ys a b c)
theorem sh_in (hE : ∀ a b, a < 24 → b < 24 → us a ≠ 0 → us b ≠ 0 → a ≠ b → (sc_hsX us xs ys a b ↔ sc_hsY us xs ys a b)) {a : Nat} (ha : a < 24) :
    ∀ d b acc, b + d = 24 → ∃ acc' : Int32,
      (∀ (post : Int32 → Prop) (J : Int32 → Int32 → Prop), J acc' (nI (a + 1)) → wX_hullArea2_12 post J (nI a) fc us xs ys wt gp od ed (d + 1) acc (nI b)) ∧
      (∀ (post : Int32 → Prop) (J : Int32 → Int32 → Prop), J acc' (nI (a + 1)) → wY_hullArea2_12 post J (nI a) us xs ys wy (d + 1) acc (nI b)) := by
  intro d
  induction d with
  | zero =>
    intro b acc hb
    cases (by omega : b = 24)
    exact ⟨acc, fun _ _ h => br_t ba_le24 (nm_r (nI_1 a) h), fun _ _ h => br_t ba_le24 (nm_r (nI_1 a) h)⟩
  | succ d ih =>
    intro b acc hd
    have hb : b < 24 := by omega
    by_cases hs : us a ≠ 0 ∧ us b ≠ 0 ∧ a ≠ b ∧ sc_hsX us xs ys a b
    · obtain ⟨u1, u2, u3, u4⟩ := hs
      have u5 := (hE a b ha hb u1 u2 u3).mp u4
      obtain ⟨acc', hX, hY⟩ := ih (b + 1) (acc + (xs a * ys b - xs b * ys a)) (by omega)
      refine ⟨acc', fun post J h => ?_, fun post J h => ?_⟩
      · rw [wX_hullArea2_12]
        simp only [ba_in ha, ba_cl ha, ba_in hb, ba_cl hb, true_and, nI_1, forall_eq, ba_eq ha hb]
        refine br_f (ba_ge hb) (br_f u3 (br_f u1 (br_f u2 ?_)))
        exact sx_hside ha hb (fun _ => br_f ba_10 (hX post J h)) (fun g => absurd u4 g)
      · rw [wY_hullArea2_12]
        simp only [ba_in ha, ba_cl ha, ba_in hb, ba_cl hb, true_and, nI_1, forall_eq, ba_eq ha hb]
        refine br_f (ba_ge hb) (br_f u1 (br_f u2 (br_f u3 ?_)))
        refine sy_right ha hb (fun _ => br_f ba_10 (sy_long ha hb (fun _ => br_f ba_10 ?_) (fun g => absurd u5.2 g))) (fun g => absurd u5.1 g)
        rw [Int32.mul_comm (ys a)]
        exact hY post J h
    · obtain ⟨acc', hX, hY⟩ := ih (b + 1) acc (by omega)
      refine ⟨acc', fun post J h => ?_, fun post J h => ?_⟩
      · rw [wX_hullArea2_12]
        simp only [ba_in ha, ba_cl ha, ba_in hb, ba_cl hb, true_and, nI_1, forall_eq, ba_eq ha hb]
        refine br_f (ba_ge hb) ⟨fun _ => hX post J h, fun u3 => ⟨fun _ => hX post J h, fun u1 => ⟨fun _ => hX post J h, fun u2 => ?_⟩⟩⟩
        exact sx_hside ha hb (fun g => absurd ⟨u1, u2, u3, g⟩ hs) (fun _ => br_t rfl (hX post J h))
      · rw [wY_hullArea2_12]
        simp only [ba_in ha, ba_cl ha, ba_in hb, ba_cl hb, true_and, nI_1, forall_eq, ba_eq ha hb]
        refine br_f (ba_ge hb) ⟨fun _ => hY post J h, fun u1 => ⟨fun _ => hY post J h, fun u2 => ⟨fun _ => hY post J h, fun u3 => ?_⟩⟩⟩
        refine sy_right ha hb (fun g => br_f ba_10 (sy_long ha hb (fun f => absurd ⟨u1, u2, u3, (hE a b ha hb u1 u2 u3).mpr ⟨g, f⟩⟩ hs) (fun _ => br_t rfl (hY post J h)))) (fun _ => br_t rfl (hY post J h))
theorem sh_out (hE : ∀ a b, a < 24 → b < 24 → us a ≠ 0 → us b ≠ 0 → a ≠ b → (sc_hsX us xs ys a b ↔ sc_hsY us xs ys a b)) :
    ∀ d a acc, a + d = 24 → ∃ r : Int32,
      (∀ (post : Int32 → Prop), post r → wX_hullArea2_4 post fc us xs ys wt gp od ed (d + 1) acc (nI a)) ∧
      (∀ (post : Int32 → Prop), post r → wY_hullArea2_4 post us xs ys wy (d + 1) acc (nI a)) := by
  intro d
  induction d with
  | zero =>
    intro a acc ha
    cases (by omega : a = 24)
    exact ⟨acc, fun _ h => br_t ba_le24 h, fun _ h => br_t ba_le24 h⟩
  | succ d ih =>
    intro a acc hd
    have ha : a < 24 := by omega
    obtain ⟨acc', hX, hY⟩ := sh_in (fc := fc) (wt := wt) (gp := gp) (od := od) (ed := ed) (wy := wy) hE ha 24 0 acc (by omega)
    obtain ⟨r, kX, kY⟩ := ih (a + 1) acc' (by omega)
    exact ⟨r, fun post h => br_f (ba_ge ha) ⟨25, hX post _ (kX post h)⟩, fun post h => br_f (ba_ge ha) ⟨25, hY post _ (kY post h)⟩⟩
theorem sn_near (x y : Int32) : ∀ d j, j + d = 24 → ∀ best least : Int32, (best = -4 ∨ ∃ b, b < 24 ∧ best = nI b) → ∃ r : Int32,
      (∀ (post : Int32 → Prop), post r → wX_closestTo_10 post x y (-4) fc us xs ys wt gp od ed (d + 1) best least (nI j)) ∧
      (∀ (post : Int32 → Prop), post r → wY_nearest_20 post x y us xs ys wy (d + 1) best least (nI j)) := by
  intro d
  induction d with
  | zero =>
    intro j hj best least _
    cases (by omega : j = 24)
    exact ⟨best, fun _ h => br_t ba_le24 h, fun _ h => br_t ba_le24 h⟩
  | succ d ih =>
    intro j hd best least hb
    have hj : j < 24 := by omega
    have e1 : ∀ p q : Int32, (p - x) * (p - x) + (q - y) * (q - y) = (x - p) * (x - p) + (y - q) * (y - q) := by intro p q; grind
    by_cases hu : us j = 0
    · obtain ⟨r, hX, hY⟩ := ih (j + 1) (by omega) best least hb
      refine ⟨r, fun post h => ?_, fun post h => ?_⟩
      · rw [wX_closestTo_10]
        simp only [ba_in hj, ba_cl hj, true_and, nI_1, forall_eq]
        exact br_f (ba_ge hj) (br_t hu (hX post h))
      · rw [wY_nearest_20]
        simp only [ba_in hj, ba_cl hj, true_and, nI_1, forall_eq]
        exact br_f (ba_ge hj) (br_t hu (hY post h))
    · rcases hb with rfl | ⟨b, hb, rfl⟩
      · obtain ⟨r, hX, hY⟩ := ih (j + 1) (by omega) (nI j) ((x - xs j) * (x - xs j) + (y - ys j) * (y - ys j)) (Or.inr ⟨j, hj, rfl⟩)
        refine ⟨r, fun post h => ?_, fun post h => ?_⟩
        · rw [wX_closestTo_10]
          simp only [ba_in hj, ba_cl hj, true_and, nI_1, forall_eq]
          exact br_f (ba_ge hj) (br_f hu (br_f (ba_n4 hj) (br_t trivial (hX post h))))
        · rw [wY_nearest_20]
          simp only [ba_in hj, ba_cl hj, true_and, nI_1, forall_eq, e1]
          exact br_f (ba_ge hj) (br_f hu (br_t (by decide) (hY post h)))
      · by_cases hl : least ≤ (x - xs j) * (x - xs j) + (y - ys j) * (y - ys j)
        · obtain ⟨r, hX, hY⟩ := ih (j + 1) (by omega) (nI b) least (Or.inr ⟨b, hb, rfl⟩)
          refine ⟨r, fun post h => ?_, fun post h => ?_⟩
          · rw [wX_closestTo_10]
            simp only [ba_in hj, ba_cl hj, true_and, nI_1, forall_eq]
            exact br_f (ba_ge hj) (br_f hu (br_f (ba_n4 hj) (br_f (ba_n4 hb) (br_t hl (hX post h)))))
          · rw [wY_nearest_20]
            simp only [ba_in hj, ba_cl hj, true_and, nI_1, forall_eq, e1]
            exact br_f (ba_ge hj) (br_f hu (br_f (ba_nn hb) (br_t hl (hY post h))))
        · obtain ⟨r, hX, hY⟩ := ih (j + 1) (by omega) (nI j) ((x - xs j) * (x - xs j) + (y - ys j) * (y - ys j)) (Or.inr ⟨j, hj, rfl⟩)
          refine ⟨r, fun post h => ?_, fun post h => ?_⟩
          · rw [wX_closestTo_10]
            simp only [ba_in hj, ba_cl hj, true_and, nI_1, forall_eq]
            exact br_f (ba_ge hj) (br_f hu (br_f (ba_n4 hj) (br_f (ba_n4 hb) (br_f hl (hX post h)))))
          · rw [wY_nearest_20]
            simp only [ba_in hj, ba_cl hj, true_and, nI_1, forall_eq, e1]
            exact br_f (ba_ge hj) (br_f hu (br_f (ba_nn hb) (br_f hl (hY post h))))
theorem sn_neigh {a : Nat} (ha : a < 24) : ∀ d j, j + d = 24 → ∀ best least : Int32, (best = -4 ∨ ∃ b, b < 24 ∧ best = nI b) → ∃ r : Int32,
      (∀ (post : Int32 → Prop), post r → wX_closestTo_10 post (xs a) (ys a) (nI a) fc us xs ys wt gp od ed (d + 1) best least (nI j)) ∧
      (∀ (post : Int32 → Prop), post r → wY_neighbour_19 post (nI a) us xs ys wy (d + 1) best least (nI j)) := by
  intro d
  induction d with
  | zero =>
    intro j hj best least _
    cases (by omega : j = 24)
    exact ⟨best, fun _ h => br_t ba_le24 h, fun _ h => br_t ba_le24 h⟩
  | succ d ih =>
    intro j hd best least hb
    have hj : j < 24 := by omega
    have e1 : dm_d xs ys j a = (xs a - xs j) * (xs a - xs j) + (ys a - ys j) * (ys a - ys j) := by unfold dm_d; grind
    by_cases hu : us j = 0 ∨ j = a
    · obtain ⟨r, hX, hY⟩ := ih (j + 1) (by omega) best least hb
      refine ⟨r, fun post h => ?_, fun post h => ?_⟩
      · rw [wX_closestTo_10]
        simp only [ba_in hj, ba_cl hj, true_and, nI_1, forall_eq, ba_eq hj ha]
        exact br_f (ba_ge hj) ⟨fun _ => hX post h, fun z => br_t (hu.resolve_left z) (hX post h)⟩
      · rw [wY_neighbour_19]
        simp only [ba_in hj, ba_cl hj, true_and, nI_1, forall_eq, ba_eq hj ha]
        exact br_f (ba_ge hj) (ry_dist hj ha ⟨fun _ => hY post h, fun z => br_t (hu.resolve_left z) (hY post h)⟩)
    · have hu1 : ¬ us j = 0 := fun z => hu (Or.inl z)
      have hu2 : ¬ j = a := fun z => hu (Or.inr z)
      rcases hb with rfl | ⟨b, hb, rfl⟩
      · obtain ⟨r, hX, hY⟩ := ih (j + 1) (by omega) (nI j) ((xs a - xs j) * (xs a - xs j) + (ys a - ys j) * (ys a - ys j)) (Or.inr ⟨j, hj, rfl⟩)
        refine ⟨r, fun post h => ?_, fun post h => ?_⟩
        · rw [wX_closestTo_10]
          simp only [ba_in hj, ba_cl hj, true_and, nI_1, forall_eq, ba_eq hj ha]
          exact br_f (ba_ge hj) (br_f hu1 (br_f hu2 (br_t trivial (hX post h))))
        · rw [wY_neighbour_19]
          simp only [ba_in hj, ba_cl hj, true_and, nI_1, forall_eq, ba_eq hj ha]
          refine br_f (ba_ge hj) (ry_dist hj ha (br_f hu1 (br_f hu2 (br_t (by decide) ?_))))
          rw [e1]; exact hY post h
      · by_cases hl : least ≤ (xs a - xs j) * (xs a - xs j) + (ys a - ys j) * (ys a - ys j)
        · obtain ⟨r, hX, hY⟩ := ih (j + 1) (by omega) (nI b) least (Or.inr ⟨b, hb, rfl⟩)
          refine ⟨r, fun post h => ?_, fun post h => ?_⟩
          · rw [wX_closestTo_10]
            simp only [ba_in hj, ba_cl hj, true_and, nI_1, forall_eq, ba_eq hj ha]
            exact br_f (ba_ge hj) (br_f hu1 (br_f hu2 (br_f (ba_n4 hb) (br_t hl (hX post h)))))
          · rw [wY_neighbour_19]
            simp only [ba_in hj, ba_cl hj, true_and, nI_1, forall_eq, ba_eq hj ha]
            exact br_f (ba_ge hj) (ry_dist hj ha (br_f hu1 (br_f hu2 (br_f (ba_nn hb) (br_t (by rw [e1]; exact hl) (hY post h))))))
        · obtain ⟨r, hX, hY⟩ := ih (j + 1) (by omega) (nI j) ((xs a - xs j) * (xs a - xs j) + (ys a - ys j) * (ys a - ys j)) (Or.inr ⟨j, hj, rfl⟩)
          refine ⟨r, fun post h => ?_, fun post h => ?_⟩
          · rw [wX_closestTo_10]
            simp only [ba_in hj, ba_cl hj, true_and, nI_1, forall_eq, ba_eq hj ha]
            exact br_f (ba_ge hj) (br_f hu1 (br_f hu2 (br_f (ba_n4 hb) (br_f hl (hX post h)))))
          · rw [wY_neighbour_19]
            simp only [ba_in hj, ba_cl hj, true_and, nI_1, forall_eq, ba_eq hj ha]
            refine br_f (ba_ge hj) (ry_dist hj ha (br_f hu1 (br_f hu2 (br_f (ba_nn hb) (br_f (by rw [e1]; exact hl) ?_)))))
            rw [e1]; exact hY post h
end
end
section
/-! counting, the relation, and the methods that change the state -/
noncomputable def cn_b (p : Prop) : Nat := @ite Nat p (Classical.propDecidable p) 1 0
theorem cn_bT {p : Prop} (h : p) : cn_b p = 1 := by unfold cn_b; exact if_pos h
theorem cn_bF {p : Prop} (h : ¬ p) : cn_b p = 0 := by unfold cn_b; exact if_neg h
theorem cn_bI {p q : Prop} (h : p ↔ q) : cn_b p = cn_b q := by rw [propext h]
theorem cn_b1 (p : Prop) : cn_b p ≤ 1 := by
  by_cases h : p
  · rw [cn_bT h]; omega
  · rw [cn_bF h]; omega
noncomputable def cn_t : Nat → (Nat → Prop) → Nat
  | 0, _ => 0
  | n + 1, P => cn_t n P + cn_b (P n)
theorem cn_S (n : Nat) (P : Nat → Prop) : cn_t (n + 1) P = cn_t n P + cn_b (P n) := rfl
theorem cn_0 (P : Nat → Prop) : cn_t 0 P = 0 := rfl
theorem cn_le (n : Nat) (P : Nat → Prop) : cn_t n P ≤ n := by
  induction n with
  | zero => exact Nat.le_refl 0
  | succ n ih => rw [cn_S]; have := cn_b1 (P n); omega
theorem cn_cong {n : Nat} {P Q : Nat → Prop} (h : ∀ i, i < n → (P i ↔ Q i)) : cn_t n P = cn_t n Q := by
  induction n with
  | zero => rfl
  | succ n ih => rw [cn_S, cn_S, ih fun i hi => h i (by omega), cn_bI (h n (by omega))]
theorem cn_mono {n : Nat} {P Q : Nat → Prop} (h : ∀ i, i < n → P i → Q i) : cn_t n P ≤ cn_t n Q := by
  induction n with
  | zero => exact Nat.le_refl 0
  | succ n ih =>
    rw [cn_S, cn_S]
    have := ih fun i hi => h i (by omega)
    by_cases hp : P n
    · rw [cn_bT hp, cn_bT (h n (by omega) hp)]; omega
    · rw [cn_bF hp]; omega
theorem cn_zero {n : Nat} {P : Nat → Prop} (h : cn_t n P = 0) : ∀ i, i < n → ¬ P i := by
  induction n with
  | zero => intro i hi; omega
  | succ n ih =>
    intro i hi hp
    rw [cn_S] at h
    rcases Nat.lt_succ_iff_lt_or_eq.mp hi with hl | rfl
    · exact ih (by omega) i hl hp
    · rw [cn_bT hp] at h; omega
theorem cn_pos {n : Nat} {P : Nat → Prop} (h : 0 < cn_t n P) : ∃ i, i < n ∧ P i := by
  apply Classical.byContradiction
  intro z
  have : ∀ n', n' ≤ n → cn_t n' P = 0 := by
    intro n'
    induction n' with
    | zero => intro _; rfl
    | succ k ih => intro hk; rw [cn_S, ih (by omega), cn_bF fun hp => z ⟨k, by omega, hp⟩]
  have := this n (Nat.le_refl n); omega
theorem cn_none {n : Nat} {P : Nat → Prop} (h : ∀ i, i < n → ¬ P i) : cn_t n P = 0 := by
  apply Classical.byContradiction
  intro z
  obtain ⟨i, hi, hp⟩ := cn_pos (P := P) (n := n) (by omega)
  exact h i hi hp
/-- one place changed -/
theorem cn_one {n k : Nat} {P Q : Nat → Prop} (hk : k < n) (h : ∀ i, i < n → i ≠ k → (P i ↔ Q i)) : cn_t n P + cn_b (Q k) = cn_t n Q + cn_b (P k) := by
  induction n with
  | zero => omega
  | succ n ih =>
    rw [cn_S, cn_S]
    by_cases e : n = k
    · subst e
      rw [cn_cong (P := P) (Q := Q) fun i hi => h i (by omega) (by omega)]; omega
    · rw [cn_bI (h n (by omega) e)]
      have := ih (by omega) fun i hi => h i (by omega)
      omega
def dm_u (us : Nat → Int32) : Nat → Prop := fun j => us j ≠ 0
def dm_ok (fc : Int32) (us xs ys : Nat → Int32) : Prop :=
  fc = nI (cn_t 24 (dm_u us)) ∧ (∀ j, us j = 0 ∨ us j = 1) ∧ (∀ j, 0 ≤ (xs j).toInt ∧ (xs j).toInt ≤ 127) ∧ (∀ j, 0 ≤ (ys j).toInt ∧ (ys j).toInt ≤ 127) ∧
  (∀ i j, i < 24 → j < 24 → us i ≠ 0 → us j ≠ 0 → xs i = xs j → ys i = ys j → i = j)
def i_Rel (_ : Nat) (u : SX) (v : SY) : Prop := ∃ (fc : Int32) (us xs ys wt gp od ed wy : Nat → Int32), u = (fc, us, xs, ys, wt, gp, od, ed) ∧ v = (us, xs, ys, wy) ∧ dm_ok fc us xs ys
theorem i_up {k : Nat} {u : SX} {v : SY} (h : i_Rel k u v) : i_Rel (k + 4) u v := h
theorem dm_rel {k : Nat} {fc : Int32} {us xs ys wt gp od ed wy : Nat → Int32} (h : dm_ok fc us xs ys) : i_Rel k (fc, us, xs, ys, wt, gp, od, ed) (us, xs, ys, wy) := ⟨fc, us, xs, ys, wt, gp, od, ed, wy, rfl, rfl, h⟩
theorem dm_us (f : Nat → Int32) (k : Nat) (x : Int32) : upd f k x k = x := if_pos rfl
theorem dm_un {f : Nat → Int32} {k j : Nat} {x : Int32} (h : j ≠ k) : upd f k x j = f j := if_neg h
theorem dm_m1 (n : Nat) : nI (n + 1) + (-1) = nI n := by
  rw [← nI_1, Int32.add_assoc, show (1 : Int32) + (-1) = 0 from rfl, Int32.add_zero]
theorem i_vc0 : wpX_init (fun u => wpY_init (fun v => i_Rel 0 u v)) := by
  have z0 : 0 ≤ (0 : Int32).toInt ∧ (0 : Int32).toInt ≤ 127 := by decide
  have zc : cn_t 24 (dm_u fun _ => 0) = 0 := cn_none fun i _ z => z rfl
  exact dm_rel (k := 0) (fc := 0) (us := fun _ => 0) (xs := fun _ => 0) (ys := fun _ => 0) ⟨by rw [zc]; rfl, fun j => Or.inl rfl, fun j => z0, fun j => z0, fun i j _ _ h => absurd rfl h⟩
theorem dm_n1 : vp_nar .boolean 1 = 1 := by decide
theorem dm_n0 : vp_nar .boolean 0 = 0 := by decide
section
variable {fc : Int32} {us xs ys wt gp od ed wy : Nat → Int32} {post : Int32 → Prop}
theorem st_size (h : post (nI (cn_t 24 (dm_u us)))) : wpY_size post (us, xs, ys, wy) := by
  simp only [wpY_size]
  refine loop_0 (fun n i (s : Int32) => wY_size_4 post us xs ys wy n s (nI i)) (fun i s => s = nI (cn_t i (dm_u us))) 24 0 rfl ?_ ?_
  · rintro n s rfl; exact br_t ba_le24 h
  · rintro n c s hc rfl ih
    rw [wY_size_4]
    simp only [ba_in hc, ba_cl hc, true_and, nI_1, forall_eq]
    refine br_f (ba_ge hc) ⟨fun u => ih _ ?_, fun u => ih _ ?_⟩
    · rw [cn_S, cn_bF (p := dm_u us c) fun z => z u, Nat.add_zero]
    · rw [cn_S, cn_bT (p := dm_u us c) u]
def st_dup (us xs ys : Nat → Int32) (x y : Int32) (c : Nat) : Prop := us c ≠ 0 ∧ xs c = x ∧ ys c = y
theorem st_holds {x y : Int32} (h1 : (∃ c, c < 24 ∧ st_dup us xs ys x y c) → post 1) (h0 : (¬ ∃ c, c < 24 ∧ st_dup us xs ys x y c) → post 0) :
    wpX_holds post (fc, us, xs, ys, wt, gp, od, ed) x y := by
  simp only [wpX_holds]
  refine ba_gl (fun n z => wX_holds_2 post x y fc us xs ys wt gp od ed n z) (fun c => ¬ st_dup us xs ys x y c) (A := post 0) (B := post 1) ?_ ?_ ?_ (fun h => h0 (sc_nex h)) (fun h => h1 (sc_ex h))
  · intro h n; exact br_t ba_le24 h
  · intro n c hc hP hW
    rw [wX_holds_2]
    simp only [ba_in hc, ba_cl hc, true_and, nI_1, forall_eq]
    exact br_f (ba_ge hc) ⟨fun _ => hW, fun u1 => ⟨fun u2 => ⟨fun u3 => absurd ⟨u1, u2, u3⟩ hP, fun _ => hW⟩, fun _ => hW⟩⟩
  · intro n c hc hP hB
    obtain ⟨u1, u2, u3⟩ : st_dup us xs ys x y c := Classical.byContradiction hP
    rw [wX_holds_2]
    simp only [ba_in hc, ba_cl hc, true_and, nI_1, forall_eq]
    exact br_f (ba_ge hc) (br_f u1 (br_t u2 (br_t u3 hB)))
end
section
variable {fc : Int32} {us xs ys wt gp od ed wy : Nat → Int32} {post : Int32 → SX → Prop} {postY : Int32 → SY → Prop}
/-- the first free place -/
theorem st_addX {x y : Int32} (hN : (∀ c, c < 24 → us c ≠ 0) → post (-3) (fc, us, xs, ys, wt, gp, od, ed))
    (hF : ∀ f, f < 24 → us f = 0 → (∀ c, c < f → us c ≠ 0) → post (nI f) (fc + 1, upd us f 1, upd xs f x, upd ys f y, wt, gp, od, ed)) :
    ∃ n, wX_add_32 post x y fc us xs ys wt gp od ed n 0 := by
  have step : ∀ n c, c < 24 → us c ≠ 0 → wX_add_32 post x y fc us xs ys wt gp od ed n (nI (c + 1)) → wX_add_32 post x y fc us xs ys wt gp od ed (n + 1) (nI c) := by
    intro n c hc hu hW
    rw [wX_add_32]
    simp only [ba_in hc, ba_cl hc, true_and, nI_1, forall_eq]
    exact br_f (ba_ge hc) (br_f hu hW)
  by_cases h : ∀ c, c < 24 → us c ≠ 0
  · have key : ∀ d c, c + d = 24 → wX_add_32 post x y fc us xs ys wt gp od ed (d + 1) (nI c) := by
      intro d
      induction d with
      | zero => intro c hc; cases (by omega : c = 24); exact br_t ba_le24 (hN h)
      | succ d ih => intro c hc; exact step _ c (by omega) (h c (by omega)) (ih (c + 1) (by omega))
    exact ⟨25, key 24 0 rfl⟩
  · obtain ⟨f, ⟨hf, u⟩, hl⟩ := ba_least (fun c => c < 24 ∧ us c = 0) (by
      apply Classical.byContradiction
      intro z
      exact h fun c hc hu => z ⟨c, hc, hu⟩)
    have key : ∀ d c, c + d = f → wX_add_32 post x y fc us xs ys wt gp od ed (d + 1) (nI c) := by
      intro d
      induction d with
      | zero =>
        intro c hc
        rw [(by omega : c = f), wX_add_32]
        simp only [ba_in hf, ba_cl hf, true_and, nI_1, forall_eq, dm_n1]
        exact br_f (ba_ge hf) (br_t u (hF f hf u fun c hc z => hl c hc ⟨by omega, z⟩))
      | succ d ih => intro c hc; exact step _ c (by omega) (fun z => hl c (by omega) ⟨by omega, z⟩) (ih (c + 1) (by omega))
    exact ⟨f + 1, key f 0 (by omega)⟩
theorem st_57 {J : Int32 → Int32 → Prop} {x1 x2 x3 : Int32} {c : Nat} (hc : c < 24) (h0 : us c = 0 → J (nI c) (nI c + (-1))) (h1 : us c ≠ 0 → J x3 (nI c + (-1))) : wY_add_57 postY J x1 x2 x3 (nI c) us xs ys wy := by
  simp only [wY_add_57, ba_in hc, ba_cl hc, true_and, forall_eq]
  exact ⟨h0, h1⟩
theorem st_m1 : nI 0 + (-1) < 0 := by decide
theorem st_addY {x y : Int32} (hd : ¬ ∃ c, c < 24 ∧ st_dup us xs ys x y c) (hN : (∀ c, c < 24 → us c ≠ 0) → postY (-3) (us, xs, ys, wy))
    (hF : ∀ f, f < 24 → us f = 0 → (∀ c, c < f → us c ≠ 0) → postY (nI f) (upd us f 1, upd xs f x, upd ys f y, wy)) :
    ∀ k, k ≤ 24 → ∀ fr : Int32, ((fr = -1 ∧ ∀ j, k ≤ j → j < 24 → us j ≠ 0) ∨ (∃ f, k ≤ f ∧ f < 24 ∧ fr = nI f ∧ us f = 0 ∧ ∀ j, k ≤ j → j < f → us j ≠ 0)) →
      wY_add_17 postY x y us xs ys wy (k + 1) fr (nI k + (-1)) := by
  intro k
  induction k with
  | zero =>
    intro _ fr hfr
    rw [wY_add_17]
    refine br_t st_m1 ?_
    rcases hfr with ⟨rfl, h⟩ | ⟨f, _, hf, rfl, u, h⟩
    · exact br_f (by decide) (hN fun c hc => h c (by omega) hc)
    · simp only [ba_in hf, ba_cl hf, true_and, nI_1, forall_eq, dm_n1]
      exact br_t (nI_pos' (by omega)) (hF f hf u fun c hc => h c (by omega) hc)
  | succ k ih =>
    intro hk fr hfr
    have hk' : k < 24 := by omega
    rw [dm_m1, wY_add_17]
    have G : wY_add_57 postY (wY_add_17 postY x y us xs ys wy (k + 1)) x y fr (nI k) us xs ys wy := by
      refine st_57 hk' (fun u => ih (by omega) _ (Or.inr ⟨k, by omega, hk', rfl, u, fun j h1 h2 => by omega⟩)) (fun u => ih (by omega) _ ?_)
      rcases hfr with ⟨e, h⟩ | ⟨f, h1, hf, e, v, h⟩
      · refine Or.inl ⟨e, fun j h1 h2 => ?_⟩
        by_cases hj : j = k
        · exact hj ▸ u
        · exact h j (by omega) h2
      · refine Or.inr ⟨f, by omega, hf, e, v, fun j h1 h2 => ?_⟩
        by_cases hj : j = k
        · exact hj ▸ u
        · exact h j (by omega) h2
    simp only [ba_in hk', ba_cl hk', true_and]
    exact br_f (ba_nn hk') ⟨fun _ => G, fun u1 => ⟨fun u2 => ⟨fun u3 => absurd ⟨k, hk', u1, u2, u3⟩ hd, fun _ => G⟩, fun _ => G⟩⟩
theorem st_addYd {x y : Int32} (hd : ∃ c, c < 24 ∧ st_dup us xs ys x y c) (hD : postY (-2) (us, xs, ys, wy)) (fr : Int32) : ∃ n, wY_add_17 postY x y us xs ys wy n fr 23 := by
  have key : ∀ k, k ≤ 24 → (∃ c, c < k ∧ st_dup us xs ys x y c) → ∀ fr : Int32, wY_add_17 postY x y us xs ys wy (k + 1) fr (nI k + (-1)) := by
    intro k
    induction k with
    | zero => rintro _ ⟨c, hc, _⟩; omega
    | succ k ih =>
      rintro hk ⟨c, hc, u1, u2, u3⟩ fr
      have hk' : k < 24 := by omega
      rw [dm_m1, wY_add_17]
      simp only [ba_in hk', ba_cl hk', true_and]
      by_cases e : c = k
      · subst e
        exact br_f (ba_nn hk') (br_f u1 (br_t u2 (br_t u3 hD)))
      · have G : wY_add_57 postY (wY_add_17 postY x y us xs ys wy (k + 1)) x y fr (nI k) us xs ys wy :=
          st_57 hk' (fun _ => ih (by omega) ⟨c, by omega, u1, u2, u3⟩ _) (fun _ => ih (by omega) ⟨c, by omega, u1, u2, u3⟩ _)
        exact br_f (ba_nn hk') ⟨fun _ => G, fun _ => ⟨fun _ => ⟨fun _ => hD, fun _ => G⟩, fun _ => G⟩⟩
  have := key 24 (by omega) hd fr
  rw [show nI 24 + (-1) = 23 from by decide] at this
  exact ⟨25, this⟩
end
end
section
/-! the numbers, and the owed statements of the methods that grow no tree -/
theorem nz_sub {x y : Int32} (hx : 0 ≤ x.toInt ∧ x.toInt ≤ 127) (hy : 0 ≤ y.toInt ∧ y.toInt ≤ 127) : (x - y).toInt = x.toInt - y.toInt := by
  rw [Int32.toInt_sub]
  exact Int.bmod_eq_of_le (by omega) (by omega)
theorem nz_prod {a b : Int} (ha : -127 ≤ a ∧ a ≤ 127) (hb : -127 ≤ b ∧ b ≤ 127) : -16129 ≤ a * b ∧ a * b ≤ 16129 := by
  have h1 : a.natAbs ≤ 127 := by omega
  have h2 : b.natAbs ≤ 127 := by omega
  have h3 : (a * b).natAbs ≤ 127 * 127 := by rw [Int.natAbs_mul]; exact Nat.mul_le_mul h1 h2
  omega
theorem nz_mul {x y : Int32} (ha : -127 ≤ x.toInt ∧ x.toInt ≤ 127) (hb : -127 ≤ y.toInt ∧ y.toInt ≤ 127) : (x * y).toInt = x.toInt * y.toInt ∧ -16129 ≤ (x * y).toInt ∧ (x * y).toInt ≤ 16129 := by
  have h := nz_prod ha hb
  have e : (x * y).toInt = x.toInt * y.toInt := by
    rw [Int32.toInt_mul]
    exact Int.bmod_eq_of_le (by omega) (by omega)
  exact ⟨e, by omega, by omega⟩
theorem nz_add {x y : Int32} (hx : -16129 ≤ x.toInt ∧ x.toInt ≤ 16129) (hy : -16129 ≤ y.toInt ∧ y.toInt ≤ 16129) : (x + y).toInt = x.toInt + y.toInt := by
  rw [Int32.toInt_add]
  exact Int.bmod_eq_of_le (by omega) (by omega)
theorem nz_sub2 {x y : Int32} (hx : -16129 ≤ x.toInt ∧ x.toInt ≤ 16129) (hy : -16129 ≤ y.toInt ∧ y.toInt ≤ 16129) : (x - y).toInt = x.toInt - y.toInt := by
  rw [Int32.toInt_sub]
  exact Int.bmod_eq_of_le (by omega) (by omega)
theorem nz_0 : (0 : Int32).toInt = 0 := by decide
section
variable {xs ys : Nat → Int32} (hx : ∀ j, 0 ≤ (xs j).toInt ∧ (xs j).toInt ≤ 127) (hy : ∀ j, 0 ≤ (ys j).toInt ∧ (ys j).toInt ≤ 127)
theorem nz_s (xs : Nat → Int32) (hx : ∀ j, 0 ≤ (xs j).toInt ∧ (xs j).toInt ≤ 127) (i j : Nat) : (xs i - xs j).toInt = (xs i).toInt - (xs j).toInt ∧ -127 ≤ (xs i - xs j).toInt ∧ (xs i - xs j).toInt ≤ 127 := by
  have e := nz_sub (hx i) (hx j)
  have := hx i; have := hx j
  omega
theorem nz_o (hx : ∀ j, 0 ≤ (xs j).toInt ∧ (xs j).toInt ≤ 127) (hy : ∀ j, 0 ≤ (ys j).toInt ∧ (ys j).toInt ≤ 127) (a b c : Nat) :
    (dm_o xs ys a b c).toInt = ((xs a).toInt - (xs c).toInt) * ((xs b).toInt - (xs c).toInt) + ((ys a).toInt - (ys c).toInt) * ((ys b).toInt - (ys c).toInt) := by
  have h1 := nz_mul (nz_s xs hx a c).2 (nz_s xs hx b c).2
  have h2 := nz_mul (nz_s ys hy a c).2 (nz_s ys hy b c).2
  unfold dm_o
  rw [nz_add h1.2 h2.2, h1.1, h2.1, (nz_s xs hx a c).1, (nz_s xs hx b c).1, (nz_s ys hy a c).1, (nz_s ys hy b c).1]
theorem nz_t (hx : ∀ j, 0 ≤ (xs j).toInt ∧ (xs j).toInt ≤ 127) (hy : ∀ j, 0 ≤ (ys j).toInt ∧ (ys j).toInt ≤ 127) (a b c : Nat) :
    (dm_t xs ys a b c).toInt = ((xs b).toInt - (xs a).toInt) * ((ys c).toInt - (ys a).toInt) - ((ys b).toInt - (ys a).toInt) * ((xs c).toInt - (xs a).toInt) := by
  have h1 := nz_mul (nz_s xs hx b a).2 (nz_s ys hy c a).2
  have h2 := nz_mul (nz_s ys hy b a).2 (nz_s xs hx c a).2
  unfold dm_t
  rw [nz_sub2 h1.2 h2.2, h1.1, h2.1, (nz_s xs hx b a).1, (nz_s ys hy c a).1, (nz_s ys hy b a).1, (nz_s xs hx c a).1]
theorem nz_d (hx : ∀ j, 0 ≤ (xs j).toInt ∧ (xs j).toInt ≤ 127) (hy : ∀ j, 0 ≤ (ys j).toInt ∧ (ys j).toInt ≤ 127) (a b : Nat) :
    (dm_d xs ys a b).toInt = ((xs a).toInt - (xs b).toInt) * ((xs a).toInt - (xs b).toInt) + ((ys a).toInt - (ys b).toInt) * ((ys a).toInt - (ys b).toInt) := by
  have h1 := nz_mul (nz_s xs hx a b).2 (nz_s xs hx a b).2
  have h2 := nz_mul (nz_s ys hy a b).2 (nz_s ys hy a b).2
  unfold dm_d
  rw [nz_add h1.2 h2.2, h1.1, h2.1, (nz_s xs hx a b).1, (nz_s ys hy a b).1]
end
theorem nz_sq (r s : Int) : 0 ≤ r * r + s * s ∧ (r * r + s * s = 0 → r = 0 ∧ s = 0) := by
  have h1 : r * r = ((r.natAbs * r.natAbs : Nat) : Int) := Int.natAbs_mul_self.symm
  have h2 : s * s = ((s.natAbs * s.natAbs : Nat) : Int) := Int.natAbs_mul_self.symm
  refine ⟨by omega, fun h => ?_⟩
  have h3 : r.natAbs * r.natAbs = 0 := by omega
  have h4 : s.natAbs * s.natAbs = 0 := by omega
  have h5 := Nat.mul_eq_zero.mp h3
  have h6 := Nat.mul_eq_zero.mp h4
  omega
theorem nz_key {p q r s : Int} (h1 : p * r + q * s = 0) (h2 : s * p - r * q = 0) : (p = 0 ∧ q = 0) ∨ (r = 0 ∧ s = 0) := by
  have e1 : p * (r * r + s * s) = 0 := by grind
  have e2 : q * (r * r + s * s) = 0 := by grind
  by_cases z : r * r + s * s = 0
  · exact Or.inr ((nz_sq r s).2 z)
  · exact Or.inl ⟨(Int.mul_eq_zero.mp e1).resolve_right z, (Int.mul_eq_zero.mp e2).resolve_right z⟩
section
variable {fc : Int32} {us xs ys : Nat → Int32}
theorem nz_dot (hok : dm_ok fc us xs ys) {a b c : Nat} (ha : a < 24) (hb : b < 24) (hc : c < 24) (ua : us a ≠ 0) (ub : us b ≠ 0) (uc : us c ≠ 0) (ca : c ≠ a) (cb : c ≠ b) (ht : dm_t xs ys a b c = 0) : dm_o xs ys a b c ≠ 0 := by
  obtain ⟨_, _, hx, hy, hD⟩ := hok
  intro ho
  have e1 := nz_o hx hy a b c
  have e2 := nz_t hx hy a b c
  rw [ho, nz_0] at e1
  rw [ht, nz_0] at e2
  have := nz_key (p := (xs a).toInt - (xs c).toInt) (q := (ys a).toInt - (ys c).toInt) (r := (xs b).toInt - (xs c).toInt) (s := (ys b).toInt - (ys c).toInt) e1.symm (by rw [e2]; grind)
  rcases this with ⟨h1, h2⟩ | ⟨h1, h2⟩
  · exact ca (hD c a hc ha uc ua (Int32.toInt_inj.mp (by omega)) (Int32.toInt_inj.mp (by omega)))
  · exact cb (hD c b hc hb uc ub (Int32.toInt_inj.mp (by omega)) (Int32.toInt_inj.mp (by omega)))
theorem nz_ta (a b : Nat) : dm_t xs ys a b a = 0 := by unfold dm_t; grind
theorem nz_tb (a b : Nat) : dm_t xs ys a b b = 0 := by unfold dm_t; grind
theorem nz_opp0 {t : Int32} : ¬ sc_opp t 0 := by
  intro h
  rcases h with ⟨_, h⟩ | ⟨_, h⟩
  · exact absurd h (by decide)
  · exact h (by decide)
theorem nz_opp0' {t : Int32} : ¬ sc_opp 0 t := by
  intro h
  rcases h with ⟨h, _⟩ | ⟨h, _⟩
  · exact h (by decide)
  · exact h (by decide)
theorem nz_opps {t : Int32} : ¬ sc_opp t t := by
  intro h
  simp only [sc_opp, Int32.le_iff_toInt_le, Int32.lt_iff_toInt_lt, nz_0] at h
  omega
theorem nz_far {a b c : Nat} : (∃ d, d < 24 ∧ sc_farX us xs ys a b c d) ↔ (¬ dm_t xs ys a b c = 0 ∧ ∃ d, d < 24 ∧ sc_farY us xs ys a b c d) := by
  constructor
  · rintro ⟨d, hd, u, ho, hk⟩
    refine ⟨fun z => nz_opp0' (z ▸ ho), d, hd, u, ?_, ?_, ?_, ho, Int64.not_lt.mpr hk⟩
    · rintro rfl; rw [nz_ta] at ho; exact nz_opp0 ho
    · rintro rfl; rw [nz_tb] at ho; exact nz_opp0 ho
    · rintro rfl; exact nz_opps ho
  · rintro ⟨_, d, hd, u, _, _, _, ho, hk⟩
    exact ⟨d, hd, u, ho, Int64.not_lt.mp hk⟩
theorem nz_link (hok : dm_ok fc us xs ys) {a b : Nat} (ha : a < 24) (hb : b < 24) (ua : us a ≠ 0) (ub : us b ≠ 0) {c : Nat} (hc : c < 24) : sc_linkX us xs ys a b c ↔ sc_linkY us xs ys a b c := by
  unfold sc_linkX sc_linkY
  rw [nz_far]
  constructor
  · rintro ⟨u, h1, h2, h3⟩
    refine ⟨u, h1, h2, ?_⟩
    rcases h3 with ⟨h3, h4⟩ | h3
    · refine Or.inl ⟨h4, ?_⟩
      simp only [Int32.le_iff_toInt_le, Int32.lt_iff_toInt_lt, nz_0] at h3 ⊢; omega
    · exact Or.inr h3
  · rintro ⟨u, h1, h2, h3⟩
    refine ⟨u, h1, h2, ?_⟩
    rcases h3 with ⟨h3, h4⟩ | h3
    · have := nz_dot hok ha hb hc ua ub u h1 h2 h3
      have h5 : (dm_o xs ys a b c).toInt ≠ 0 := fun z => this (Int32.toInt_inj.mp (z.trans nz_0.symm))
      refine Or.inl ⟨?_, h3⟩
      simp only [Int32.le_iff_toInt_le, Int32.lt_iff_toInt_lt, nz_0] at h4 ⊢; omega
    · exact Or.inr h3
theorem nz_hs (hok : dm_ok fc us xs ys) : ∀ a b, a < 24 → b < 24 → us a ≠ 0 → us b ≠ 0 → a ≠ b → (sc_hsX us xs ys a b ↔ sc_hsY us xs ys a b) := by
  intro a b ha hb ua ub ab
  constructor
  · intro h
    refine ⟨fun c hc u => ?_, fun c hc u ht => ?_⟩
    · by_cases e1 : c = a
      · rw [e1, nz_ta]; decide
      · by_cases e2 : c = b
        · rw [e2, nz_tb]; decide
        · by_cases g : 0 < dm_t xs ys a b c
          · exact Int32.le_of_lt g
          · rw [(h c hc ⟨u, e1, e2⟩ g).2]; decide
    · by_cases e1 : c = a
      · subst e1
        have : dm_o xs ys c b c = 0 := by unfold dm_o; grind
        rw [this]; decide
      · by_cases e2 : c = b
        · subst e2
          have : dm_o xs ys a c c = 0 := by unfold dm_o; grind
          rw [this]; decide
        · have := (h c hc ⟨u, e1, e2⟩ (by rw [ht]; decide)).1
          simp only [Int32.le_iff_toInt_le, Int32.lt_iff_toInt_lt, nz_0] at this ⊢; omega
  · rintro ⟨h1, h2⟩ c hc ⟨u, ca, cb⟩ g
    have g1 := h1 c hc u
    have ht : dm_t xs ys a b c = 0 := by
      apply Int32.toInt_inj.mp
      simp only [Int32.le_iff_toInt_le, Int32.lt_iff_toInt_lt, nz_0] at g g1 ⊢; omega
    have h3 := h2 c hc u ht
    have := nz_dot hok ha hb hc ua ub u ca cb ht
    have h5 : (dm_o xs ys a b c).toInt ≠ 0 := fun z => this (Int32.toInt_inj.mp (z.trans nz_0.symm))
    refine ⟨?_, ht⟩
    simp only [Int32.le_iff_toInt_le, Int32.lt_iff_toInt_lt, nz_0] at h3 ⊢; omega
theorem nz_dsym (a b : Nat) : dm_d xs ys a b = dm_d xs ys b a := by unfold dm_d; grind
end
end
section
/-! the owed statements of the methods that grow no tree -/
theorem ow_in {p : Int32} (h : ¬ p < 0 ∧ ¬ 127 < p) : 0 ≤ p.toInt ∧ p.toInt ≤ 127 := by
  have e : (127 : Int32).toInt = 127 := by decide
  simp only [Int32.lt_iff_toInt_lt, nz_0, e] at h
  omega
section
variable {fc : Int32} {us xs ys wt gp od ed wy : Nat → Int32} {post : Int32 → Prop}
theorem ow_rT {p : Int32} (h : ¬ p < 0 ∧ ¬ 127 < p) (k : post 1) : wpX_inRange post (fc, us, xs, ys, wt, gp, od, ed) p := by
  simp only [wpX_inRange]
  exact br_f h.1 (br_f h.2 k)
theorem ow_rF {p : Int32} (h : ¬ (¬ p < 0 ∧ ¬ 127 < p)) (k : post 0) : wpX_inRange post (fc, us, xs, ys, wt, gp, od, ed) p := by
  simp only [wpX_inRange]
  exact ⟨fun _ => k, fun z => ⟨fun _ => k, fun y => absurd ⟨z, y⟩ h⟩⟩
theorem ow_oT {p q : Int32} (h : ¬ ((¬ p < 0 ∧ ¬ 127 < p) ∧ (¬ q < 0 ∧ ¬ 127 < q))) (k : post 1) : wpY_outside post (us, xs, ys, wy) p q := by
  simp only [wpY_outside]
  exact ⟨fun _ => k, fun z => ⟨fun _ => k, fun y => ⟨fun _ => k, fun x => ⟨fun w => absurd ⟨⟨z, y⟩, x, Int32.not_lt.mpr w⟩ h, fun _ => k⟩⟩⟩⟩
theorem ow_oF {p q : Int32} (h : (¬ p < 0 ∧ ¬ 127 < p) ∧ (¬ q < 0 ∧ ¬ 127 < q)) (k : post 0) : wpY_outside post (us, xs, ys, wy) p q := by
  simp only [wpY_outside]
  exact br_f h.1.1 (br_f h.1.2 (br_f h.2.1 (br_t (Int32.not_lt.mp h.2.2) k)))
end
theorem ow_addok {fc : Int32} {us xs ys : Nat → Int32} (hok : dm_ok fc us xs ys) {x y : Int32} {f : Nat} (hf : f < 24) (u : us f = 0)
    (hd : ¬ ∃ c, c < 24 ∧ st_dup us xs ys x y c) (hx : 0 ≤ x.toInt ∧ x.toInt ≤ 127) (hy : 0 ≤ y.toInt ∧ y.toInt ≤ 127) :
    dm_ok (fc + 1) (upd us f 1) (upd xs f x) (upd ys f y) := by
  obtain ⟨h1, h2, h3, h4, h5⟩ := hok
  refine ⟨?_, fun j => ?_, fun j => ?_, fun j => ?_, fun i j hi hj ui uj ex ey => ?_⟩
  · have := cn_one (n := 24) (k := f) (P := dm_u (upd us f 1)) (Q := dm_u us) hf fun i _ hi => by unfold dm_u; rw [dm_un hi]
    rw [cn_bF (p := dm_u us f) fun z => z u, cn_bT (p := dm_u (upd us f 1) f) (by unfold dm_u; rw [dm_us]; decide)] at this
    rw [h1, nI_1]
    exact congrArg nI (by omega)
  · by_cases e : j = f
    · rw [e, dm_us]; exact Or.inr rfl
    · rw [dm_un e]; exact h2 j
  · by_cases e : j = f
    · rw [e, dm_us]; exact hx
    · rw [dm_un e]; exact h3 j
  · by_cases e : j = f
    · rw [e, dm_us]; exact hy
    · rw [dm_un e]; exact h4 j
  · by_cases e1 : i = f
    · by_cases e2 : j = f
      · rw [e1, e2]
      · rw [dm_un e2] at uj
        rw [e1, dm_us, dm_un e2] at ex ey
        exact absurd ⟨j, hj, uj, ex.symm, ey.symm⟩ hd
    · by_cases e2 : j = f
      · rw [dm_un e1] at ui
        rw [e2, dm_us, dm_un e1] at ex ey
        exact absurd ⟨i, hi, ui, ex, ey⟩ hd
      · rw [dm_un e1] at ui ex ey
        rw [dm_un e2] at uj ex ey
        exact h5 i j hi hj ui uj ex ey
theorem i_vc_add {k : Nat} {u : SX} {v : SY} (I : i_Rel k u v) (hk : k + 4 ≤ 2048) (v1 : Int32) (v2 : Int32) : wpX_add (fun r u' => wpY_add (fun r' v' => r' = r ∧ i_Rel (k + 4) u' v') v v1 v2) u v1 v2 := by
  obtain ⟨fc, us, xs, ys, wt, gp, od, ed, wy, rfl, rfl, hok⟩ := I
  simp only [wpX_add, wpY_add]
  by_cases h1 : ¬ v1 < 0 ∧ ¬ 127 < v1
  · by_cases h2 : ¬ v2 < 0 ∧ ¬ 127 < v2
    · refine ow_rT h1 (br_f ba_10 (ow_rT h2 (br_f ba_10 (st_holds (fun hd => br_f ba_10 ?_) (fun hd => br_t rfl ?_)))))
      · exact ow_oF ⟨h1, h2⟩ (br_t rfl (st_addYd hd ⟨by trivial, dm_rel hok⟩ _))
      · refine st_addX (fun hN => ?_) (fun f hf u hl => ?_)
        · refine ow_oF ⟨h1, h2⟩ (br_t rfl ⟨25, ?_⟩)
          have := st_addY (postY := fun r' v' => r' = -3 ∧ i_Rel (k + 4) (fc, us, xs, ys, wt, gp, od, ed) v') (wy := wy) hd (fun _ => ⟨by trivial, dm_rel hok⟩) (fun f hf u _ => absurd u (hN f hf)) 24 (by omega) (-1) (Or.inl ⟨rfl, fun j h1 h2 => by omega⟩)
          rw [show nI 24 + (-1) = 23 from by decide] at this
          exact this
        · refine ow_oF ⟨h1, h2⟩ (br_t rfl ⟨25, ?_⟩)
          have R := ow_addok hok hf u hd (ow_in h1) (ow_in h2)
          have := st_addY (postY := fun r' v' => r' = nI f ∧ i_Rel (k + 4) (fc + 1, upd us f 1, upd xs f v1, upd ys f v2, wt, gp, od, ed) v') (wy := wy) hd (fun hN => absurd u (hN f hf)) (fun g hg ug hgl => by
            have e : g = f := by
              rcases Nat.lt_trichotomy g f with h | h | h
              · exact absurd ug (hl g h)
              · exact h
              · exact absurd u (hgl f h)
            rw [e]
            exact ⟨by trivial, dm_rel R⟩) 24 (by omega) (-1) (Or.inl ⟨rfl, fun j h1 h2 => by omega⟩)
          rw [show nI 24 + (-1) = 23 from by decide] at this
          exact this
    · exact ow_rT h1 (br_f ba_10 (ow_rF h2 (br_t rfl (ow_oT (fun z => h2 z.2) (br_f ba_10 ⟨by trivial, dm_rel hok⟩)))))
  · exact ow_rF h1 (br_t rfl (ow_oT (fun z => h1 z.1) (br_f ba_10 ⟨by trivial, dm_rel hok⟩)))
theorem i_vc_remove {k : Nat} {u : SX} {v : SY} (I : i_Rel k u v) (hk : k + 4 ≤ 2048) (v1 : Int32) : wpX_remove (fun r u' => wpY_remove (fun r' v' => r' = r ∧ i_Rel (k + 4) u' v') v v1) u v1 := by
  obtain ⟨fc, us, xs, ys, wt, gp, od, ed, wy, rfl, rfl, hok⟩ := I
  simp only [wpX_remove, wpY_remove]
  by_cases hA : dm_has us v1
  · obtain ⟨a, ha, rfl, ua⟩ := hA
    simp only [ba_in ha, ba_cl ha, true_and, forall_eq, dm_n0]
    have := cn_one (n := 24) (k := a) (P := dm_u (upd us a 0)) (Q := dm_u us) ha fun i _ hi => by unfold dm_u; rw [dm_un hi]
    rw [cn_bT (p := dm_u us a) ua, cn_bF (p := dm_u (upd us a 0) a) (by unfold dm_u; rw [dm_us]; decide)] at this
    have e : fc - 1 = nI (cn_t 24 (dm_u (upd us a 0))) := by
      rw [hok.1, show cn_t 24 (dm_u us) = cn_t 24 (dm_u (upd us a 0)) + 1 by omega, nI_pred]
    refine rx_hasT ha ua (br_f ba_10 (ry_isT ha ua (br_f ba_10 (st_size ⟨e.symm, dm_rel ?_⟩))))
    obtain ⟨h1, h2, h3, h4, h5⟩ := hok
    have N : ∀ j, upd us a 0 j ≠ 0 → us j ≠ 0 := fun j hj => by
      by_cases e : j = a
      · rw [e, dm_us] at hj; exact absurd rfl hj
      · rw [dm_un e] at hj; exact hj
    refine ⟨e, fun j => ?_, h3, h4, fun i j hi hj ui uj => h5 i j hi hj (N i ui) (N j uj)⟩
    by_cases e : j = a
    · rw [e, dm_us]; exact Or.inl rfl
    · rw [dm_un e]; exact h2 j
  · exact rx_hasF hA (br_t rfl (ry_isF hA (br_t rfl ⟨by trivial, dm_rel hok⟩)))
theorem ow_clr (us : Nat → Int32) {i : Nat} : upd (fun j => if j < i then 0 else us j) i 0 = fun j => if j < i + 1 then 0 else us j := by
  funext j
  unfold upd
  by_cases e : j = i
  · rw [if_pos e, if_pos (by omega)]
  · rw [if_neg e]
    by_cases l : j < i
    · exact (if_pos l).trans (if_pos (by omega)).symm
    · exact (if_neg l).trans (if_neg (by omega)).symm
theorem i_vc_clear {k : Nat} {u : SX} {v : SY} (I : i_Rel k u v) (hk : k + 4 ≤ 2048) : wpX_clear (fun u' => wpY_clear (fun v' => i_Rel (k + 4) u' v') v) u := by
  obtain ⟨fc, us, xs, ys, wt, gp, od, ed, wy, rfl, rfl, hok⟩ := I
  simp only [wpX_clear, wpY_clear]
  have R : dm_ok 0 (fun j => if j < 24 then 0 else us j) xs ys := by
    obtain ⟨h1, h2, h3, h4, h5⟩ := hok
    have N : ∀ j, j < 24 → (if j < 24 then (0 : Int32) else us j) = 0 := fun j hj => if_pos hj
    refine ⟨?_, fun j => ?_, h3, h4, fun i j hi hj ui => absurd (N i hi) ui⟩
    · rw [cn_none fun i hi z => z (N i hi)]; rfl
    · by_cases l : j < 24
      · exact Or.inl (if_pos l)
      · have e : (if j < 24 then (0 : Int32) else us j) = us j := if_neg l
        exact (h2 j).imp (fun z => e.trans z) (fun z => e.trans z)
  refine loop_0 (fun n i (s : Nat → Int32) => wX_clear_2 (fun u' => ∃ n2, wY_clear_2 (fun v' => i_Rel (k + 4) u' v') n2 0 us xs ys wy) fc n (nI i) s xs ys wt gp od ed) (fun i s => s = fun j => if j < i then 0 else us j) 24 us ?_ ?_ ?_
  · funext j; rw [if_neg (by omega)]
  · rintro n s rfl
    refine br_t ba_le24 ?_
    refine loop_0 (fun n i (s : Nat → Int32) => wY_clear_2 (fun v' => i_Rel (k + 4) (0, (fun j => if j < 24 then 0 else us j), xs, ys, wt, gp, od, ed) v') n (nI i) s xs ys wy) (fun i s => s = fun j => if j < i then 0 else us j) 24 us ?_ ?_ ?_
    · funext j; rw [if_neg (by omega)]
    · rintro n s rfl
      exact br_t ba_le24 (dm_rel R)
    · rintro n i s hi rfl ih
      rw [wY_clear_2]
      simp only [ba_in hi, ba_cl hi, true_and, nI_1, forall_eq, dm_n0]
      exact br_f (ba_ge hi) (ih _ (ow_clr us))
  · rintro n i s hi rfl ih
    rw [wX_clear_2]
    simp only [ba_in hi, ba_cl hi, true_and, nI_1, forall_eq, dm_n0]
    exact br_f (ba_ge hi) (ih _ (ow_clr us))
theorem i_vc_size {k : Nat} {u : SX} {v : SY} (I : i_Rel k u v) (hk : k + 4 ≤ 2048) : wpX_size (fun r => wpY_size (fun r' => r' = r ∧ i_Rel (k + 4) u v) v) u := by
  obtain ⟨fc, us, xs, ys, wt, gp, od, ed, wy, rfl, rfl, hok⟩ := I
  simp only [wpX_size]
  exact st_size ⟨hok.1.symm, dm_rel hok⟩
theorem i_vc_xOf {k : Nat} {u : SX} {v : SY} (I : i_Rel k u v) (hk : k + 4 ≤ 2048) (v1 : Int32) : wpX_xOf (fun r => wpY_xOf (fun r' => r' = r ∧ i_Rel (k + 4) u v) v v1) u v1 := by
  obtain ⟨fc, us, xs, ys, wt, gp, od, ed, wy, rfl, rfl, hok⟩ := I
  simp only [wpX_xOf, wpY_xOf]
  by_cases hA : dm_has us v1
  · obtain ⟨a, ha, rfl, ua⟩ := hA
    exact rx_hasT ha ua (br_f ba_10 ⟨ba_in ha, ry_isT ha ua (br_f ba_10 ⟨ba_in ha, by trivial, dm_rel hok⟩)⟩)
  · exact rx_hasF hA (br_t rfl (ry_isF hA (br_t rfl ⟨by trivial, dm_rel hok⟩)))
theorem i_vc_yOf {k : Nat} {u : SX} {v : SY} (I : i_Rel k u v) (hk : k + 4 ≤ 2048) (v1 : Int32) : wpX_yOf (fun r => wpY_yOf (fun r' => r' = r ∧ i_Rel (k + 4) u v) v v1) u v1 := by
  obtain ⟨fc, us, xs, ys, wt, gp, od, ed, wy, rfl, rfl, hok⟩ := I
  simp only [wpX_yOf, wpY_yOf]
  by_cases hA : dm_has us v1
  · obtain ⟨a, ha, rfl, ua⟩ := hA
    exact rx_hasT ha ua (br_f ba_10 ⟨ba_in ha, ry_isT ha ua (br_f ba_10 ⟨ba_in ha, by trivial, dm_rel hok⟩)⟩)
  · exact rx_hasF hA (br_t rfl (ry_isF hA (br_t rfl ⟨by trivial, dm_rel hok⟩)))
theorem i_vc_nearest {k : Nat} {u : SX} {v : SY} (I : i_Rel k u v) (hk : k + 4 ≤ 2048) (v1 : Int32) (v2 : Int32) : wpX_nearest (fun r => wpY_nearest (fun r' => r' = r ∧ i_Rel (k + 4) u v) v v1 v2) u v1 v2 := by
  obtain ⟨fc, us, xs, ys, wt, gp, od, ed, wy, rfl, rfl, hok⟩ := I
  simp only [wpX_nearest, wpY_nearest, wpX_closestTo]
  by_cases h1 : ¬ v1 < 0 ∧ ¬ 127 < v1
  · by_cases h2 : ¬ v2 < 0 ∧ ¬ 127 < v2
    · obtain ⟨r, hX, hY⟩ := sn_near (fc := fc) (us := us) (xs := xs) (ys := ys) (wt := wt) (gp := gp) (od := od) (ed := ed) (wy := wy) v1 v2 24 0 rfl (-4) 0 (Or.inl rfl)
      exact ow_rT h1 (br_f ba_10 (ow_rT h2 (br_f ba_10 ⟨25, hX _ (ow_oF ⟨h1, h2⟩ (br_t rfl ⟨25, hY _ ⟨by trivial, dm_rel hok⟩⟩))⟩)))
    · exact ow_rT h1 (br_f ba_10 (ow_rF h2 (br_t rfl (ow_oT (fun z => h2 z.2) (br_f ba_10 ⟨by trivial, dm_rel hok⟩)))))
  · exact ow_rF h1 (br_t rfl (ow_oT (fun z => h1 z.1) (br_f ba_10 ⟨by trivial, dm_rel hok⟩)))
theorem i_vc_neighbour {k : Nat} {u : SX} {v : SY} (I : i_Rel k u v) (hk : k + 4 ≤ 2048) (v1 : Int32) : wpX_neighbour (fun r => wpY_neighbour (fun r' => r' = r ∧ i_Rel (k + 4) u v) v v1) u v1 := by
  obtain ⟨fc, us, xs, ys, wt, gp, od, ed, wy, rfl, rfl, hok⟩ := I
  simp only [wpX_neighbour, wpY_neighbour, wpX_closestTo]
  by_cases hA : dm_has us v1
  · obtain ⟨a, ha, rfl, ua⟩ := hA
    obtain ⟨r, hX, hY⟩ := sn_neigh (fc := fc) (us := us) (xs := xs) (ys := ys) (wt := wt) (gp := gp) (od := od) (ed := ed) (wy := wy) ha 24 0 rfl (-4) 0 (Or.inl rfl)
    simp only [ba_in ha, ba_cl ha, true_and]
    exact rx_hasT ha ua (br_f ba_10 ⟨25, hX _ (ry_isT ha ua (br_f ba_10 ⟨25, hY _ ⟨by trivial, dm_rel hok⟩⟩))⟩)
  · exact rx_hasF hA (br_t rfl (ry_isF hA (br_t rfl ⟨by trivial, dm_rel hok⟩)))
end
section
/-! the owed statements of linked, close, emptyCircle, onHull, hullArea2 -/
theorem ow_ne {a b : Nat} (ha : a < 24) (hb : b < 24) (e : ¬ a = b) : ¬ nI a = nI b := by rw [ba_eq ha hb]; exact e
theorem ow_exI {P Q : Nat → Prop} (h : ∀ c, c < 24 → (P c ↔ Q c)) : (∃ c, c < 24 ∧ P c) ↔ (∃ c, c < 24 ∧ Q c) :=
  ⟨fun ⟨c, hc, p⟩ => ⟨c, hc, (h c hc).mp p⟩, fun ⟨c, hc, p⟩ => ⟨c, hc, (h c hc).mpr p⟩⟩
section
variable {fc : Int32} {us xs ys wt gp od ed wy : Nat → Int32} {post : Int32 → Prop}
theorem ow_linkF {p q : Int32} (h : ¬ (dm_has us p ∧ dm_has us q)) (k : post 0) : wpX_linked post (fc, us, xs, ys, wt, gp, od, ed) p q := by
  simp only [wpX_linked]
  refine ⟨fun _ => k, fun _ => ?_⟩
  by_cases hA : dm_has us p
  · obtain ⟨a, ha, rfl, ua⟩ := hA
    exact rx_hasT ha ua (br_f ba_10 (rx_hasF (fun z => h ⟨⟨a, ha, rfl, ua⟩, z⟩) (br_t rfl k)))
  · exact rx_hasF hA (br_t rfl k)
theorem ow_linkG {p q : Int32} (h : ¬ (dm_has us p ∧ dm_has us q)) (k : post 0) : wpY_linked post (us, xs, ys, wy) p q := by
  simp only [wpY_linked]
  by_cases hA : dm_has us p
  · obtain ⟨a, ha, rfl, ua⟩ := hA
    exact ry_isT ha ua (br_f ba_10 (ry_isF (fun z => h ⟨⟨a, ha, rfl, ua⟩, z⟩) (br_t rfl k)))
  · exact ry_isF hA (br_t rfl k)
theorem ow_closeF {p q : Int32} (h : ¬ (dm_has us p ∧ dm_has us q)) (k : post 0) : wpX_close post (fc, us, xs, ys, wt, gp, od, ed) p q := by
  simp only [wpX_close]
  refine ⟨fun _ => k, fun _ => ?_⟩
  by_cases hA : dm_has us p
  · obtain ⟨a, ha, rfl, ua⟩ := hA
    exact rx_hasT ha ua (br_f ba_10 (rx_hasF (fun z => h ⟨⟨a, ha, rfl, ua⟩, z⟩) (br_t rfl k)))
  · exact rx_hasF hA (br_t rfl k)
theorem ow_closeG {p q : Int32} (h : ¬ (dm_has us p ∧ dm_has us q)) (k : post 0) : wpY_close post (us, xs, ys, wy) p q := by
  simp only [wpY_close]
  by_cases hA : dm_has us p
  · obtain ⟨a, ha, rfl, ua⟩ := hA
    exact ry_isT ha ua (br_f ba_10 (ry_isF (fun z => h ⟨⟨a, ha, rfl, ua⟩, z⟩) (br_t rfl k)))
  · exact ry_isF hA (br_t rfl k)
theorem ow_circF {p q r : Int32} (h : ¬ (dm_has us p ∧ dm_has us q ∧ dm_has us r)) (k : post 0) : wpX_emptyCircle post (fc, us, xs, ys, wt, gp, od, ed) p q r := by
  simp only [wpX_emptyCircle]
  refine ⟨fun _ => k, fun _ => ⟨fun _ => k, fun _ => ⟨fun _ => k, fun _ => ?_⟩⟩⟩
  by_cases hA : dm_has us p
  · obtain ⟨a, ha, rfl, ua⟩ := hA
    refine rx_hasT ha ua (br_f ba_10 ?_)
    by_cases hB : dm_has us q
    · obtain ⟨b, hb, rfl, ub⟩ := hB
      exact rx_hasT hb ub (br_f ba_10 (rx_hasF (fun z => h ⟨⟨a, ha, rfl, ua⟩, ⟨b, hb, rfl, ub⟩, z⟩) (br_t rfl k)))
    · exact rx_hasF hB (br_t rfl k)
  · exact rx_hasF hA (br_t rfl k)
theorem ow_circG {p q r : Int32} (h : ¬ (dm_has us p ∧ dm_has us q ∧ dm_has us r)) (k : post 0) : wpY_emptyCircle post (us, xs, ys, wy) p q r := by
  simp only [wpY_emptyCircle]
  by_cases hA : dm_has us p
  · obtain ⟨a, ha, rfl, ua⟩ := hA
    refine ry_isT ha ua (br_f ba_10 ?_)
    by_cases hB : dm_has us q
    · obtain ⟨b, hb, rfl, ub⟩ := hB
      exact ry_isT hb ub (br_f ba_10 (ry_isF (fun z => h ⟨⟨a, ha, rfl, ua⟩, ⟨b, hb, rfl, ub⟩, z⟩) (br_t rfl k)))
    · exact ry_isF hB (br_t rfl k)
  · exact ry_isF hA (br_t rfl k)
end
theorem i_vc_linked {k : Nat} {u : SX} {v : SY} (I : i_Rel k u v) (hk : k + 4 ≤ 2048) (v1 : Int32) (v2 : Int32) : wpX_linked (fun r => wpY_linked (fun r' => r' = r ∧ i_Rel (k + 4) u v) v v1 v2) u v1 v2 := by
  obtain ⟨fc, us, xs, ys, wt, gp, od, ed, wy, rfl, rfl, hok⟩ := I
  by_cases h : dm_has us v1 ∧ dm_has us v2
  · obtain ⟨⟨a, ha, rfl, ua⟩, b, hb, rfl, ub⟩ := h
    simp only [wpX_linked, wpY_linked]
    by_cases e : a = b
    · subst e
      exact br_t (by trivial) (ry_isT ha ua (br_f ba_10 (ry_isT ha ua (br_f ba_10 (br_t (by trivial) ⟨by trivial, dm_rel hok⟩)))))
    · have n := ow_ne ha hb e
      have E := ow_exI fun c hc => nz_link hok ha hb ua ub (c := c) hc
      refine br_f n (rx_hasT ha ua (br_f ba_10 (rx_hasT hb ub (br_f ba_10 (sx_link ha hb (fun g => ?_) (fun g => ?_))))))
      · exact ry_isT ha ua (br_f ba_10 (ry_isT hb ub (br_f ba_10 (br_f n (sy_link ha hb (fun _ => ⟨by trivial, dm_rel hok⟩) (fun f => absurd (E.mpr f) g))))))
      · exact ry_isT ha ua (br_f ba_10 (ry_isT hb ub (br_f ba_10 (br_f n (sy_link ha hb (fun f => absurd (E.mp g) f) (fun _ => ⟨by trivial, dm_rel hok⟩))))))
  · exact ow_linkF h (ow_linkG h ⟨by trivial, dm_rel hok⟩)
theorem i_vc_close {k : Nat} {u : SX} {v : SY} (I : i_Rel k u v) (hk : k + 4 ≤ 2048) (v1 : Int32) (v2 : Int32) : wpX_close (fun r => wpY_close (fun r' => r' = r ∧ i_Rel (k + 4) u v) v v1 v2) u v1 v2 := by
  obtain ⟨fc, us, xs, ys, wt, gp, od, ed, wy, rfl, rfl, hok⟩ := I
  by_cases h : dm_has us v1 ∧ dm_has us v2
  · obtain ⟨⟨a, ha, rfl, ua⟩, b, hb, rfl, ub⟩ := h
    simp only [wpX_close, wpY_close]
    by_cases e : a = b
    · subst e
      exact br_t (by trivial) (ry_isT ha ua (br_f ba_10 (ry_isT ha ua (br_f ba_10 (br_t (by trivial) ⟨by trivial, dm_rel hok⟩)))))
    · have n := ow_ne ha hb e
      have E : (∃ c, c < 24 ∧ sc_closeX us xs ys a b c) ↔ (∃ c, c < 24 ∧ sc_closeY us xs ys a b c) := ow_exI fun c hc => by
        unfold sc_closeX sc_closeY; rw [nz_dsym c a, nz_dsym c b]
      refine br_f n (rx_hasT ha ua (br_f ba_10 (rx_hasT hb ub (br_f ba_10 (rx_dist ha hb (sx_close ha hb (fun g => ?_) (fun g => ?_)))))))
      · exact ry_isT ha ua (br_f ba_10 (ry_isT hb ub (br_f ba_10 (br_f n (sy_close ha hb (fun _ => ⟨by trivial, dm_rel hok⟩) (fun f => absurd (E.mpr f) g))))))
      · exact ry_isT ha ua (br_f ba_10 (ry_isT hb ub (br_f ba_10 (br_f n (sy_close ha hb (fun f => absurd (E.mp g) f) (fun _ => ⟨by trivial, dm_rel hok⟩))))))
  · exact ow_closeF h (ow_closeG h ⟨by trivial, dm_rel hok⟩)
theorem i_vc_emptyCircle {k : Nat} {u : SX} {v : SY} (I : i_Rel k u v) (hk : k + 4 ≤ 2048) (v1 : Int32) (v2 : Int32) (v3 : Int32) : wpX_emptyCircle (fun r => wpY_emptyCircle (fun r' => r' = r ∧ i_Rel (k + 4) u v) v v1 v2 v3) u v1 v2 v3 := by
  obtain ⟨fc, us, xs, ys, wt, gp, od, ed, wy, rfl, rfl, hok⟩ := I
  by_cases h : dm_has us v1 ∧ dm_has us v2 ∧ dm_has us v3
  · obtain ⟨⟨a, ha, rfl, ua⟩, ⟨b, hb, rfl, ub⟩, c, hc, rfl, uc⟩ := h
    have Y0 : ∀ post : Int32 → Prop, post 0 → (a = b ∨ a = c ∨ b = c ∨ dm_t xs ys a b c = 0) → wpY_emptyCircle post (us, xs, ys, wy) (nI a) (nI b) (nI c) := by
      intro post p h
      simp only [wpY_emptyCircle, ba_eq ha hb, ba_eq ha hc, ba_eq hb hc]
      refine ry_isT ha ua (br_f ba_10 (ry_isT hb ub (br_f ba_10 (ry_isT hc uc (br_f ba_10 ⟨fun _ => p, fun n1 => ⟨fun _ => p, fun n2 => ⟨fun _ => p, fun n3 => ry_turn ha hb hc (br_t ?_ p)⟩⟩⟩)))))
      exact ((h.resolve_left n1).resolve_left n2).resolve_left n3
    by_cases e : a = b ∨ a = c ∨ b = c ∨ dm_t xs ys a b c = 0
    · have Y := Y0 (fun r' => r' = 0 ∧ i_Rel (k + 4) (fc, us, xs, ys, wt, gp, od, ed) (us, xs, ys, wy)) ⟨rfl, dm_rel hok⟩ e
      rw [wpX_emptyCircle]
      simp only [ba_eq ha hb, ba_eq ha hc, ba_eq hb hc]
      refine ⟨fun _ => Y, fun n1 => ⟨fun _ => Y, fun n2 => ⟨fun _ => Y, fun n3 => ?_⟩⟩⟩
      exact rx_hasT ha ua (br_f ba_10 (rx_hasT hb ub (br_f ba_10 (rx_hasT hc uc (br_f ba_10 (rx_turn ha hb hc (br_t (((e.resolve_left n1).resolve_left n2).resolve_left n3) Y)))))))
    · have n1 : ¬ a = b := fun z => e (Or.inl z)
      have n2 : ¬ a = c := fun z => e (Or.inr (Or.inl z))
      have n3 : ¬ b = c := fun z => e (Or.inr (Or.inr (Or.inl z)))
      have n4 : ¬ dm_t xs ys a b c = 0 := fun z => e (Or.inr (Or.inr (Or.inr z)))
      have E : (∃ d, d < 24 ∧ sc_circX us xs ys a b c d) ↔ (∃ d, d < 24 ∧ sc_circY us xs ys a b c d) := ow_exI fun d hd => by
        unfold sc_circX sc_circY; rw [Int64.not_lt]
      simp only [wpX_emptyCircle, wpY_emptyCircle, ba_eq ha hb, ba_eq ha hc, ba_eq hb hc]
      refine br_f n1 (br_f n2 (br_f n3 (rx_hasT ha ua (br_f ba_10 (rx_hasT hb ub (br_f ba_10 (rx_hasT hc uc (br_f ba_10 (rx_turn ha hb hc (br_f n4 (sx_circ ha hb hc (fun g => ?_) (fun g => ?_))))))))))))
      · exact ry_isT ha ua (br_f ba_10 (ry_isT hb ub (br_f ba_10 (ry_isT hc uc (br_f ba_10 (br_f n1 (br_f n2 (br_f n3 (ry_turn ha hb hc (br_f n4 (sy_circ ha hb hc (fun _ => ⟨by trivial, dm_rel hok⟩) (fun f => absurd (E.mpr f) g))))))))))))
      · exact ry_isT ha ua (br_f ba_10 (ry_isT hb ub (br_f ba_10 (ry_isT hc uc (br_f ba_10 (br_f n1 (br_f n2 (br_f n3 (ry_turn ha hb hc (br_f n4 (sy_circ ha hb hc (fun f => absurd (E.mp g) f) (fun _ => ⟨by trivial, dm_rel hok⟩))))))))))))
  · exact ow_circF h (ow_circG h ⟨by trivial, dm_rel hok⟩)
theorem i_vc_onHull {k : Nat} {u : SX} {v : SY} (I : i_Rel k u v) (hk : k + 4 ≤ 2048) (v1 : Int32) : wpX_onHull (fun r => wpY_onHull (fun r' => r' = r ∧ i_Rel (k + 4) u v) v v1) u v1 := by
  obtain ⟨fc, us, xs, ys, wt, gp, od, ed, wy, rfl, rfl, hok⟩ := I
  simp only [wpX_onHull, wpY_onHull]
  by_cases hA : dm_has us v1
  · obtain ⟨a, ha, rfl, ua⟩ := hA
    have E : (∃ b, b < 24 ∧ us b ≠ 0 ∧ b ≠ a ∧ sc_side us xs ys a b) ↔ (∃ b, b < 24 ∧ us b ≠ 0 ∧ b ≠ a ∧ sc_sideY us xs ys a b) := ow_exI fun b hb => by
      unfold sc_side sc_sideY; simp only [Classical.not_not]
      constructor
      · rintro ⟨h1, h2, h3⟩; exact ⟨h1, h2, h3.symm⟩
      · rintro ⟨h1, h2, h3⟩; exact ⟨h1, h2, h3.symm⟩
    refine rx_hasT ha ua (br_f ba_10 ⟨fun g => ?_, fun g => ?_⟩)
    · refine sx_hull ha (fun f => ?_) (fun f => ?_)
      · exact ry_isT ha ua (br_f ba_10 (st_size (br_t (by rw [← hok.1]; exact g) (sy_hull ha (fun _ => ⟨by trivial, dm_rel hok⟩) (fun e => absurd (E.mp f) e)))))
      · exact ry_isT ha ua (br_f ba_10 (st_size (br_t (by rw [← hok.1]; exact g) (sy_hull ha (fun e => absurd (E.mpr e) f) (fun _ => ⟨by trivial, dm_rel hok⟩)))))
    · exact ry_isT ha ua (br_f ba_10 (st_size (br_f (by rw [← hok.1]; exact g) ⟨by trivial, dm_rel hok⟩)))
  · exact rx_hasF hA (br_t rfl (ry_isF hA (br_t rfl ⟨by trivial, dm_rel hok⟩)))
theorem i_vc_hullArea2 {k : Nat} {u : SX} {v : SY} (I : i_Rel k u v) (hk : k + 4 ≤ 2048) : wpX_hullArea2 (fun r => wpY_hullArea2 (fun r' => r' = r ∧ i_Rel (k + 4) u v) v) u := by
  obtain ⟨fc, us, xs, ys, wt, gp, od, ed, wy, rfl, rfl, hok⟩ := I
  obtain ⟨r, hX, hY⟩ := sh_out (fc := fc) (us := us) (xs := xs) (ys := ys) (wt := wt) (gp := gp) (od := od) (ed := ed) (wy := wy) (nz_hs hok) 24 0 0 rfl
  exact ⟨25, hX _ ⟨25, hY _ ⟨rfl, dm_rel hok⟩⟩⟩
end
section
/-! the mathematics of shortest trees: reach within a limit, a tree grown by least ways out, counts -/
def tr_R (U : Nat → Prop) (d : Nat → Nat → Int) (m : Int) (a b : Nat) : Prop := ∀ S : Nat → Prop, S a → (∀ x y, S x → U x → U y → d x y ≤ m → S y) → S b
section
variable {U : Nat → Prop} {d : Nat → Nat → Int} {m : Int}
theorem tr_refl (a : Nat) : tr_R U d m a a := fun _ h _ => h
theorem tr_trans {a b c : Nat} (h : tr_R U d m a b) (k : tr_R U d m b c) : tr_R U d m a c := fun S s t => k S (h S s t) t
theorem tr_hop {a b : Nat} (ua : U a) (ub : U b) (h : d a b ≤ m) : tr_R U d m a b := fun _ s t => t a b s ua ub h
theorem tr_symm (hs : ∀ x y, d x y = d y x) {a b : Nat} (h : tr_R U d m a b) : tr_R U d m b a :=
  h (fun y => tr_R U d m y a) (tr_refl a) fun x y k ux uy e => tr_trans (tr_hop uy ux (by rw [hs]; exact e)) k
theorem tr_mem {a b : Nat} (ua : U a) (h : tr_R U d m a b) : U b := h U ua fun _ _ _ _ uy _ => uy
theorem tr_neg (hd : ∀ x y, U x → U y → x ≠ y → m < d x y) {a b : Nat} (h : tr_R U d m a b) : b = a :=
  h (fun y => y = a) rfl fun x y k ux uy e => Classical.byContradiction fun z => by
    have := hd x y ux uy (fun w => z (w ▸ k)); omega
theorem tr_le {m' : Int} (hm : m ≤ m') {a b : Nat} (h : tr_R U d m a b) : tr_R U d m' a b := fun S s t => h S s fun x y sx ux uy e => t x y sx ux uy (by omega)
end
def tr_P (U : Nat → Prop) (d : Nat → Nat → Int) (s n : Nat) (o : Nat → Nat) (e : Nat → Int) : Prop :=
  (0 < n → o 0 = s ∧ e 0 = 0) ∧ (∀ k, k < n → U (o k)) ∧ (∀ i j, i < n → j < n → o i = o j → i = j) ∧ (∀ v, U v → ∃ k, k < n ∧ o k = v) ∧
  ∀ k, 0 < k → k < n → (∃ t, t < k ∧ e k = d (o t) (o k)) ∧ (∀ t v, t < k → U v → (∀ j, j < k → o j ≠ v) → e k ≤ d (o t) v)
section
variable {U : Nat → Prop} {d : Nat → Nat → Int} {m : Int} {s n : Nat} {o : Nat → Nat} {e : Nat → Int}
theorem tr_cut (hP : tr_P U d s n o e) {k : Nat} (h0 : 0 < k) (hk : k < n) (hm : m < e k) {j y : Nat} (hj : j < k) (h : tr_R U d m (o j) y) : ∃ i, i < k ∧ o i = y := by
  refine h (fun y => ∃ i, i < k ∧ o i = y) ⟨j, hj, rfl⟩ fun x y hx ux uy hd => ?_
  obtain ⟨t, ht, rfl⟩ := hx
  apply Classical.byContradiction
  intro z
  have := (hP.2.2.2.2 k h0 hk).2 t y ht uy fun i hi w => z ⟨i, hi, w⟩
  omega
theorem tr_head (hP : tr_P U d s n o e) {k : Nat} (h0 : 0 < k) (hk : k < n) : m < e k ↔ ∀ j, j < k → ¬ tr_R U d m (o j) (o k) := by
  constructor
  · intro hm j hj h
    obtain ⟨i, hi, he⟩ := tr_cut hP h0 hk hm hj h
    have := hP.2.2.1 i k (by omega) hk he
    omega
  · intro h
    apply Classical.byContradiction
    intro z
    obtain ⟨⟨t, ht, he⟩, _⟩ := hP.2.2.2.2 k h0 hk
    exact h t ht (tr_hop (hP.2.1 t (by omega)) (hP.2.1 k hk) (by omega))
theorem tr_conn (hP : tr_P U d s n o e) {k : Nat} (hk : k < n) (h : ∀ i, 0 < i → i ≤ k → e i ≤ m) : tr_R U d m s (o k) := by
  induction k using Nat.strongRecOn with
  | ind k ih =>
    by_cases h0 : k = 0
    · subst h0; rw [(hP.1 hk).1]; exact tr_refl s
    · obtain ⟨⟨t, ht, he⟩, _⟩ := hP.2.2.2.2 k (by omega) hk
      refine tr_trans (ih t ht (by omega) fun i h1 h2 => h i h1 (by omega)) (tr_hop (hP.2.1 t (by omega)) (hP.2.1 k hk) ?_)
      have := h k (by omega) (Nat.le_refl k)
      omega
theorem tr_far (hP : tr_P U d s n o e) {j : Nat} (hj : j < n) {L : Int} (h1 : ∀ i, 0 < i → i ≤ j → e i ≤ L) (h2 : L = 0 ∨ ∃ i, 0 < i ∧ i ≤ j ∧ L = e i) (h3 : 0 ≤ L) : L ≤ m ↔ (0 ≤ m ∧ tr_R U d m s (o j)) := by
  constructor
  · intro h
    exact ⟨by omega, tr_conn hP hj fun i a b => by have := h1 i a b; omega⟩
  · rintro ⟨h0, h⟩
    apply Classical.byContradiction
    intro z
    rcases h2 with h2 | ⟨i, a, b, h2⟩
    · omega
    · rw [← (hP.1 (by omega)).1] at h
      obtain ⟨i', hi, he⟩ := tr_cut hP a (by omega) (by omega : m < e i) a h
      have := hP.2.2.1 i' j (by omega) hj he
      omega
theorem tr_grp (hP : tr_P U d s n o e) {q : Nat} (h0 : 0 < q) (hq : q ≤ n) (h1 : ∀ i, 0 < i → i < q → e i ≤ m) (h2 : q = n ∨ m < e q) {y : Nat} (uy : U y) : tr_R U d m s y ↔ ∃ i, i < q ∧ o i = y := by
  constructor
  · intro h
    by_cases e1 : q = n
    · rw [e1]; exact hP.2.2.2.1 y uy
    · rw [← (hP.1 (by omega)).1] at h
      exact tr_cut hP h0 (by omega) (h2.resolve_left e1) h0 h
  · rintro ⟨i, hi, rfl⟩
    exact tr_conn hP (by omega) fun j a b => h1 j a (by omega)
end
theorem cn_ph {m : Nat} {P : Nat → Prop} (F : Nat → Nat → Prop) : ∀ (n : Nat) (Q : Nat → Prop), (∀ i, i < n → P i → ∃ j, j < m ∧ Q j ∧ F i j) →
    (∀ i i' j, i < n → i' < n → P i → P i' → F i j → F i' j → i = i') → cn_t n P ≤ cn_t m Q := by
  intro n
  induction n with
  | zero => intro Q _ _; exact Nat.zero_le _
  | succ n ih =>
    intro Q h hi
    rw [cn_S]
    by_cases p : P n
    · obtain ⟨j, hj, qj, fj⟩ := h n (by omega) p
      have h1 := ih (fun x => Q x ∧ x ≠ j) (fun i li pi => by
        obtain ⟨j', a, b, c⟩ := h i (by omega) pi
        refine ⟨j', a, ⟨b, fun z => ?_⟩, c⟩
        have := hi i n j (by omega) (by omega) pi p (z ▸ c) fj
        omega) (fun i i' j a b => hi i i' j (by omega) (by omega))
      have h2 := cn_one (n := m) (k := j) (P := fun x => Q x ∧ x ≠ j) (Q := Q) hj fun i _ ne => ⟨fun z => z.1, fun z => ⟨z, ne⟩⟩
      rw [cn_bT qj, cn_bF (p := Q j ∧ j ≠ j) fun z => z.2 rfl] at h2
      rw [cn_bT p]
      omega
    · rw [cn_bF p]
      have := ih Q (fun i li => h i (by omega)) (fun i i' j a b => hi i i' j (by omega) (by omega))
      omega
theorem tr_min {E : Nat → Nat → Prop} (er : ∀ a, E a a) (es : ∀ a b, E a b → E b a) (et : ∀ a b c, E a b → E b c → E a c)
    {n1 n2 : Nat} {V1 V2 : Nat → Prop} {o1 o2 : Nat → Nat} (h : ∀ i, i < n1 → V1 i → ∃ j, j < n2 ∧ V2 j ∧ o2 j = o1 i) :
    cn_t n1 (fun i => V1 i ∧ ∀ j, j < i → V1 j → ¬ E (o1 j) (o1 i)) ≤ cn_t n2 (fun i => V2 i ∧ ∀ j, j < i → V2 j → ¬ E (o2 j) (o2 i)) := by
  refine cn_ph (fun i j => E (o2 j) (o1 i)) n1 _ ?_ ?_
  · rintro i hi ⟨v, _⟩
    obtain ⟨j0, h0, v0, e0⟩ := h i hi v
    obtain ⟨j, ⟨vj, ej⟩, hl⟩ := ba_least (fun j => V2 j ∧ E (o2 j) (o1 i)) ⟨j0, v0, by rw [e0]; exact er _⟩
    refine ⟨j, ?_, ⟨vj, fun j' lj vj' ee => hl j' lj ⟨vj', et _ _ _ ee ej⟩⟩, ej⟩
    apply Classical.byContradiction
    intro z
    exact hl j0 (by omega) ⟨v0, by rw [e0]; exact er _⟩
  · rintro i i' j hi hi' ⟨v, k⟩ ⟨v', k'⟩ f f'
    rcases Nat.lt_trichotomy i i' with l | l | l
    · exact absurd (et _ _ _ (es _ _ f) f') (k' i l v)
    · exact l
    · exact absurd (et _ _ _ (es _ _ f') f) (k i' l v')
section
variable {U : Nat → Prop} {d : Nat → Nat → Int} {s n : Nat} {o : Nat → Nat} {e : Nat → Int}
theorem tr_count (hP : tr_P U d s n o e) (hs : ∀ x y, d x y = d y x) (hU : ∀ x, U x → x < 24) (m : Int) :
    cn_t n (fun k => k = 0 ∨ m < e k) = cn_t 24 (fun i => U i ∧ ∀ j, j < i → U j → ¬ tr_R U d m j i) := by
  have e1 : cn_t n (fun k => k = 0 ∨ m < e k) = cn_t n (fun k => True ∧ ∀ j, j < k → True → ¬ tr_R U d m (o j) (o k)) := cn_cong fun k hk => by
    by_cases h0 : k = 0
    · exact ⟨fun _ => ⟨trivial, fun j hj => by omega⟩, fun _ => Or.inl h0⟩
    · have := tr_head (m := m) hP (by omega : 0 < k) hk
      exact ⟨fun z => ⟨trivial, fun j hj _ => this.mp (z.resolve_left h0) j hj⟩, fun z => Or.inr (this.mpr fun j hj => z.2 j hj trivial)⟩
  rw [e1]
  apply Nat.le_antisymm
  · exact tr_min (E := tr_R U d m) (V1 := fun _ => True) (V2 := U) (o1 := o) (o2 := fun i => i) tr_refl (fun _ _ => tr_symm hs) (fun _ _ _ => tr_trans) fun i hi _ => ⟨o i, hU _ (hP.2.1 i hi), hP.2.1 i hi, rfl⟩
  · exact tr_min (E := tr_R U d m) (V1 := U) (V2 := fun _ => True) (o1 := fun i => i) (o2 := o) tr_refl (fun _ _ => tr_symm hs) (fun _ _ _ => tr_trans) fun i hi u => by
      obtain ⟨k, hk, he⟩ := hP.2.2.2.1 i u
      exact ⟨k, hk, trivial, he⟩
end
def tr_B (U : Nat → Prop) (w : Nat → Nat → Int) (bk : Nat → Int) : Prop :=
  ∀ i, i < 24 → ((¬ U i ∨ ¬ ∃ j, j < i ∧ U j) → bk i = -1) ∧ (U i → ∀ j, j < i → U j → bk i ≤ w i j) ∧ (U i → (∃ j, j < i ∧ U j) → ∃ j, j < i ∧ U j ∧ bk i = w i j)
section
variable {U : Nat → Prop} {d w : Nat → Nat → Int} {s n : Nat} {o : Nat → Nat} {e bk : Nat → Int}
theorem tr_G (hP : tr_P U d s n o e) (hs : ∀ x y, d x y = d y x) (hU : ∀ x, U x → x < 24)
    (hw : ∀ i j, U i → U j → ∀ m, w i j ≤ m ↔ (0 ≤ m ∧ tr_R U d m i j)) (hB : tr_B U w bk) {m : Int} (hm : 0 ≤ m) :
    cn_t n (fun k => m < e k) = cn_t 24 (fun i => m < bk i) := by
  by_cases h0 : 0 < n
  · have u0 := hP.2.1 0 h0
    obtain ⟨f, uf, hf⟩ := ba_least U ⟨_, u0⟩
    have lf := hU f uf
    have e1 := tr_count hP hs hU m
    have e2 := cn_one (n := n) (k := 0) (P := fun k => k = 0 ∨ m < e k) (Q := fun k => m < e k) h0 fun i _ ne => ⟨fun z => z.resolve_left ne, Or.inr⟩
    rw [cn_bF (p := m < e 0) (by rw [(hP.1 h0).2]; omega), cn_bT (p := 0 = 0 ∨ m < e 0) (Or.inl rfl)] at e2
    have e3 := cn_one (n := 24) (k := f) (P := fun i => i = f ∨ m < bk i) (Q := fun i => m < bk i) lf fun i _ ne => ⟨fun z => z.resolve_left ne, Or.inr⟩
    have bf : bk f = -1 := (hB f lf).1 (Or.inr fun ⟨j, hj, uj⟩ => hf j hj uj)
    rw [cn_bF (p := m < bk f) (by rw [bf]; omega), cn_bT (p := f = f ∨ m < bk f) (Or.inl rfl)] at e3
    have e4 : cn_t 24 (fun i => U i ∧ ∀ j, j < i → U j → ¬ tr_R U d m j i) = cn_t 24 (fun i => i = f ∨ m < bk i) := cn_cong fun i hi => by
      obtain ⟨b1, b2, b3⟩ := hB i hi
      constructor
      · rintro ⟨u, h⟩
        by_cases ei : i = f
        · exact Or.inl ei
        · have fi : f < i := by
            rcases Nat.lt_trichotomy i f with l | l | l
            · exact absurd u (hf i l)
            · exact absurd l ei
            · exact l
          obtain ⟨j, hj, uj, ej⟩ := b3 u ⟨f, fi, uf⟩
          refine Or.inr ?_
          apply Classical.byContradiction
          intro z
          have := ((hw i j u uj m).mp (by omega)).2
          exact h j hj uj (tr_symm hs this)
      · rintro (h | h)
        · subst h
          exact ⟨uf, fun j hj uj => absurd uj (hf j hj)⟩
        · have u : U i := Classical.byContradiction fun z => by have := b1 (Or.inl z); omega
          refine ⟨u, fun j hj uj r => ?_⟩
          have h1 := (hw i j u uj m).mpr ⟨hm, tr_symm hs r⟩
          have h2 := b2 u j hj uj
          omega
    omega
  · have nu : ∀ i, ¬ U i := fun i u => by
      obtain ⟨k, hk, _⟩ := hP.2.2.2.1 i u
      omega
    have z : n = 0 := by omega
    rw [cn_none (n := 24) fun i hi h => by have := (hB i hi).1 (Or.inl (nu i)); omega]
    rw [z]; rfl
end
def tr_s : Nat → (Nat → Int) → Int
  | 0, _ => 0
  | n + 1, f => tr_s n f + f n
theorem tr_sc {n : Nat} {f g : Nat → Int} (h : ∀ i, i < n → f i = g i) : tr_s n f = tr_s n g := by
  induction n with
  | zero => rfl
  | succ n ih => rw [tr_s, tr_s, ih fun i hi => h i (by omega), h n (by omega)]
theorem tr_cake (f : Nat → Int) (M : Nat) (n : Nat) : tr_s n (fun i => min (max (f i) 0) ((M : Int) + 1)) = tr_s n (fun i => min (max (f i) 0) (M : Int)) + (cn_t n (fun i => (M : Int) < f i) : Int) := by
  induction n with
  | zero => rfl
  | succ n ih =>
    rw [tr_s, tr_s, ih, cn_S]
    by_cases h : (M : Int) < f n
    · rw [cn_bT h]; omega
    · rw [cn_bF h]; omega
theorem tr_cap {n n' : Nat} {f g : Nat → Int} (h : ∀ m : Int, 0 ≤ m → cn_t n (fun i => m < f i) = cn_t n' (fun i => m < g i)) (M : Nat) :
    tr_s n (fun i => min (max (f i) 0) (M : Int)) = tr_s n' (fun i => min (max (g i) 0) (M : Int)) := by
  induction M with
  | zero =>
    have z : ∀ (n : Nat) (f : Nat → Int), tr_s n (fun i => min (max (f i) 0) ((0 : Nat) : Int)) = 0 := by
      intro n f
      induction n with
      | zero => rfl
      | succ n ih => rw [tr_s, ih]; omega
    rw [z, z]
  | succ M ih =>
    have a := tr_cake f M n
    have b := tr_cake g M n'
    have c := h M (by omega)
    rw [show ((M + 1 : Nat) : Int) = (M : Int) + 1 by omega, a, b, ih, c]
theorem tr_bd (f : Nat → Int) (n : Nat) : ∃ M : Nat, ∀ i, i < n → f i ≤ M := by
  induction n with
  | zero => exact ⟨0, fun i hi => by omega⟩
  | succ n ih =>
    obtain ⟨M, h⟩ := ih
    refine ⟨M + (f n).toNat, fun i hi => ?_⟩
    by_cases e : i = n
    · rw [e]; omega
    · have := h i (by omega); omega
theorem tr_sum {n n' : Nat} {f g : Nat → Int} (h : ∀ m : Int, 0 ≤ m → cn_t n (fun i => m < f i) = cn_t n' (fun i => m < g i)) : tr_s n (fun i => max (f i) 0) = tr_s n' (fun i => max (g i) 0) := by
  obtain ⟨M, hM⟩ := tr_bd f n
  obtain ⟨M', hM'⟩ := tr_bd g n'
  have := tr_cap h (M + M')
  rw [tr_sc (g := fun i => max (f i) 0) fun i hi => by have := hM i hi; omega, tr_sc (n := n') (g := fun i => max (g i) 0) fun i hi => by have := hM' i hi; omega] at this
  exact this
theorem cn_split (n : Nat) (P Q : Nat → Prop) : cn_t n P = cn_t n (fun i => P i ∧ Q i) + cn_t n (fun i => P i ∧ ¬ Q i) := by
  induction n with
  | zero => rfl
  | succ n ih =>
    rw [cn_S, cn_S, cn_S, ih]
    by_cases p : P n
    · by_cases q : Q n
      · rw [cn_bT p, cn_bT (p := P n ∧ Q n) ⟨p, q⟩, cn_bF (p := P n ∧ ¬ Q n) fun z => z.2 q]; omega
      · rw [cn_bT p, cn_bF (p := P n ∧ Q n) fun z => q z.2, cn_bT (p := P n ∧ ¬ Q n) ⟨p, q⟩]; omega
    · rw [cn_bF p, cn_bF (p := P n ∧ Q n) fun z => p z.1, cn_bF (p := P n ∧ ¬ Q n) fun z => p z.1]; omega
theorem cn_gt (n q : Nat) : cn_t n (fun i => q < i) = n - (q + 1) := by
  induction n with
  | zero => rw [cn_0]; omega
  | succ n ih =>
    rw [cn_S, ih]
    by_cases h : q < n
    · rw [cn_bT h]; omega
    · rw [cn_bF h]; omega
theorem cn_ge (n q : Nat) : cn_t n (fun i => q ≤ i) = n - q := by
  induction n with
  | zero => rw [cn_0]; omega
  | succ n ih =>
    rw [cn_S, ih]
    by_cases h : q ≤ n
    · rw [cn_bT h]; omega
    · rw [cn_bF h]; omega
theorem tr_la (bk : Nat → Int) {b : Int} (hb : 0 < b) : cn_t 24 (fun j => 0 < bk j) = cn_t 24 (fun j => 0 < bk j ∧ bk j < b) + cn_t 24 (fun j => b - 1 < bk j) ∧
    cn_t 24 (fun j => b - 1 < bk j) = cn_t 24 (fun j => bk j = b) + cn_t 24 (fun j => b < bk j) := by
  refine ⟨?_, ?_⟩
  · rw [cn_split 24 (fun j => 0 < bk j) (fun j => bk j < b), cn_cong (P := fun j => 0 < bk j ∧ ¬ bk j < b) (Q := fun j => b - 1 < bk j) fun i _ => by omega]
  · rw [cn_split 24 (fun j => b - 1 < bk j) (fun j => bk j = b), cn_cong (P := fun j => b - 1 < bk j ∧ bk j = b) (Q := fun j => bk j = b) fun i _ => by omega, cn_cong (P := fun j => b - 1 < bk j ∧ ¬ bk j = b) (Q := fun j => b < bk j) fun i _ => by omega]
section
variable {n k : Nat} {e sA bk : Nat → Int}
theorem tr_kth (hc : ∀ m : Int, cn_t n (fun i => m < sA i) = cn_t n (fun i => m < e i)) (hS : ∀ i j, i ≤ j → j < n → sA i ≤ sA j) (e0 : e 0 = 0) (eP : ∀ i, 0 < i → i < n → 0 < e i)
    (hG : ∀ m : Int, 0 ≤ m → cn_t n (fun i => m < e i) = cn_t 24 (fun i => m < bk i)) (hk : k + 2 ≤ n) :
    (∀ b : Int, 0 < b → cn_t 24 (fun j => 0 < bk j ∧ bk j < b) ≤ k → k < cn_t 24 (fun j => 0 < bk j ∧ bk j < b) + cn_t 24 (fun j => bk j = b) → b = sA (k + 1)) ∧
    (∃ i, i < 24 ∧ bk i = sA (k + 1) ∧ 0 < sA (k + 1) ∧ cn_t 24 (fun j => 0 < bk j ∧ bk j < sA (k + 1)) ≤ k ∧ k < cn_t 24 (fun j => 0 < bk j ∧ bk j < sA (k + 1)) + cn_t 24 (fun j => bk j = sA (k + 1))) := by
  have g0 : cn_t n (fun i => 0 < e i) = n - 1 := by
    rw [cn_cong (P := fun i => 0 < e i) (Q := fun i => 0 < i) fun i hi => ⟨fun h => Nat.pos_of_ne_zero fun z => by rw [z, e0] at h; omega, fun h => eP i h hi⟩]
    have := cn_gt n 0
    omega
  have u1 : ∀ m : Int, sA (k + 1) ≤ m → cn_t n (fun i => m < sA i) ≤ n - (k + 2) := by
    intro m hm
    have := cn_gt n (k + 1)
    rw [show n - (k + 2) = n - (k + 1 + 1) by omega, ← this]
    refine cn_mono fun i hi h => ?_
    apply Classical.byContradiction
    intro z
    have := hS i (k + 1) (by omega) (by omega)
    omega
  have u2 : ∀ m : Int, m < sA (k + 1) → n - (k + 1) ≤ cn_t n (fun i => m < sA i) := by
    intro m hm
    have := cn_ge n (k + 1)
    rw [← this]
    refine cn_mono fun i hi h => ?_
    have := hS (k + 1) i h hi
    omega
  have vp : 0 < sA (k + 1) := by
    apply Classical.byContradiction
    intro z
    have := u1 0 (by omega)
    rw [hc, g0] at this
    omega
  have b0 : cn_t 24 (fun j => 0 < bk j) = n - 1 := by rw [← hG 0 (by omega), g0]
  have B : ∀ m : Int, 0 ≤ m → cn_t n (fun i => m < sA i) = cn_t 24 (fun i => m < bk i) := fun m hm => by rw [hc, hG m hm]
  refine ⟨fun b hb h1 h2 => ?_, ?_⟩
  · obtain ⟨l1, l2⟩ := tr_la bk hb
    have c1 := B (b - 1) (by omega)
    have c2 := B b (by omega)
    by_cases x : sA (k + 1) ≤ b - 1
    · have := u1 (b - 1) x; omega
    · by_cases y : b < sA (k + 1)
      · have := u2 b y; omega
      · omega
  · obtain ⟨l1, l2⟩ := tr_la bk vp
    have c1 := B (sA (k + 1) - 1) (by omega)
    have c2 := B (sA (k + 1)) (by omega)
    have d1 := u1 (sA (k + 1)) (Int.le_refl _)
    have d2 := u2 (sA (k + 1) - 1) (by omega)
    obtain ⟨i, hi, hb⟩ := cn_pos (n := 24) (P := fun j => bk j = sA (k + 1)) (by omega)
    exact ⟨i, hi, hb, vp, by omega, by omega⟩
end
end
section
/-! the component grows its tree -/
def dm_U (us : Nat → Int32) (v : Nat) : Prop := v < 24 ∧ us v ≠ 0
def dm_D (xs ys : Nat → Int32) (i j : Nat) : Int := (dm_d xs ys i j).toInt
def gt_I (U : Nat → Prop) (d : Nat → Nat → Int) (s c k : Nat) (W : Nat → Prop) (G : Nat → Int) (o : Nat → Nat) (e : Nat → Int) : Prop :=
  (∀ i, i < k → U (o i)) ∧ (∀ v, v < 24 → (W v ↔ (U v ∧ ∀ i, i < k → o i ≠ v))) ∧ cn_t 24 W + k = c ∧
  (∀ v, v < 24 → G v ≤ d s v ∧ (∀ i, i < k → G v ≤ d (o i) v) ∧ (G v = d s v ∨ ∃ i, i < k ∧ G v = d (o i) v)) ∧
  (∀ i j, i < k → j < k → o i = o j → i = j) ∧ (0 < k → o 0 = s ∧ e 0 = 0) ∧
  ∀ i, 0 < i → i < k → (∃ t, t < i ∧ e i = d (o t) (o i)) ∧ (∀ t v, t < i → U v → (∀ j, j < i → o j ≠ v) → e i ≤ d (o t) v)
section
variable {U : Nat → Prop} {d : Nat → Nat → Int} {s c k : Nat} {W W' : Nat → Prop} {G G' : Nat → Int} {o o' : Nat → Nat} {e e' : Nat → Int}
theorem gt_step (hU : ∀ v, U v → v < 24) (us : U s) (d0 : d s s = 0) (dp : ∀ v, U v → d s v ≤ 0 → v = s) (h : gt_I U d s c k W G o e) {r : Nat} (hr : r < 24) (wr : W r)
    (hm : ∀ v, v < 24 → W v → G r ≤ G v) (hW : ∀ v, v < 24 → (W' v ↔ (W v ∧ v ≠ r))) (hG : ∀ v, v < 24 → G' v = min (G v) (d r v)) (ho : ∀ i, i < k → o' i = o i) (hok : o' k = r)
    (he : ∀ i, i < k → e' i = e i) (hek : e' k = G r) : gt_I U d s c (k + 1) W' G' o' e' := by
  obtain ⟨h1, h2, h3, h4, h5, h6, h7⟩ := h
  have ur := ((h2 r hr).mp wr).1
  have nr := ((h2 r hr).mp wr).2
  have z0 : k = 0 → r = s := by
    intro k0
    have ws : W s := (h2 s (hU s us)).mpr ⟨us, fun i hi => by omega⟩
    have a := hm s (hU s us) ws
    obtain ⟨_, _, b⟩ := h4 r hr
    obtain ⟨c1, _, _⟩ := h4 s (hU s us)
    refine dp r ur ?_
    rcases b with b | ⟨i, hi, _⟩
    · omega
    · omega
  refine ⟨fun i hi => ?_, fun v hv => ?_, ?_, fun v hv => ?_, fun i j hi hj ee => ?_, fun _ => ?_, fun i h0 hi => ?_⟩
  · by_cases x : i = k
    · rw [x, hok]; exact ur
    · rw [ho i (by omega)]; exact h1 i (by omega)
  · rw [hW v hv, h2 v hv]
    constructor
    · rintro ⟨⟨a, b⟩, n⟩
      refine ⟨a, fun i hi => ?_⟩
      by_cases x : i = k
      · rw [x, hok]; exact fun w => n w.symm
      · rw [ho i (by omega)]; exact b i (by omega)
    · rintro ⟨a, b⟩
      refine ⟨⟨a, fun i hi => ?_⟩, fun w => ?_⟩
      · have := b i (by omega); rw [ho i hi] at this; exact this
      · have := b k (by omega); rw [hok] at this; exact this w.symm
  · have := cn_one (n := 24) (k := r) (P := W') (Q := W) hr fun i hi ne => ⟨fun z => ((hW i hi).mp z).1, fun z => (hW i hi).mpr ⟨z, ne⟩⟩
    rw [cn_bT wr, cn_bF (p := W' r) fun z => ((hW r hr).mp z).2 rfl] at this
    omega
  · obtain ⟨a, b, b'⟩ := h4 v hv
    rw [hG v hv]
    refine ⟨by omega, fun i hi => ?_, ?_⟩
    · by_cases x : i = k
      · rw [x, hok]; omega
      · rw [ho i (by omega)]; have := b i (by omega); omega
    · by_cases x : d r v < G v
      · exact Or.inr ⟨k, by omega, by rw [hok]; omega⟩
      · rcases b' with b' | ⟨i, hi, b'⟩
        · exact Or.inl (by omega)
        · exact Or.inr ⟨i, by omega, by rw [ho i hi]; omega⟩
  · by_cases x : i = k
    · by_cases y : j = k
      · omega
      · rw [x, hok, ho j (by omega)] at ee; exact absurd ee.symm (nr j (by omega))
    · by_cases y : j = k
      · rw [y, hok, ho i (by omega)] at ee; exact absurd ee (nr i (by omega))
      · rw [ho i (by omega), ho j (by omega)] at ee; exact h5 i j (by omega) (by omega) ee
  · by_cases x : k = 0
    · have rs := z0 x
      subst x
      refine ⟨by rw [hok, rs], ?_⟩
      rw [hek]
      obtain ⟨_, _, b⟩ := h4 r hr
      rcases b with b | ⟨i, hi, _⟩
      · rw [b, rs]; exact d0
      · omega
    · rw [ho 0 (by omega), he 0 (by omega)]; exact h6 (by omega)
  · by_cases x : i = k
    · subst x
      rw [hek, hok]
      refine ⟨?_, fun t v ht uv nv => ?_⟩
      · obtain ⟨_, _, b⟩ := h4 r hr
        rcases b with b | ⟨j, hj, b⟩
        · exact ⟨0, h0, by rw [ho 0 h0, (h6 h0).1]; exact b⟩
        · exact ⟨j, hj, by rw [ho j hj]; exact b⟩
      · rw [ho t ht]
        have wv : W v := (h2 v (hU v uv)).mpr ⟨uv, fun j hj => by have := nv j hj; rw [ho j hj] at this; exact this⟩
        have a := hm v (hU v uv) wv
        have b := (h4 v (hU v uv)).2.1 t ht
        omega
    · obtain ⟨⟨t, ht, a⟩, b⟩ := h7 i h0 (by omega)
      refine ⟨⟨t, ht, by rw [he i (by omega), ho t (by omega), ho i (by omega)]; exact a⟩, fun t v ht uv nv => ?_⟩
      rw [he i (by omega), ho t (by omega)]
      exact b t v ht uv fun j hj => by have := nv j hj; rw [ho j (by omega)] at this; exact this
theorem gt_end (hU : ∀ v, U v → v < 24) (h : gt_I U d s c c W G o e) : tr_P U d s c o e := by
  obtain ⟨h1, h2, h3, h4, h5, h6, h7⟩ := h
  refine ⟨h6, h1, h5, fun v uv => ?_, h7⟩
  apply Classical.byContradiction
  intro z
  have wv : W v := (h2 v (hU v uv)).mpr ⟨uv, fun i hi w => z ⟨i, hi, w⟩⟩
  exact cn_zero (n := 24) (P := W) (by omega) v (hU v uv) wv
end
section
variable {fc : Int32} {us xs ys wt gp od ed wy : Nat → Int32} {post : Int32 → Prop} {postS : SX → Prop}
theorem gx_next {s : Nat} (hs : s < 24) (hw : ∃ v, v < 24 ∧ wt v ≠ 0) (h : ∀ r, r < 24 → wt r ≠ 0 → (∀ v, v < 24 → wt v ≠ 0 → (gp r).toInt ≤ (gp v).toInt) → post (nI r)) :
    wpX_nextWaiting post (fc, us, xs, ys, wt, gp, od, ed) (nI s) := by
  simp only [wpX_nextWaiting]
  refine loop_0 (fun n i (b : Nat) => wX_nextWaiting_4 post fc us xs ys wt gp od ed n (nI b) (nI i)) (fun i b => b < 24 ∧ ∀ v, v < i → wt v ≠ 0 → wt b ≠ 0 ∧ (gp b).toInt ≤ (gp v).toInt) 24 s ⟨hs, fun v hv => by omega⟩ ?_ ?_
  · rintro n b ⟨hb, hI⟩
    obtain ⟨v, hv, wv⟩ := hw
    exact br_t ba_le24 (h b hb (hI v hv wv).1 fun v hv wv => (hI v hv wv).2)
  · rintro n c b hc ⟨hb, hI⟩ ih
    rw [wX_nextWaiting_4]
    simp only [ba_in hc, ba_cl hc, ba_in hb, ba_cl hb, true_and, nI_1, forall_eq]
    refine br_f (ba_ge hc) ⟨fun wc => ih b ⟨hb, fun v hv wv => ?_⟩, fun wc => ⟨fun wb => ih c ⟨hc, fun v hv wv => ?_⟩, fun wb => ⟨fun g => ih b ⟨hb, fun v hv wv => ?_⟩, fun g => ih c ⟨hc, fun v hv wv => ?_⟩⟩⟩⟩
    · by_cases x : v = c
      · rw [x] at wv; exact absurd wc wv
      · exact hI v (by omega) wv
    · by_cases x : v = c
      · rw [x]; exact ⟨wc, Int.le_refl _⟩
      · exact absurd wb (hI v (by omega) wv).1
    · by_cases x : v = c
      · rw [x]; exact ⟨wb, Int32.le_iff_toInt_le.mp g⟩
      · exact hI v (by omega) wv
    · by_cases x : v = c
      · rw [x]; exact ⟨wc, Int.le_refl _⟩
      · have := (hI v (by omega) wv).2
        rw [Int32.le_iff_toInt_le] at g
        exact ⟨wc, by omega⟩
theorem gx_narrow {t : Nat} (ht : t < 24) (h : ∀ g : Nat → Int32, (∀ v, v < 24 → (g v).toInt = min (gp v).toInt (dm_D xs ys t v)) → postS (fc, us, xs, ys, wt, g, od, ed)) :
    wpX_narrowGaps postS (fc, us, xs, ys, wt, gp, od, ed) (nI t) := by
  simp only [wpX_narrowGaps]
  refine loop_0 (fun n i (g : Nat → Int32) => wX_narrowGaps_2 postS (nI t) fc n (nI i) us xs ys wt g od ed) (fun i g => (∀ v, v < i → (g v).toInt = min (gp v).toInt (dm_D xs ys t v)) ∧ ∀ v, i ≤ v → g v = gp v) 24 gp ⟨fun v hv => by omega, fun v _ => rfl⟩ ?_ ?_
  · rintro n g ⟨hg, _⟩
    exact br_t ba_le24 (h g hg)
  · rintro n c g hc ⟨h1, h2⟩ ih
    rw [wX_narrowGaps_2]
    simp only [ba_in hc, ba_cl hc, true_and, nI_1, forall_eq]
    have gc := h2 c (Nat.le_refl c)
    refine br_f (ba_ge hc) (rx_dist ht hc ⟨fun q => ih g ⟨fun v hv => ?_, fun v hv => h2 v (by omega)⟩, fun q => ih _ ⟨fun v hv => ?_, fun v hv => ?_⟩⟩)
    · by_cases x : v = c
      · rw [Int32.le_iff_toInt_le] at q
        rw [x, gc]; rw [gc] at q; unfold dm_D; omega
      · exact h1 v (by omega)
    · by_cases x : v = c
      · rw [Int32.le_iff_toInt_le] at q
        rw [gc] at q
        rw [x, dm_us]; unfold dm_D; omega
      · rw [dm_un x]; exact h1 v (by omega)
    · rw [dm_un (by omega)]; exact h2 v (by omega)
theorem gx_nar {x : Int32} (h : x = 0 ∨ x = 1) : vp_nar .boolean x = x := by
  rcases h with rfl | rfl
  · exact dm_n0
  · exact dm_n1
theorem gx_loop {c s : Nat} (hc : c ≤ 24) (hs : s < 24) (us' : 0 < c → us s ≠ 0) (d0 : dm_D xs ys s s = 0) (dp : ∀ v, dm_U us v → dm_D xs ys s v ≤ 0 → dm_U us s → v = s)
    (h : ∀ (wt gp od ed : Nat → Int32) (o : Nat → Nat), (∀ i, i < c → od i = nI (o i)) → tr_P (dm_U us) (dm_D xs ys) s c o (fun i => (ed i).toInt) → postS (nI c, us, xs, ys, wt, gp, od, ed))
    (hI : ∃ o, gt_I (dm_U us) (dm_D xs ys) s c 0 (dm_u wt) (fun v => (gp v).toInt) o (fun i => (ed i).toInt)) :
    ∃ n, wX_growTree_40 postS (nI s) n 0 (nI c) us xs ys wt gp od ed := by
  refine loop_0 (fun n i (q : (Nat → Int32) × (Nat → Int32) × (Nat → Int32) × (Nat → Int32)) => wX_growTree_40 postS (nI s) n (nI i) (nI c) us xs ys q.1 q.2.1 q.2.2.1 q.2.2.2)
    (fun i q => ∃ o : Nat → Nat, (∀ j, j < i → q.2.2.1 j = nI (o j)) ∧ gt_I (dm_U us) (dm_D xs ys) s c i (dm_u q.1) (fun v => (q.2.1 v).toInt) o (fun j => (q.2.2.2 j).toInt)) c (wt, gp, od, ed) ?_ ?_ ?_
  · obtain ⟨o, ho⟩ := hI
    exact ⟨o, fun j hj => by omega, ho⟩
  · rintro n ⟨wt, gp, od, ed⟩ ⟨o, ho, hg⟩
    dsimp only at ho hg ⊢
    rw [wX_growTree_40]
    exact br_t (nI_le (Nat.le_refl c) (by omega)) (h wt gp od ed o ho (gt_end (fun v hv => hv.1) hg))
  · rintro n k ⟨wt, gp, od, ed⟩ hk ⟨o, ho, hg⟩ ih
    dsimp only at ho hg ⊢
    have hk' : k < 24 := by omega
    have hwe : ∃ v, v < 24 ∧ wt v ≠ 0 := cn_pos (n := 24) (P := dm_u wt) (by have := hg.2.2.1; omega)
    rw [wX_growTree_40]
    refine br_f (nI_ge hk (by omega)) (gx_next hs hwe fun r hr wr hm => ?_)
    simp only [ba_in hk', ba_cl hk', ba_in hr, ba_cl hr, true_and, nI_1, forall_eq, dm_n0]
    refine gx_narrow hr fun g hgg => ?_
    dsimp only
    have usr : dm_U us s := ⟨hs, us' (by omega)⟩
    refine ih (upd wt r 0, g, upd od k (nI r), upd ed k (gp r)) ⟨fun j => if j = k then r else o j, fun j hj => ?_, ?_⟩
    · dsimp only
      by_cases x : j = k
      · rw [x, dm_us, if_pos rfl]
      · rw [dm_un x, if_neg x]; exact ho j (by omega)
    · dsimp only
      refine gt_step (fun v hv => hv.1) usr d0 (fun v uv hv => dp v uv hv usr) hg hr wr hm (fun v hv => ?_) hgg (fun i hi => if_neg (by omega)) (if_pos rfl) (fun i hi => ?_) ?_
      · unfold dm_u
        by_cases x : v = r
        · rw [x, dm_us]; exact ⟨fun z => absurd rfl z, fun z => absurd rfl z.2⟩
        · rw [dm_un x]; exact ⟨fun z => ⟨z, x⟩, fun z => z.1⟩
      · rw [dm_un (by omega)]
      · rw [dm_us]
theorem gx_grow {s : Nat} (hok : dm_ok fc us xs ys) (hs : s < 24) (us' : 0 < cn_t 24 (dm_u us) → us s ≠ 0)
    (h : ∀ (wt gp od ed : Nat → Int32) (o : Nat → Nat), (∀ i, i < cn_t 24 (dm_u us) → od i = nI (o i)) → tr_P (dm_U us) (dm_D xs ys) s (cn_t 24 (dm_u us)) o (fun i => (ed i).toInt) → postS (fc, us, xs, ys, wt, gp, od, ed)) :
    wpX_growTree postS (fc, us, xs, ys, wt, gp, od, ed) (nI s) := by
  obtain ⟨h1, h2, h3, h4, h5⟩ := hok
  subst h1
  simp only [wpX_growTree]
  refine loop_0 (fun n i (q : (Nat → Int32) × (Nat → Int32)) => wX_growTree_2 postS (nI s) (nI (cn_t 24 (dm_u us))) n (nI i) us xs ys q.1 q.2 od ed)
    (fun i q => ∀ v, v < i → q.1 v = us v ∧ q.2 v = dm_d xs ys s v) 24 (wt, gp) (fun v hv => by omega) ?_ ?_
  · rintro n ⟨wt, gp⟩ hq
    dsimp only at hq ⊢
    rw [wX_growTree_2]
    refine br_t ba_le24 (gx_loop (cn_le 24 _) hs us' ?_ ?_ h ⟨fun _ => 0, ?_⟩)
    · unfold dm_D; rw [nz_d h3 h4]; simp
    · intro v uv hv usr
      unfold dm_D at hv
      rw [nz_d h3 h4] at hv
      obtain ⟨g1, g2⟩ := nz_sq ((xs s).toInt - (xs v).toInt) ((ys s).toInt - (ys v).toInt)
      obtain ⟨g3, g4⟩ := g2 (by omega)
      exact h5 v s uv.1 hs uv.2 usr.2 (Int32.toInt_inj.mp (by omega)) (Int32.toInt_inj.mp (by omega))
    · refine ⟨fun i hi => by omega, fun v hv => ?_, ?_, fun v hv => ?_, fun i j hi => by omega, fun z => by omega, fun i a b => by omega⟩
      · unfold dm_u dm_U
        rw [(hq v hv).1]
        exact ⟨fun z => ⟨⟨hv, z⟩, fun i hi => by omega⟩, fun z => z.1.2⟩
      · rw [Nat.add_zero]
        exact cn_cong fun v hv => by unfold dm_u; rw [(hq v hv).1]
      · have e : (gp v).toInt = dm_D xs ys s v := by rw [(hq v hv).2]; rfl
        exact ⟨Int.le_of_eq e, fun i hi => by omega, Or.inl e⟩
  · rintro n c ⟨wt, gp⟩ hc hq ih
    dsimp only at hq ⊢
    rw [wX_growTree_2]
    simp only [ba_in hc, ba_cl hc, true_and, nI_1, forall_eq]
    refine br_f (ba_ge hc) (rx_dist hs hc ?_)
    refine ih (upd wt c (vp_nar .boolean (us c)), upd gp c (dm_d xs ys s c)) fun v hv => ?_
    dsimp only
    by_cases x : v = c
    · rw [x, dm_us, dm_us, gx_nar (h2 c)]; exact ⟨rfl, rfl⟩
    · rw [dm_un x, dm_un x]; exact hq v (by omega)
theorem gx_any (hok : dm_ok fc us xs ys)
    (h : ∀ (wt gp od ed : Nat → Int32) (s : Nat) (o : Nat → Nat), (∀ i, i < cn_t 24 (dm_u us) → od i = nI (o i)) → tr_P (dm_U us) (dm_D xs ys) s (cn_t 24 (dm_u us)) o (fun i => (ed i).toInt) → postS (fc, us, xs, ys, wt, gp, od, ed)) :
    wpX_growTreeAnywhere postS (fc, us, xs, ys, wt, gp, od, ed) := by
  simp only [wpX_growTreeAnywhere]
  refine loop_m (fun n (i : Nat) => wX_growTreeAnywhere_2 postS fc us xs ys wt gp od ed n (nI i)) (fun i => i ≤ 23 ∧ ∀ v, v < i → us v = 0) (fun i => 23 - i) ?_ 0 ⟨by omega, fun v hv => by omega⟩
  rintro n i ⟨hi, hz⟩ ih
  have hi' : i < 24 := by omega
  have G : (us i ≠ 0 ∨ i = 23) → wX_growTreeAnywhere_23 postS (nI i) fc us xs ys wt gp od ed := by
    intro hu
    simp only [wX_growTreeAnywhere_23]
    refine gx_grow hok hi' (fun hp => ?_) fun wt gp od ed o ho hP => h wt gp od ed i o ho hP
    rcases hu with hu | hu
    · exact hu
    · obtain ⟨v, hv, uv⟩ := cn_pos hp
      by_cases x : v = i
      · rw [← x]; exact uv
      · exact absurd (hz v (by omega)) uv
  rw [wX_growTreeAnywhere_2]
  simp only [ba_in hi', ba_cl hi', true_and, nI_1, forall_eq]
  by_cases x : i = 23
  · refine br_t ?_ (G (Or.inr x))
    rw [x]; decide
  · refine br_f (nI_ge (b := 23) (by omega) (by decide)) ⟨fun u => ih (i + 1) ⟨by omega, fun v hv => ?_⟩ (by omega), fun u => G (Or.inl u)⟩
    by_cases y : v = i
    · rw [y]; exact u
    · exact hz v (by omega)
end
end
section
/-! the reference reckons its ways -/
theorem wa_ix (i j : Nat) : nI i * 24 + nI j = nI (i * 24 + j) := by
  rw [show (24 : Int32) = nI 24 from by decide, show nI i * nI 24 = nI (i * 24) from (Int32.ofNat_mul i 24).symm, nI_add]
theorem wa_in {i j : Nat} (hi : i < 24) (hj : j < 24) : vp_in (nI (i * 24 + j)) 576 := vp_in_nI (by omega) (by decide)
theorem wa_cl {i j : Nat} (hi : i < 24) (hj : j < 24) : (nI (i * 24 + j)).toNatClampNeg = i * 24 + j := nI_clamp (by omega)
def wa_w (a : Nat → Int32) (i j : Nat) : Int := (a (i * 24 + j)).toInt
def wa_N (w : Nat → Nat → Int) (k p q : Nat) : Int := min (w p q) (max (w p k) (w k q))
theorem wa_ne {p q i j : Nat} (hq : q < 24) (hj : j < 24) (h : ¬ (p = i ∧ q = j)) : p * 24 + q ≠ i * 24 + j := by omega
def wa_I (U : Nat → Prop) (d : Nat → Nat → Int) (k : Nat) (w : Nat → Nat → Int) : Prop :=
  (∀ p q, p < 24 → q < 24 → 0 ≤ w p q ∧ w p q ≤ d p q) ∧ (∀ p q, U p → U q → tr_R U d (w p q) p q) ∧ (∀ k', k' < k → U k' → ∀ p q, p < 24 → q < 24 → w p q ≤ max (w p k') (w k' q))
section
variable {U : Nat → Prop} {d w w' : Nat → Nat → Int} {k : Nat}
theorem wa_skip (h : wa_I U d k w) (hk : ¬ U k) : wa_I U d (k + 1) w := by
  refine ⟨h.1, h.2.1, fun k' l u => ?_⟩
  by_cases x : k' = k
  · rw [x] at u; exact absurd u hk
  · exact h.2.2 k' (by omega) u
theorem wa_step (hU : ∀ x, U x → x < 24) (h : wa_I U d k w) (hk : U k) (hw : ∀ p q, p < 24 → q < 24 → w' p q = wa_N w k p q) : wa_I U d (k + 1) w' := by
  obtain ⟨h1, h2, h3⟩ := h
  have lk := hU k hk
  refine ⟨fun p q hp hq => ?_, fun p q up uq => ?_, fun k' l u p q hp hq => ?_⟩
  · rw [hw p q hp hq]
    have a := h1 p q hp hq; have b := h1 p k hp lk; have c := h1 k q lk hq
    unfold wa_N; omega
  · rw [hw p q (hU p up) (hU q uq)]
    unfold wa_N
    by_cases x : w p q ≤ max (w p k) (w k q)
    · rw [show min (w p q) (max (w p k) (w k q)) = w p q by omega]; exact h2 p q up uq
    · rw [show min (w p q) (max (w p k) (w k q)) = max (w p k) (w k q) by omega]
      exact tr_trans (tr_le (by omega) (h2 p k up hk)) (tr_le (by omega) (h2 k q hk uq))
  · have lk' := hU k' u
    rw [hw p q hp hq, hw p k' hp lk', hw k' q lk' hq]
    unfold wa_N
    by_cases x : k' = k
    · subst x; omega
    · have a := h3 k' (by omega) u p q hp hq
      have b := h3 k' (by omega) u p k hp lk
      have c := h3 k' (by omega) u k q lk hq
      omega
def wa_S (U : Nat → Prop) (d w : Nat → Nat → Int) : Prop := ∀ i j, U i → U j → ∀ m, w i j ≤ m ↔ (0 ≤ m ∧ tr_R U d m i j)
theorem wa_end (hU : ∀ x, U x → x < 24) (hd : ∀ x, U x → d x x ≤ 0) (h : wa_I U d 24 w) : wa_S U d w := by
  obtain ⟨h1, h2, h3⟩ := h
  intro i j ui uj m
  constructor
  · intro hm
    have := h1 i j (hU i ui) (hU j uj)
    exact ⟨by omega, tr_le hm (h2 i j ui uj)⟩
  · rintro ⟨hm, r⟩
    refine (r (fun y => U y ∧ w i y ≤ m) ⟨ui, ?_⟩ fun x y sx ux uy hd => ⟨uy, ?_⟩).2
    · have := h1 i i (hU i ui) (hU i ui); have := hd i ui; omega
    · have a := h3 x (hU x ux) ux i y (hU i ui) (hU y uy)
      have b := h1 x y (hU x ux) (hU y uy)
      have c := sx.2
      omega
end
section
variable {us xs ys wy : Nat → Int32} {postS : SY → Prop}
theorem wy_58 {J2 J10 : Int32 → (Nat → Int32) → (Nat → Int32) → (Nat → Int32) → (Nat → Int32) → Prop} {x1 m : Int32} {i j : Nat} (hi : i < 24) (hj : j < 24)
    (h0 : wa_w wy i j ≤ m.toInt → J10 (nI (j + 1)) us xs ys wy) (h1 : m.toInt < wa_w wy i j → J10 (nI (j + 1)) us xs ys (upd wy (i * 24 + j) m)) :
    wY_over_58 postS J2 J10 x1 (nI i) (nI j) m us xs ys wy := by
  simp only [wY_over_58, wa_ix, wa_in hi hj, wa_cl hi hj, true_and, nI_1, forall_eq]
  refine ⟨fun z => h0 (Int32.le_iff_toInt_le.mp z), fun z => h1 ?_⟩
  rw [Int32.le_iff_toInt_le] at z
  unfold wa_w; omega
theorem wy_in {J2 : Int32 → (Nat → Int32) → (Nat → Int32) → (Nat → Int32) → (Nat → Int32) → Prop} {w : Nat → Nat → Int} {i k : Nat} (hi : i < 24) (hk : k < 24) (h0 : ∀ p q, p < 24 → q < 24 → wa_w wy p q = if p < i then wa_N w k p q else w p q)
    (h : ∀ a, (∀ p q, p < 24 → q < 24 → wa_w a p q = if p < i + 1 then wa_N w k p q else w p q) → J2 (nI (i + 1)) us xs ys a) :
    ∃ n, wY_over_10 postS J2 (nI k) (nI i) n 0 us xs ys wy := by
  refine loop_0 (fun n j (a : Nat → Int32) => wY_over_10 postS J2 (nI k) (nI i) n (nI j) us xs ys a) (fun j a => ∀ p q, p < 24 → q < 24 → wa_w a p q = if p < i ∨ (p = i ∧ q < j) then wa_N w k p q else w p q) 24 wy ?_ ?_ ?_
  · intro p q hp hq
    rw [h0 p q hp hq]
    by_cases x : p < i
    · rw [if_pos x, if_pos (Or.inl x)]
    · rw [if_neg x, if_neg (by omega)]
  · intro n a ha
    rw [wY_over_10]
    refine br_t ba_le24 (nm_r (nI_1 i) (h a fun p q hp hq => ?_))
    rw [ha p q hp hq]
    by_cases x : p < i + 1
    · rw [if_pos x, if_pos (by omega)]
    · rw [if_neg x, if_neg (by omega)]
  · intro n j a hj ha ih
    rw [wY_over_10]
    have e1 : (a (i * 24 + k)).toInt = w i k := by
      have := ha i k hi hk
      unfold wa_w at this
      rw [this]
      by_cases x : i < i ∨ (i = i ∧ k < j)
      · rw [if_pos x]; unfold wa_N; omega
      · rw [if_neg x]
    have e2 : (a (k * 24 + j)).toInt = w k j := by
      have := ha k j hk hj
      unfold wa_w at this
      rw [this]
      by_cases x : k < i ∨ (k = i ∧ j < j)
      · rw [if_pos x]; unfold wa_N; omega
      · rw [if_neg x]
    have e3 : wa_w a i j = w i j := by rw [ha i j hi hj, if_neg (by omega)]
    have K : ∀ m : Int32, m.toInt = max (w i k) (w k j) → wY_over_58 postS J2 (wY_over_10 postS J2 (nI k) (nI i) n) (nI k) (nI i) (nI j) m us xs ys a := by
      intro m hm
      refine wy_58 hi hj (fun z => ih a fun p q hp hq => ?_) (fun z => ih _ fun p q hp hq => ?_)
      · rw [ha p q hp hq]
        by_cases x : p = i ∧ q = j
        · obtain ⟨rfl, rfl⟩ := x
          rw [if_neg (by omega), if_pos (by omega)]
          rw [e3] at z
          unfold wa_N; omega
        · by_cases y : p < i ∨ (p = i ∧ q < j)
          · rw [if_pos y, if_pos (by omega)]
          · rw [if_neg y, if_neg (by omega)]
      · by_cases x : p = i ∧ q = j
        · obtain ⟨rfl, rfl⟩ := x
          rw [if_pos (by omega)]
          rw [e3] at z
          unfold wa_w; rw [dm_us]; unfold wa_N; omega
        · unfold wa_w; rw [dm_un (wa_ne hq hj x)]
          have := ha p q hp hq
          unfold wa_w at this
          rw [this]
          by_cases y : p < i ∨ (p = i ∧ q < j)
          · rw [if_pos y, if_pos (by omega)]
          · rw [if_neg y, if_neg (by omega)]
    simp only [wa_ix, wa_in hi hk, wa_cl hi hk, wa_in hk hj, wa_cl hk hj, true_and, forall_eq]
    refine br_f (ba_ge hj) ⟨fun z => K _ ?_, fun z => K _ ?_⟩
    · rw [Int32.le_iff_toInt_le] at z; omega
    · rw [Int32.le_iff_toInt_le] at z; omega
theorem wy_over {k : Nat} (hk : k < 24) (h : ∀ a, (∀ p q, p < 24 → q < 24 → wa_w a p q = wa_N (wa_w wy) k p q) → postS (us, xs, ys, a)) : wpY_over postS (us, xs, ys, wy) (nI k) := by
  simp only [wpY_over]
  refine loop_0 (fun n i (a : Nat → Int32) => wY_over_2 postS (nI k) n (nI i) us xs ys a) (fun i a => ∀ p q, p < 24 → q < 24 → wa_w a p q = if p < i then wa_N (wa_w wy) k p q else wa_w wy p q) 24 wy ?_ ?_ ?_
  · intro p q hp hq; rw [if_neg (by omega)]
  · intro n a ha
    rw [wY_over_2]
    exact br_t ba_le24 (h a fun p q hp hq => by rw [ha p q hp hq, if_pos hp])
  · intro n i a hi ha ih
    rw [wY_over_2]
    exact br_f (ba_ge hi) (wy_in hi hk ha fun b hb => ih b hb)
theorem wy_ways {fc : Int32} (hok : dm_ok fc us xs ys) (h : ∀ a, wa_S (dm_U us) (dm_D xs ys) (wa_w a) → (∀ p q, p < 24 → q < 24 → 0 ≤ wa_w a p q) → postS (us, xs, ys, a)) : wpY_ways postS (us, xs, ys, wy) := by
  obtain ⟨h1, h2, h3, h4, h5⟩ := hok
  have dn : ∀ p q, 0 ≤ dm_D xs ys p q := fun p q => by unfold dm_D; rw [nz_d h3 h4]; exact (nz_sq _ _).1
  have d0 : ∀ p, dm_D xs ys p p = 0 := fun p => by unfold dm_D; rw [nz_d h3 h4]; simp
  simp only [wpY_ways]
  refine loop_0 (fun n i (a : Nat → Int32) => wY_ways_2 postS n (nI i) us xs ys a) (fun i a => ∀ p q, p < i → q < 24 → wa_w a p q = dm_D xs ys p q) 24 wy (fun p q hp => by omega) ?_ ?_
  · intro n a ha
    rw [wY_ways_2]
    refine br_t ba_le24 ?_
    refine loop_0 (fun n k (a : Nat → Int32) => wY_ways_47 postS n (nI k) us xs ys a) (fun k a => wa_I (dm_U us) (dm_D xs ys) k (wa_w a)) 24 a ?_ ?_ ?_
    · refine ⟨fun p q hp hq => ?_, fun p q up uq => ?_, fun k' l => by omega⟩
      · rw [ha p q hp hq]; exact ⟨dn p q, Int.le_refl _⟩
      · rw [ha p q up.1 uq.1]; exact tr_hop up uq (Int.le_refl _)
    · intro n b hb
      rw [wY_ways_47]
      exact br_t ba_le24 (h b (wa_end (fun x hx => hx.1) (fun x _ => by rw [d0 x]; omega) hb) fun p q hp hq => (hb.1 p q hp hq).1)
    · intro n k b hk hb ih
      rw [wY_ways_47]
      simp only [ba_in hk, ba_cl hk, true_and, nI_1, forall_eq]
      refine br_f (ba_ge hk) ⟨fun u => ih b (wa_skip hb fun z => z.2 u), fun u => wy_over hk fun c hc => ?_⟩
      exact ih c (wa_step (fun x hx => hx.1) hb ⟨hk, u⟩ hc)
  · intro n i a hi ha ih
    rw [wY_ways_2]
    refine br_f (ba_ge hi) ?_
    refine loop_0 (fun n' j (b : Nat → Int32) => wY_ways_10 postS (wY_ways_2 postS n) (nI i) n' (nI j) us xs ys b) (fun j b => (∀ p q, p < i → q < 24 → wa_w b p q = dm_D xs ys p q) ∧ ∀ q, q < j → wa_w b i q = dm_D xs ys i q) 24 a ⟨ha, fun q hq => by omega⟩ ?_ ?_
    · rintro n' b ⟨hb1, hb2⟩
      rw [wY_ways_10]
      refine br_t ba_le24 (nm_r (nI_1 i) (ih b fun p q hp hq => ?_))
      by_cases x : p = i
      · rw [x]; exact hb2 q hq
      · exact hb1 p q (by omega) hq
    · rintro n' j b hj ⟨hb1, hb2⟩ ih'
      rw [wY_ways_10]
      simp only [wa_ix, wa_in hi hj, wa_cl hi hj, true_and, nI_1, forall_eq]
      refine br_f (ba_ge hj) (ry_dist hi hj (ih' _ ⟨fun p q hp hq => ?_, fun q hq => ?_⟩))
      · unfold wa_w; rw [dm_un (wa_ne hq hj (by omega))]; exact hb1 p q hp hq
      · by_cases x : q = j
        · rw [x]; unfold wa_w; rw [dm_us]; rfl
        · unfold wa_w; rw [dm_un (wa_ne (by omega) hj (by omega))]; exact hb2 q (by omega)
end
/-- back: the least way to an earlier point -/
def bk_f (us wy : Nat → Int32) (i : Nat) : Nat → Int32
  | 0 => -1
  | j + 1 => if us j = 0 then bk_f us wy i j else if bk_f us wy i j < 0 then wy (i * 24 + j) else if bk_f us wy i j ≤ wy (i * 24 + j) then bk_f us wy i j else wy (i * 24 + j)
def bk_v (us wy : Nat → Int32) (i : Nat) : Int32 := if us i = 0 then -1 else bk_f us wy i i
section
variable {us xs ys wy : Nat → Int32} {post : Int32 → Prop}
theorem wy_48 {J : Int32 → Int32 → Prop} {i j : Nat} (hi : i < 24) (hj : j < 24) (h : J (wy (i * 24 + j)) (nI (j + 1))) : wY_back_48 post J (nI i) (nI j) us xs ys wy := by
  simp only [wY_back_48, wa_ix, wa_in hi hj, wa_cl hi hj, true_and, nI_1, forall_eq]; exact h
theorem wy_back {i : Nat} (hi : i < 24) (h : post (bk_v us wy i)) : wpY_back post (us, xs, ys, wy) (nI i) := by
  simp only [wpY_back, ba_in hi, ba_cl hi, true_and]
  refine ⟨fun u => ?_, fun u => ?_⟩
  · unfold bk_v at h; rw [if_pos u] at h; exact h
  · unfold bk_v at h; rw [if_neg u] at h
    refine loop_0 (fun n j (b : Int32) => wY_back_15 post (nI i) us xs ys wy n b (nI j)) (fun j b => b = bk_f us wy i j) i (-1) rfl ?_ ?_
    · rintro n b rfl
      rw [wY_back_15]
      exact br_t (nI_le (Nat.le_refl i) (by omega)) h
    · rintro n j b hj rfl ih
      have hj' : j < 24 := by omega
      rw [wY_back_15]
      simp only [ba_in hj', ba_cl hj', wa_ix, wa_in hi hj', wa_cl hi hj', true_and, nI_1, forall_eq]
      refine br_f (nI_ge hj (by omega)) ⟨fun v => ih _ ?_, fun v => ⟨fun x => wy_48 hi hj' (ih _ ?_), fun x => ⟨fun y => ih _ ?_, fun y => wy_48 hi hj' (ih _ ?_)⟩⟩⟩
      · rw [bk_f, if_pos v]
      · rw [bk_f, if_neg v, if_pos x]
      · rw [bk_f, if_neg v, if_neg x, if_pos y]
      · rw [bk_f, if_neg v, if_neg x, if_neg y]
theorem wy_bkf {i : Nat} (hi : i < 24) (hn : ∀ p q, p < 24 → q < 24 → 0 ≤ wa_w wy p q) : ∀ j, j ≤ i → ((¬ ∃ k, k < j ∧ dm_U us k) → (bk_f us wy i j).toInt = -1) ∧ (∀ k, k < j → dm_U us k → (bk_f us wy i j).toInt ≤ wa_w wy i k) ∧
    ((∃ k, k < j ∧ dm_U us k) → ∃ k, k < j ∧ dm_U us k ∧ (bk_f us wy i j).toInt = wa_w wy i k) := by
  intro j
  induction j with
  | zero => intro _; exact ⟨fun _ => (show (-1 : Int32).toInt = -1 from by decide), fun k hk => by omega, fun ⟨k, hk, _⟩ => by omega⟩
  | succ j ih =>
    intro hj
    have hj' : j < 24 := by omega
    obtain ⟨i1, i2, i3⟩ := ih (by omega)
    by_cases u : us j = 0
    · have e : bk_f us wy i (j + 1) = bk_f us wy i j := by rw [bk_f, if_pos u]
      have N : ∀ k, k < j + 1 → dm_U us k → k < j := fun k hk uk => by
        by_cases x : k = j
        · rw [x] at uk; exact absurd u uk.2
        · omega
      rw [e]
      refine ⟨fun z => i1 fun ⟨k, hk, uk⟩ => z ⟨k, by omega, uk⟩, fun k hk uk => i2 k (N k hk uk) uk, fun ⟨k, hk, uk⟩ => ?_⟩
      obtain ⟨k', a, b⟩ := i3 ⟨k, N k hk uk, uk⟩
      exact ⟨k', by omega, b⟩
    · have uj : dm_U us j := ⟨hj', u⟩
      refine ⟨fun z => absurd ⟨j, by omega, uj⟩ z, ?_⟩
      by_cases x : ∃ k, k < j ∧ dm_U us k
      · obtain ⟨k, a, b, c⟩ := i3 x
        have nn : ¬ bk_f us wy i j < 0 := by
          rw [Int32.lt_iff_toInt_lt, nz_0, c]; have := hn i k hi (by omega); omega
        by_cases y : bk_f us wy i j ≤ wy (i * 24 + j)
        · have e : bk_f us wy i (j + 1) = bk_f us wy i j := by rw [bk_f, if_neg u, if_neg nn, if_pos y]
          rw [e]
          refine ⟨fun k' hk uk => ?_, fun _ => ⟨k, by omega, b, c⟩⟩
          by_cases z : k' = j
          · rw [z]; exact Int32.le_iff_toInt_le.mp y
          · exact i2 k' (by omega) uk
        · have e : bk_f us wy i (j + 1) = wy (i * 24 + j) := by rw [bk_f, if_neg u, if_neg nn, if_neg y]
          rw [e]
          refine ⟨fun k' hk uk => ?_, fun _ => ⟨j, by omega, uj, rfl⟩⟩
          by_cases z : k' = j
          · rw [z]; exact Int.le_refl _
          · have := i2 k' (by omega) uk
            rw [Int32.le_iff_toInt_le] at y
            omega
      · have e0 := i1 x
        have e : bk_f us wy i (j + 1) = wy (i * 24 + j) := by rw [bk_f, if_neg u, if_pos (by rw [Int32.lt_iff_toInt_lt, nz_0, e0]; omega)]
        rw [e]
        refine ⟨fun k' hk uk => ?_, fun _ => ⟨j, by omega, uj, rfl⟩⟩
        by_cases z : k' = j
        · rw [z]; exact Int.le_refl _
        · exact absurd ⟨k', by omega, uk⟩ x
theorem wy_B (hn : ∀ p q, p < 24 → q < 24 → 0 ≤ wa_w wy p q) : tr_B (dm_U us) (wa_w wy) (fun i => (bk_v us wy i).toInt) := by
  intro i hi
  have m1 : (-1 : Int32).toInt = -1 := by decide
  by_cases u : us i = 0
  · have e : bk_v us wy i = -1 := if_pos u
    dsimp only
    rw [e]
    exact ⟨fun _ => m1, fun z => absurd u z.2, fun z => absurd u z.2⟩
  · have e : bk_v us wy i = bk_f us wy i i := if_neg u
    dsimp only
    rw [e]
    obtain ⟨a, b, c⟩ := wy_bkf (us := us) hi hn i (Nat.le_refl i)
    exact ⟨fun z => z.elim (fun y => absurd ⟨hi, u⟩ y) a, fun _ => b, fun _ => c⟩
end
end
section
/-! what the component reads off its tree -/
section
variable {us xs ys wt gp od ed wy : Nat → Int32} {post : Int32 → SX → Prop} {postS : SX → Prop} {U : Nat → Prop} {d : Nat → Nat → Int} {s c : Nat} {o : Nat → Nat}
theorem hx_loop {j0 b : Nat} (hc : c ≤ 24) (hP : tr_P U d s c o (fun i => (ed i).toInt)) (hU : ∀ v, U v → v < 24) (hod : ∀ i, i < c → od i = nI (o i)) (hj : j0 < c) (hb : o j0 = b)
    (h : ∀ L : Int32, (∀ t, 0 < t → t ≤ j0 → (ed t).toInt ≤ L.toInt) → (L.toInt = 0 ∨ ∃ t, 0 < t ∧ t ≤ j0 ∧ L.toInt = (ed t).toInt) → 0 ≤ L.toInt → post L (nI c, us, xs, ys, wt, gp, od, ed)) :
    ∀ (q i : Nat) (L : Int32), i + q = j0 → (∀ t, 0 < t → t ≤ i → (ed t).toInt ≤ L.toInt) → (L.toInt = 0 ∨ ∃ t, 0 < t ∧ t ≤ i ∧ L.toInt = (ed t).toInt) → 0 ≤ L.toInt →
      wX_hop_29 post (nI b) (nI c) us xs ys wt gp od ed (q + 1) L (nI (i + 1)) := by
  have hb24 : b < 24 := by rw [← hb]; exact hU _ (hP.2.1 j0 hj)
  intro q
  induction q with
  | zero =>
    intro i L hi h1 h2 h3
    have e : i = j0 := by omega
    subst e
    have P := h L h1 h2 h3
    have hi' : i < 24 := by omega
    rw [wX_hop_29]
    simp only [nI_pred, ba_in hi', ba_cl hi', true_and]
    exact ⟨fun _ => P, fun _ => br_t (by rw [hod i hj, hb]) P⟩
  | succ q ih =>
    intro i L hi h1 h2 h3
    have hi' : i < 24 := by omega
    have hi1 : i + 1 < 24 := by omega
    rw [wX_hop_29]
    simp only [nI_pred, ba_in hi', ba_cl hi', ba_in hi1, ba_cl hi1, true_and, nI_1, forall_eq]
    refine br_f (nI_ge (by omega) (by omega)) (br_f ?_ ⟨fun z => ih (i + 1) L (by omega) (fun t a b => ?_) ?_ h3, fun z => ih (i + 1) _ (by omega) (fun t a b => ?_) (Or.inr ⟨i + 1, by omega, Nat.le_refl _, rfl⟩) ?_⟩)
    · rw [hod i (by omega), ba_eq (hU _ (hP.2.1 i (by omega))) hb24, ← hb]
      intro z
      have := hP.2.2.1 i j0 (by omega) hj z
      omega
    · rw [Int32.le_iff_toInt_le] at z
      by_cases x : t = i + 1
      · rw [x]; exact z
      · exact h1 t a (by omega)
    · rcases h2 with h2 | ⟨t, a, b, h2⟩
      · exact Or.inl h2
      · exact Or.inr ⟨t, a, by omega, h2⟩
    · rw [Int32.le_iff_toInt_le] at z
      by_cases x : t = i + 1
      · rw [x]; exact Int.le_refl _
      · have := h1 t a (by omega); omega
    · rw [Int32.le_iff_toInt_le] at z; omega
def gm_Q (U : Nat → Prop) (d : Nat → Nat → Int) (m : Int) (a r : Nat) : Prop := U r ∧ tr_R U d m a r ∧ ∀ y, U y → tr_R U d m a y → r ≤ y
theorem gm_uq {m : Int} {a r r' : Nat} (h : gm_Q U d m a r) (h' : gm_Q U d m a r') : r = r' := Nat.le_antisymm (h.2.2 r' h'.1 h'.2.1) (h'.2.2 r h.1 h.2.1)
theorem gx_grp {m : Int32} (hc : c ≤ 24) (hP : tr_P U d s c o (fun i => (ed i).toInt)) (hU : ∀ v, U v → v < 24) (hod : ∀ i, i < c → od i = nI (o i))
    (h : ∀ r, gm_Q U d m.toInt s r → post (nI r) (nI c, us, xs, ys, wt, gp, od, ed)) :
    ∀ (q k r : Nat), 0 < k → k + q = c → (∃ t, t < k ∧ r = o t) → (∀ t, t < k → r ≤ o t) → (∀ t, 0 < t → t < k → (ed t).toInt ≤ m.toInt) →
      wX_groupOf_21 post m (nI c) us xs ys wt gp od ed (q + 1) (nI r) (nI k) := by
  have fin : ∀ k r, 0 < k → k ≤ c → (∃ t, t < k ∧ r = o t) → (∀ t, t < k → r ≤ o t) → (∀ t, 0 < t → t < k → (ed t).toInt ≤ m.toInt) → (k = c ∨ m.toInt < (ed k).toInt) → post (nI r) (nI c, us, xs, ys, wt, gp, od, ed) := by
    rintro k r k0 kc ⟨t, ht, rt⟩ h2 h3 h4
    have ur : U r := by rw [rt]; exact hP.2.1 t (by omega)
    refine h r ⟨ur, (tr_grp hP k0 kc h3 h4 ur).mpr ⟨t, ht, rt.symm⟩, fun y uy ry => ?_⟩
    obtain ⟨i, hi, e⟩ := (tr_grp hP k0 kc h3 h4 uy).mp ry
    rw [← e]; exact h2 i hi
  intro q
  induction q with
  | zero =>
    intro k r k0 kc h1 h2 h3
    rw [wX_groupOf_21]
    exact br_t (nI_le (by omega) (by omega)) (fin k r k0 (by omega) h1 h2 h3 (Or.inl (by omega)))
  | succ q ih =>
    intro k r k0 kc h1 h2 h3
    have hk : k < 24 := by omega
    have uk := hP.2.1 k (by omega)
    have r24 : r < 24 := by
      obtain ⟨t, ht, rt⟩ := h1
      rw [rt]; exact hU _ (hP.2.1 t (by omega))
    rw [wX_groupOf_21]
    simp only [ba_in hk, ba_cl hk, true_and, nI_1, forall_eq]
    rw [hod k (by omega)]
    refine br_f (nI_ge (by omega) (by omega)) ⟨fun z => fin k r k0 (by omega) h1 h2 h3 (Or.inr (Int32.lt_iff_toInt_lt.mp z)), fun z => ?_⟩
    have z' : (ed k).toInt ≤ m.toInt := by rw [Int32.lt_iff_toInt_lt] at z; omega
    have h3' : ∀ t, 0 < t → t < k + 1 → (ed t).toInt ≤ m.toInt := fun t a b => by
      by_cases x : t = k
      · rw [x]; exact z'
      · exact h3 t a (by omega)
    rw [nI_leI (by omega) (by have := hU _ uk; omega)]
    refine ⟨fun y => ih (k + 1) r (by omega) (by omega) ?_ (fun t ht => ?_) h3', fun y => ih (k + 1) (o k) (by omega) (by omega) ⟨k, by omega, rfl⟩ (fun t ht => ?_) h3'⟩
    · obtain ⟨t, ht, rt⟩ := h1; exact ⟨t, by omega, rt⟩
    · by_cases x : t = k
      · rw [x]; exact y
      · exact h2 t (by omega)
    · by_cases x : t = k
      · rw [x]; exact Nat.le_refl _
      · have := h2 t (by omega); omega
theorem gx_groups {m : Int32} (hc : c ≤ 24) (h : post (nI (cn_t c (fun k => k = 0 ∨ m.toInt < (ed k).toInt))) (nI c, us, xs, ys, wt, gp, od, ed)) :
    ∀ (q k : Nat), 0 < k → k + q = c → wX_groups_17 post m (nI c) us xs ys wt gp od ed (q + 1) (nI (cn_t k (fun k => k = 0 ∨ m.toInt < (ed k).toInt))) (nI k) := by
  intro q
  induction q with
  | zero =>
    intro k k0 kc
    rw [wX_groups_17]
    cases (by omega : k = c)
    exact br_t (nI_le (by omega) (by omega)) h
  | succ q ih =>
    intro k k0 kc
    have hk : k < 24 := by omega
    have := ih (k + 1) (by omega) (by omega)
    rw [cn_S] at this
    rw [wX_groups_17]
    simp only [ba_in hk, ba_cl hk, true_and, nI_1, forall_eq]
    refine br_f (nI_ge (by omega) (by omega)) ⟨fun z => ?_, fun z => ?_⟩
    · rw [Int32.le_iff_toInt_le] at z
      rw [cn_bF (p := k = 0 ∨ m.toInt < (ed k).toInt) (by omega)] at this
      exact this
    · rw [Int32.le_iff_toInt_le] at z
      rw [cn_bT (p := k = 0 ∨ m.toInt < (ed k).toInt) (by omega)] at this
      exact this
theorem gx_total (hc : c ≤ 24) (h : post (Int32.ofInt (tr_s c (fun k => (ed k).toInt))) (nI c, us, xs, ys, wt, gp, od, ed)) :
    ∀ (q k : Nat), 0 < k → k + q = c → wX_treeTotal_8 post (nI c) us xs ys wt gp od ed (q + 1) (Int32.ofInt (tr_s k (fun k => (ed k).toInt))) (nI k) := by
  intro q
  induction q with
  | zero =>
    intro k k0 kc
    rw [wX_treeTotal_8]
    cases (by omega : k = c)
    exact br_t (nI_le (by omega) (by omega)) h
  | succ q ih =>
    intro k k0 kc
    have hk : k < 24 := by omega
    have := ih (k + 1) (by omega) (by omega)
    rw [tr_s, Int32.ofInt_add, Int32.ofInt_toInt] at this
    rw [wX_treeTotal_8]
    simp only [ba_in hk, ba_cl hk, true_and, nI_1, forall_eq]
    exact br_f (nI_ge (by omega) (by omega)) this
def so_I (c k p : Nat) (mv : Int32) (C : Int → Nat) (a : Nat → Int32) : Prop :=
  (∀ m : Int, cn_t c (fun i => m < (upd a p mv i).toInt) = C m) ∧ (∀ i j, i < j → j ≤ k → i ≠ p → j ≠ p → (a i).toInt ≤ (a j).toInt) ∧ (∀ j, p < j → j ≤ k → mv.toInt ≤ (a j).toInt)
theorem so_step {k p : Nat} {mv : Int32} {C : Int → Nat} {a : Nat → Int32} (hp : p + 1 ≤ k) (hk : k < c) (h : so_I c k (p + 1) mv C a) (hm : mv.toInt < (a p).toInt) : so_I c k p mv C (upd a (p + 1) (a p)) := by
  obtain ⟨h1, h2, h3⟩ := h
  refine ⟨fun m => ?_, fun i j hij hj hi hj' => ?_, fun j hj hjk => ?_⟩
  · rw [← h1 m]
    have a1 := cn_one (n := c) (k := p + 1) (P := fun i => m < (upd a (p + 1) mv i).toInt) (Q := fun i => m < (upd a (p + 1) (a p) i).toInt) (by omega) fun i _ ne => by rw [dm_un ne, dm_un ne]
    have a2 := cn_one (n := c) (k := p) (P := fun i => m < (upd (upd a (p + 1) (a p)) p mv i).toInt) (Q := fun i => m < (upd a (p + 1) (a p) i).toInt) (by omega) fun i _ ne => by rw [dm_un ne]
    rw [dm_us, dm_us] at a1
    rw [dm_us, dm_un (by omega : p ≠ p + 1)] at a2
    omega
  · by_cases x : i = p + 1
    · rw [x, dm_us, dm_un (by omega)]
      exact h2 p j (by omega) hj (by omega) (by omega)
    · by_cases y : j = p + 1
      · rw [y, dm_us, dm_un x]
        exact h2 i p (by omega) (by omega) x (by omega)
      · rw [dm_un x, dm_un y]
        exact h2 i j hij hj x y
  · by_cases x : j = p + 1
    · rw [x, dm_us]; omega
    · rw [dm_un x]; exact h3 j (by omega) hjk
theorem so_exit {k p : Nat} {mv : Int32} {C : Int → Nat} {a : Nat → Int32} (hp : p ≤ k) (h : so_I c k p mv C a) (hm : p = 0 ∨ ∃ q, p = q + 1 ∧ (a q).toInt ≤ mv.toInt) :
    (∀ m : Int, cn_t c (fun i => m < (upd a p mv i).toInt) = C m) ∧ (∀ i j, i < j → j ≤ k → (upd a p mv i).toInt ≤ (upd a p mv j).toInt) := by
  obtain ⟨h1, h2, h3⟩ := h
  refine ⟨h1, fun i j hij hj => ?_⟩
  by_cases x : i = p
  · rw [x, dm_us, dm_un (by omega)]; exact h3 j (by omega) hj
  · by_cases y : j = p
    · rw [y, dm_us, dm_un x]
      rcases hm with hm | ⟨q, e, hm⟩
      · omega
      · by_cases z : i = q
        · rw [z]; exact hm
        · have := h2 i q (by omega) (by omega) x (by omega); omega
    · rw [dm_un x, dm_un y]; exact h2 i j hij hj x y
theorem so_in {J : Int32 → (Nat → Int32) → (Nat → Int32) → (Nat → Int32) → (Nat → Int32) → (Nat → Int32) → (Nat → Int32) → (Nat → Int32) → Prop} {k : Nat} {mv fc : Int32} {C : Int → Nat} (hc : c ≤ 24) (hk : k < c)
    (h : ∀ a : Nat → Int32, (∀ m : Int, cn_t c (fun i => m < (a i).toInt) = C m) → (∀ i j, i < j → j ≤ k → (a i).toInt ≤ (a j).toInt) → J (nI (k + 1)) us xs ys wt gp od a) :
    ∀ (p : Nat) (a : Nat → Int32), p ≤ k → so_I c k p mv C a → wX_sortEdges_19 postS J (nI k) mv fc (p + 1) (nI p) us xs ys wt gp od a := by
  intro p
  induction p with
  | zero =>
    intro a hp hI
    rw [wX_sortEdges_19]
    have h0 : (0 : Nat) < 24 := by omega
    simp only [ba_in h0, ba_cl h0, true_and, nI_1, forall_eq]
    obtain ⟨e1, e2⟩ := so_exit hp hI (Or.inl rfl)
    exact br_t (by decide) (h _ e1 e2)
  | succ p ih =>
    intro a hp hI
    rw [wX_sortEdges_19]
    have hp1 : p + 1 < 24 := by omega
    have hp0 : p < 24 := by omega
    simp only [nI_pred, ba_in hp1, ba_cl hp1, ba_in hp0, ba_cl hp0, true_and, nI_1, forall_eq, dm_m1]
    refine br_f (nI_nle (by omega) (by omega)) ⟨fun z => ?_, fun z => ?_⟩
    · obtain ⟨e1, e2⟩ := so_exit hp hI (Or.inr ⟨p, rfl, Int32.le_iff_toInt_le.mp z⟩)
      exact h _ e1 e2
    · rw [Int32.le_iff_toInt_le] at z
      exact ih _ (by omega) (so_step hp hk hI (by omega))
theorem gx_sort (hc : c ≤ 24) (hc0 : 0 < c)
    (h : ∀ a : Nat → Int32, (∀ m : Int, cn_t c (fun i => m < (a i).toInt) = cn_t c (fun i => m < (ed i).toInt)) → (∀ i j, i ≤ j → j < c → (a i).toInt ≤ (a j).toInt) → postS (nI c, us, xs, ys, wt, gp, od, a)) :
    wpX_sortEdges postS (nI c, us, xs, ys, wt, gp, od, ed) := by
  simp only [wpX_sortEdges]
  have key : ∀ (q k : Nat) (a : Nat → Int32), 0 < k → k + q = c → (∀ m : Int, cn_t c (fun i => m < (a i).toInt) = cn_t c (fun i => m < (ed i).toInt)) → (∀ i j, i < j → j < k → (a i).toInt ≤ (a j).toInt) →
      wX_sortEdges_2 postS (nI c) (q + 1) (nI k) us xs ys wt gp od a := by
    intro q
    induction q with
    | zero =>
      intro k a k0 kc h1 h2
      rw [wX_sortEdges_2]
      refine br_t (nI_le (by omega) (by omega)) (h a h1 fun i j hij hj => ?_)
      by_cases x : i = j
      · rw [x]; exact Int.le_refl _
      · exact h2 i j (by omega) (by omega)
    | succ q ih =>
      intro k a k0 kc h1 h2
      have hk : k < 24 := by omega
      rw [wX_sortEdges_2]
      simp only [ba_in hk, ba_cl hk, true_and, forall_eq]
      refine br_f (nI_ge (by omega) (by omega)) ⟨k + 1, ?_⟩
      refine so_in hc (by omega) (C := fun m => cn_t c (fun i => m < (ed i).toInt)) (fun b e1 e2 => ih (k + 1) b (by omega) (by omega) e1 fun i j hij hj => e2 i j hij (by omega)) k a (Nat.le_refl k) ⟨fun m => ?_, fun i j hij hj hi hj' => h2 i j hij (by omega), fun j a b => by omega⟩
      dsimp only
      rw [← h1 m]
      refine cn_cong fun i _ => ?_
      by_cases x : i = k
      · rw [x, dm_us]
      · rw [dm_un x]
  obtain ⟨q, rfl⟩ : ∃ q, c = 1 + q := ⟨c - 1, by omega⟩
  exact ⟨q + 1, key q 1 ed (by omega) rfl (fun _ => rfl) (fun i j hij hj => by omega)⟩
end
end
section
/-! what the reference reads off its ways -/
section
variable {fc : Int32} {us xs ys wy : Nat → Int32} {post : Int32 → SY → Prop}
theorem gy_total {a : Nat → Int32} (h : post (Int32.ofInt (tr_s 24 (fun i => max (bk_v us a i).toInt 0))) (us, xs, ys, a)) : ∃ n, wY_treeTotal_8 post us xs ys a n 0 0 := by
  refine loop_0 (fun n i (x : Int32) => wY_treeTotal_8 post us xs ys a n x (nI i)) (fun i x => x = Int32.ofInt (tr_s i (fun i => max (bk_v us a i).toInt 0))) 24 0 rfl ?_ ?_
  · rintro n x rfl
    rw [wY_treeTotal_8]
    exact br_t ba_le24 h
  · rintro n i x hi rfl ih
    rw [wY_treeTotal_8]
    simp only [nI_1, forall_eq]
    refine br_f (ba_ge hi) (wy_back hi ⟨fun z => ih _ ?_, fun z => ih _ ?_⟩)
    · rw [Int32.le_iff_toInt_le, nz_0] at z
      rw [tr_s, show max (bk_v us a i).toInt 0 = 0 by omega, Int.add_zero]
    · rw [Int32.le_iff_toInt_le, nz_0] at z
      rw [tr_s, show max (bk_v us a i).toInt 0 = (bk_v us a i).toInt by omega, Int32.ofInt_add, Int32.ofInt_toInt]
theorem gy_73 {J23 : Int32 → Prop} {J44 : Int32 → Int32 → Int32 → Prop} {x1 x2 b x4 r : Int32} {l j : Nat} (h1 : r.toInt = b.toInt → J44 x4 (nI (l + 1)) (nI (j + 1))) (h0 : ¬ r.toInt = b.toInt → J44 x4 (nI l) (nI (j + 1))) :
    wY_treeEdge_73 post J23 J44 x1 x2 b x4 (nI l) (nI j) r us xs ys wy := by
  simp only [wY_treeEdge_73, nI_1, forall_eq]
  exact ⟨fun z => h1 (by rw [z]), fun z => h0 fun y => z (Int32.toInt_inj.mp y)⟩
theorem gy_in {J : Int32 → Prop} {i k : Nat} {b : Int32} (hk : k < 2 ^ 31)
    (hJ : ¬ (0 < b.toInt ∧ cn_t 24 (fun j => 0 < (bk_v us wy j).toInt ∧ (bk_v us wy j).toInt < b.toInt) ≤ k ∧ k < cn_t 24 (fun j => 0 < (bk_v us wy j).toInt ∧ (bk_v us wy j).toInt < b.toInt) + cn_t 24 (fun j => (bk_v us wy j).toInt = b.toInt)) → J (nI (i + 1)))
    (hp : (0 < b.toInt ∧ cn_t 24 (fun j => 0 < (bk_v us wy j).toInt ∧ (bk_v us wy j).toInt < b.toInt) ≤ k ∧ k < cn_t 24 (fun j => 0 < (bk_v us wy j).toInt ∧ (bk_v us wy j).toInt < b.toInt) + cn_t 24 (fun j => (bk_v us wy j).toInt = b.toInt)) → post b (us, xs, ys, wy)) :
    ∃ n, wY_treeEdge_44 post J (nI k) (nI i) b us xs ys wy n 0 0 0 := by
  refine loop_0 (fun n j (x : Nat × Nat) => wY_treeEdge_44 post J (nI k) (nI i) b us xs ys wy n (nI x.1) (nI x.2) (nI j))
    (fun j x => x.1 = cn_t j (fun j => 0 < (bk_v us wy j).toInt ∧ (bk_v us wy j).toInt < b.toInt) ∧ x.2 = cn_t j (fun j => (bk_v us wy j).toInt = b.toInt)) 24 (0, 0) ⟨rfl, rfl⟩ ?_ ?_
  · rintro n ⟨p, q⟩ ⟨e1, e2⟩
    dsimp only at e1 e2 ⊢
    have l1 := cn_le 24 (fun j => 0 < (bk_v us wy j).toInt ∧ (bk_v us wy j).toInt < b.toInt)
    have l2 := cn_le 24 (fun j => (bk_v us wy j).toInt = b.toInt)
    rw [wY_treeEdge_44]
    simp only [nI_1, forall_eq, nI_add]
    rw [nI_ltI hk (by omega), nI_leI (by omega) hk]
    have zb : b ≤ 0 ↔ b.toInt ≤ 0 := by rw [Int32.le_iff_toInt_le, nz_0]
    rw [zb]
    rw [← e1, ← e2] at hJ hp
    refine br_t ba_le24 ⟨fun z => hJ (by omega), fun z => ⟨fun y => hJ (by omega), fun y => ⟨fun x => hJ (by omega), fun x => hp (by omega)⟩⟩⟩
  · rintro n j ⟨p, q⟩ hj ⟨e1, e2⟩ ih
    dsimp only at e1 e2 ⊢
    rw [wY_treeEdge_44]
    simp only [nI_1, forall_eq]
    have K : ∀ p' : Nat, p' = cn_t (j + 1) (fun j => 0 < (bk_v us wy j).toInt ∧ (bk_v us wy j).toInt < b.toInt) →
        wY_treeEdge_73 post J (wY_treeEdge_44 post J (nI k) (nI i) b us xs ys wy n) (nI k) (nI i) b (nI p') (nI q) (nI j) (bk_v us wy j) us xs ys wy := by
      intro p' hp'
      refine gy_73 (fun z => ih (p', q + 1) ⟨hp', ?_⟩) (fun z => ih (p', q) ⟨hp', ?_⟩)
      · dsimp only; rw [cn_S, cn_bT (p := (bk_v us wy j).toInt = b.toInt) z, e2]
      · dsimp only; rw [cn_S, cn_bF (p := (bk_v us wy j).toInt = b.toInt) z, e2]; rfl
    refine br_f (ba_ge hj) (wy_back hj ⟨fun z => K p ?_, fun z => ⟨fun y => K p ?_, fun y => K (p + 1) ?_⟩⟩)
    · rw [Int32.le_iff_toInt_le, nz_0] at z
      rw [cn_S, cn_bF (p := 0 < (bk_v us wy j).toInt ∧ (bk_v us wy j).toInt < b.toInt) (by omega), e1]; rfl
    · rw [Int32.le_iff_toInt_le] at y
      rw [cn_S, cn_bF (p := 0 < (bk_v us wy j).toInt ∧ (bk_v us wy j).toInt < b.toInt) (by omega), e1]; rfl
    · rw [Int32.le_iff_toInt_le] at y
      rw [Int32.le_iff_toInt_le, nz_0] at z
      rw [cn_S, cn_bT (p := 0 < (bk_v us wy j).toInt ∧ (bk_v us wy j).toInt < b.toInt) (by omega), e1]
def te_C (us wy : Nat → Int32) (k : Nat) (b : Int) : Prop := 0 < b ∧ cn_t 24 (fun j => 0 < (bk_v us wy j).toInt ∧ (bk_v us wy j).toInt < b) ≤ k ∧ k < cn_t 24 (fun j => 0 < (bk_v us wy j).toInt ∧ (bk_v us wy j).toInt < b) + cn_t 24 (fun j => (bk_v us wy j).toInt = b)
theorem gy_edge {k : Nat} {v : Int32} (hk : k < 2 ^ 31) (h1 : ∀ b : Int, te_C us wy k b → b = v.toInt) (h2 : ∃ i, i < 24 ∧ te_C us wy k (bk_v us wy i).toInt) (h : post v (us, xs, ys, wy)) :
    ∃ n, wY_treeEdge_23 post (nI k) us xs ys wy n 0 := by
  refine ba_gl (fun n x => wY_treeEdge_23 post (nI k) us xs ys wy n x) (fun i => ¬ te_C us wy k (bk_v us wy i).toInt) (A := False) (B := post v (us, xs, ys, wy)) ?_ ?_ ?_ ?_ ?_
  · intro z; exact z.elim
  · intro n i hi hP hW
    rw [wY_treeEdge_23]
    refine br_f (ba_ge hi) (wy_back hi (gy_in hk (fun _ => hW) (fun z => absurd z hP)))
  · intro n i hi hP hB
    have hC : te_C us wy k (bk_v us wy i).toInt := Classical.byContradiction hP
    rw [wY_treeEdge_23]
    refine br_f (ba_ge hi) (wy_back hi (gy_in hk (fun z => absurd hC z) (fun _ => ?_)))
    rw [Int32.toInt_inj.mp (h1 _ hC)]; exact hB
  · intro z
    obtain ⟨i, hi, hC⟩ := h2
    exact z i hi hC
  · exact fun _ => h
theorem gy_grp {m : Int32} {a : Nat} (ha : a < 24) (ua : us a ≠ 0) (hd : ∀ x y, dm_U us x → dm_U us y → x ≠ y → 0 < dm_D xs ys x y) (hS : wa_S (dm_U us) (dm_D xs ys) (wa_w wy))
    (h : ∀ r, r < 24 → gm_Q (dm_U us) (dm_D xs ys) m.toInt a r → post (nI r) (us, xs, ys, wy)) : ∃ n, wY_groupOf_17 post (nI a) m us xs ys wy n 0 := by
  have Ua : dm_U us a := ⟨ha, ua⟩
  have W : ∀ y, y ≠ a → dm_U us y → (wa_w wy a y ≤ m.toInt ↔ tr_R (dm_U us) (dm_D xs ys) m.toInt a y) := by
    intro y ne uy
    rw [hS a y Ua uy]
    refine ⟨fun z => z.2, fun z => ⟨?_, z⟩⟩
    apply Classical.byContradiction
    intro n
    exact ne (tr_neg (fun x y ux uy ne => by have := hd x y ux uy ne; omega) z)
  refine loop_m (fun n (j : Nat) => wY_groupOf_17 post (nI a) m us xs ys wy n (nI j)) (fun j => j ≤ a ∧ ∀ y, y < j → dm_U us y → ¬ tr_R (dm_U us) (dm_D xs ys) m.toInt a y) (fun j => a - j) ?_ 0 ⟨by omega, fun y hy => by omega⟩
  rintro n j ⟨hj, hI⟩ ih
  have hj' : j < 24 := by omega
  rw [wY_groupOf_17]
  simp only [ba_in hj', ba_cl hj', wa_ix, wa_in ha hj', wa_cl ha hj', true_and, nI_1, forall_eq]
  rw [nI_leI (by omega) (by omega)]
  refine ⟨fun z => h a ha ⟨Ua, tr_refl a, fun y uy ry => ?_⟩, fun z => ⟨fun u => ih (j + 1) ⟨by omega, fun y hy uy => ?_⟩ (by omega), fun u => ⟨fun x => ih (j + 1) ⟨by omega, fun y hy uy => ?_⟩ (by omega), fun x => h j hj' ⟨⟨hj', u⟩, ?_, fun y uy ry => ?_⟩⟩⟩⟩
  · apply Classical.byContradiction
    intro w
    exact hI y (by omega) uy ry
  · by_cases w : y = j
    · rw [w] at uy; exact absurd u uy.2
    · exact hI y (by omega) uy
  · by_cases w : y = j
    · rw [w, ← W j (by omega) ⟨hj', u⟩]
      rw [Int32.lt_iff_toInt_lt] at x
      unfold wa_w; omega
    · exact hI y (by omega) uy
  · rw [← W j (by omega) ⟨hj', u⟩]
    rw [Int32.lt_iff_toInt_lt] at x
    unfold wa_w; omega
  · apply Classical.byContradiction
    intro w
    exact hI y (by omega) uy ry
theorem gy_d (hok : dm_ok fc us xs ys) : ∀ x y, dm_U us x → dm_U us y → x ≠ y → 0 < dm_D xs ys x y := by
  obtain ⟨h1, h2, h3, h4, h5⟩ := hok
  intro x y ux uy ne
  unfold dm_D
  rw [nz_d h3 h4]
  obtain ⟨g1, g2⟩ := nz_sq ((xs x).toInt - (xs y).toInt) ((ys x).toInt - (ys y).toInt)
  apply Classical.byContradiction
  intro z
  obtain ⟨g3, g4⟩ := g2 (by omega)
  exact ne (h5 x y ux.1 uy.1 ux.2 uy.2 (Int32.toInt_inj.mp (by omega)) (Int32.toInt_inj.mp (by omega)))
theorem gy_ds (x y : Nat) : dm_D xs ys x y = dm_D xs ys y x := by unfold dm_D; rw [nz_dsym]
theorem gy_groupOf {m : Int32} {a : Nat} (hok : dm_ok fc us xs ys) (ha : a < 24) (ua : us a ≠ 0)
    (h : ∀ r wy', r < 24 → gm_Q (dm_U us) (dm_D xs ys) m.toInt a r → post (nI r) (us, xs, ys, wy')) : wpY_groupOf post (us, xs, ys, wy) (nI a) m := by
  simp only [wpY_groupOf]
  exact ry_isT ha ua (br_f ba_10 (wy_ways hok fun b hS _ => gy_grp ha ua (gy_d hok) hS fun r hr hQ => h r b hr hQ))
theorem gy_groups {m : Int32} (hok : dm_ok fc us xs ys)
    (h : ∀ wy', post (nI (cn_t 24 (fun i => dm_U us i ∧ ∀ j, j < i → dm_U us j → ¬ tr_R (dm_U us) (dm_D xs ys) m.toInt j i))) (us, xs, ys, wy')) : wpY_groups post (us, xs, ys, wy) m := by
  simp only [wpY_groups]
  refine loop_0 (fun n i (q : Int32 × (Nat → Int32)) => wY_groups_4 post m n q.1 (nI i) us xs ys q.2) (fun i q => q.1 = nI (cn_t i (fun i => dm_U us i ∧ ∀ j, j < i → dm_U us j → ¬ tr_R (dm_U us) (dm_D xs ys) m.toInt j i))) 24 (0, wy) rfl ?_ ?_
  · rintro n ⟨x, a⟩ rfl
    rw [wY_groups_4]
    exact br_t ba_le24 (h a)
  · rintro n i ⟨x, a⟩ hi hx ih
    dsimp only at hx ⊢
    subst hx
    rw [wY_groups_4]
    refine br_f (ba_ge hi) ?_
    by_cases u : us i = 0
    · have nh : ¬ dm_has us (nI i) := by
        rintro ⟨b, hb, e, ub⟩
        rw [ba_eq hi hb] at e
        exact ub (e ▸ u)
      simp only [wpY_groupOf]
      refine ry_isF nh (br_t rfl (br_f (fun z => ba_n4 hi z.symm) (nm_r (nI_1 i) (ih (_, a) ?_))))
      dsimp only
      rw [cn_S, cn_bF (p := dm_U us i ∧ ∀ j, j < i → dm_U us j → ¬ tr_R (dm_U us) (dm_D xs ys) m.toInt j i) (fun z => z.1.2 u)]; rfl
    · refine gy_groupOf hok hi u fun r wy' hr hQ => ?_
      dsimp only
      rw [ba_eq hr hi]
      simp only [nI_1, forall_eq]
      refine ⟨fun z => ih (_, wy') ?_, fun z => ih (_, wy') ?_⟩
      · dsimp only
        rw [cn_S, cn_bT (p := dm_U us i ∧ ∀ j, j < i → dm_U us j → ¬ tr_R (dm_U us) (dm_D xs ys) m.toInt j i) ⟨⟨hi, u⟩, fun j hj uj rj => by
          have := hQ.2.2 j uj (tr_symm gy_ds rj)
          omega⟩]
        rfl
      · dsimp only
        rw [cn_S, cn_bF (p := dm_U us i ∧ ∀ j, j < i → dm_U us j → ¬ tr_R (dm_U us) (dm_D xs ys) m.toInt j i)]
        · rfl
        · rintro ⟨ui, k⟩
          have := hQ.2.2 i ui (tr_refl i)
          exact k r (by omega) hQ.1 (tr_symm gy_ds hQ.2.1)
end
end
section
/-! the owed statements of the methods that grow a tree -/
theorem ot_e {us xs ys : Nat → Int32} {fc : Int32} {s c : Nat} {o : Nat → Nat} {e : Nat → Int} (hok : dm_ok fc us xs ys) (hP : tr_P (dm_U us) (dm_D xs ys) s c o e) : (∀ i, 0 < i → i < c → 0 < e i) ∧ (∀ i, i < c → 0 ≤ e i) := by
  have A : ∀ i, 0 < i → i < c → 0 < e i := fun i h0 hi => by
    obtain ⟨⟨t, ht, ee⟩, _⟩ := hP.2.2.2.2 i h0 hi
    rw [ee]
    refine gy_d hok _ _ (hP.2.1 t (by omega)) (hP.2.1 i hi) fun z => ?_
    have := hP.2.2.1 t i (by omega) hi z
    omega
  refine ⟨A, fun i hi => ?_⟩
  by_cases x : i = 0
  · rw [x, (hP.1 (by omega)).2]; omega
  · have := A i (by omega) hi; omega
theorem i_vc_treeTotal {k : Nat} {u : SX} {v : SY} (I : i_Rel k u v) (hk : k + 4 ≤ 2048) : wpX_treeTotal (fun r u' => wpY_treeTotal (fun r' v' => r' = r ∧ i_Rel (k + 4) u' v') v) u := by
  obtain ⟨fc, us, xs, ys, wt, gp, od, ed, wy, rfl, rfl, hok⟩ := I
  unfold wpX_treeTotal
  dsimp only
  refine gx_any hok fun wt gp od ed s o hod hP => ?_
  dsimp only
  have hc := cn_le 24 (dm_u us)
  have Y : ∀ R : Int32, R = Int32.ofInt (tr_s (cn_t 24 (dm_u us)) (fun k => (ed k).toInt)) → wpY_treeTotal (fun r' v' => r' = R ∧ i_Rel (k + 4) (fc, us, xs, ys, wt, gp, od, ed) v') (us, xs, ys, wy) := by
    intro R hR
    unfold wpY_treeTotal
    dsimp only
    refine wy_ways hok fun a hS hn => gy_total ⟨?_, dm_rel hok⟩
    rw [hR]
    have e1 := tr_sum (n := cn_t 24 (dm_u us)) (n' := 24) (f := fun k => (ed k).toInt) (g := fun i => (bk_v us a i).toInt) fun m hm => tr_G hP gy_ds (fun x hx => hx.1) hS (wy_B hn) hm
    rw [← e1]
    exact congrArg Int32.ofInt (tr_sc fun i hi => by have := (ot_e hok hP).2 i hi; omega)
  by_cases h0 : cn_t 24 (dm_u us) = 0
  · refine ⟨1, ?_⟩
    rw [wX_treeTotal_8]
    refine br_t ?_ (Y 0 (by rw [h0]; rfl))
    rw [hok.1, h0]; decide
  · have := hok.1
    subst this
    have G := gx_total (post := fun r u' => wpY_treeTotal (fun r' v' => r' = r ∧ i_Rel (k + 4) u' v') (us, xs, ys, wy)) (wt := wt) (us := us) (xs := xs) (ys := ys) (gp := gp) (od := od) (ed := ed) hc (Y _ rfl) (cn_t 24 (dm_u us) - 1) 1 (by omega) (by omega)
    refine ⟨cn_t 24 (dm_u us) - 1 + 1, ?_⟩
    have z : Int32.ofInt (tr_s 1 (fun k => (ed k).toInt)) = 0 := by
      have : (ed 0).toInt = 0 := (hP.1 (by omega)).2
      show Int32.ofInt (0 + (ed 0).toInt) = 0
      rw [this]; decide
    rw [z] at G
    exact G
theorem i_vc_treeEdge {k : Nat} {u : SX} {v : SY} (I : i_Rel k u v) (hk : k + 4 ≤ 2048) (v1 : Int32) : wpX_treeEdge (fun r u' => wpY_treeEdge (fun r' v' => r' = r ∧ i_Rel (k + 4) u' v') v v1) u v1 := by
  obtain ⟨fc, us, xs, ys, wt, gp, od, ed, wy, rfl, rfl, hok⟩ := I
  unfold wpX_treeEdge wpY_treeEdge
  dsimp only
  by_cases h0 : v1 < 0
  · exact br_t h0 (br_t h0 ⟨rfl, dm_rel hok⟩)
  · by_cases h1 : v1 ≤ fc - 2
    · obtain ⟨q, hq, rfl⟩ := nI_of h0
      have hc := cn_le 24 (dm_u us)
      have fe := hok.1
      subst fe
      have q2 : q + 2 ≤ cn_t 24 (dm_u us) := by
        rw [Int32.le_iff_toInt_le, Int32.toInt_sub, nI_toInt hq, nI_toInt (by omega), show (2 : Int32).toInt = 2 from by decide, Int.bmod_eq_of_le (by omega) (by omega)] at h1
        omega
      have q1 : q + 1 < 24 := by omega
      refine br_f h0 (br_t h1 (gx_any hok fun wt gp od ed s o hod hP => gx_sort hc (by omega) fun a hcnt hsort => ?_))
      dsimp only
      rw [nI_1, ba_cl q1]
      refine ⟨ba_in q1, br_f h0 (st_size (br_t h1 (wy_ways hok fun b hS hn => ?_)))⟩
      dsimp only
      have T := tr_kth (n := cn_t 24 (dm_u us)) (k := q) (e := fun i => (ed i).toInt) (sA := fun i => (a i).toInt) (bk := fun i => (bk_v us b i).toInt) hcnt hsort (hP.1 (by omega)).2 (ot_e hok hP).1
        (fun m hm => tr_G hP gy_ds (fun x hx => hx.1) hS (wy_B hn) hm) q2
      obtain ⟨T1, i, hi, T2, T3, T4, T5⟩ := T
      refine gy_edge (v := a (q + 1)) hq (fun b hb => T1 b hb.1 hb.2.1 hb.2.2) ⟨i, hi, ?_⟩ ⟨rfl, dm_rel hok⟩
      have T2' : (bk_v us b i).toInt = (a (q + 1)).toInt := T2
      rw [T2']
      exact ⟨T3, T4, T5⟩
    · exact br_f h0 (br_f h1 (br_f h0 (st_size (br_f (by rw [← hok.1]; exact h1) ⟨rfl, dm_rel hok⟩))))
theorem i_vc_hop {k : Nat} {u : SX} {v : SY} (I : i_Rel k u v) (hk : k + 4 ≤ 2048) (v1 : Int32) (v2 : Int32) : wpX_hop (fun r u' => wpY_hop (fun r' v' => r' = r ∧ i_Rel (k + 4) u' v') v v1 v2) u v1 v2 := by
  obtain ⟨fc, us, xs, ys, wt, gp, od, ed, wy, rfl, rfl, hok⟩ := I
  unfold wpX_hop wpY_hop
  dsimp only
  by_cases hA : dm_has us v1
  · obtain ⟨a, ha, rfl, ua⟩ := hA
    refine rx_hasT ha ua (br_f ba_10 ?_)
    by_cases hB : dm_has us v2
    · obtain ⟨b, hb, rfl, ub⟩ := hB
      refine rx_hasT hb ub (br_f ba_10 ?_)
      have hc := cn_le 24 (dm_u us)
      refine gx_grow hok ha (fun _ => ua) fun wt gp od ed o hod hP => ?_
      dsimp only
      obtain ⟨j0, hj, ej⟩ := hP.2.2.2.1 b ⟨hb, ub⟩
      have fe := hok.1
      subst fe
      refine ⟨j0 + 1, hx_loop hc hP (fun x hx => hx.1) hod hj ej (fun L l1 l2 l3 => ?_) j0 0 0 (by omega) (fun t a b => by omega) (Or.inl nz_0) (by decide)⟩
      refine ry_isT ha ua (br_f ba_10 (ry_isT hb ub (br_f ba_10 (wy_ways hok fun w hS hn => ?_))))
      dsimp only
      rw [wa_ix, wa_cl ha hb]
      refine ⟨wa_in ha hb, ?_, dm_rel hok⟩
      apply Int32.toInt_inj.mp
      have F : ∀ m : Int, L.toInt ≤ m ↔ wa_w w a b ≤ m := fun m => by
        rw [hS a b ⟨ha, ua⟩ ⟨hb, ub⟩ m, ← ej]
        exact tr_far hP hj l1 l2 l3
      have f1 := (F L.toInt).mp (Int.le_refl _)
      have f2 := (F (wa_w w a b)).mpr (Int.le_refl _)
      unfold wa_w at f1 f2
      omega
    · exact rx_hasF hB (br_t rfl (ry_isT ha ua (br_f ba_10 (ry_isF hB (br_t rfl ⟨rfl, dm_rel hok⟩)))))
  · exact rx_hasF hA (br_t rfl (ry_isF hA (br_t rfl ⟨rfl, dm_rel hok⟩)))
theorem i_vc_groups {k : Nat} {u : SX} {v : SY} (I : i_Rel k u v) (hk : k + 4 ≤ 2048) (v1 : Int32) : wpX_groups (fun r u' => wpY_groups (fun r' v' => r' = r ∧ i_Rel (k + 4) u' v') v v1) u v1 := by
  obtain ⟨fc, us, xs, ys, wt, gp, od, ed, wy, rfl, rfl, hok⟩ := I
  unfold wpX_groups
  dsimp only
  have hc := cn_le 24 (dm_u us)
  have fe := hok.1
  subst fe
  by_cases h0 : cn_t 24 (dm_u us) = 0
  · refine br_t (by rw [h0]; rfl) (gy_groups hok fun wy' => ⟨?_, dm_rel hok⟩)
    rw [cn_none fun i hi z => cn_zero h0 i hi z.1.2]; rfl
  · refine br_f (nI_ne0 (by omega) (by omega)) (gx_any hok fun wt gp od ed s o hod hP => ?_)
    dsimp only
    have C := tr_count hP gy_ds (fun x hx => hx.1) v1.toInt
    refine ⟨cn_t 24 (dm_u us) - 1 + 1, ?_⟩
    have G := gx_groups (m := v1) (post := fun r u' => wpY_groups (fun r' v' => r' = r ∧ i_Rel (k + 4) u' v') (us, xs, ys, wy) v1) (us := us) (xs := xs) (ys := ys) (wt := wt) (gp := gp) (od := od) (ed := ed) hc (gy_groups hok fun wy' => ⟨by rw [C], dm_rel hok⟩) (cn_t 24 (dm_u us) - 1) 1 (by omega) (by omega)
    have z : cn_t 1 (fun k => k = 0 ∨ v1.toInt < (ed k).toInt) = 1 := by
      rw [cn_S, cn_0, cn_bT (p := 0 = 0 ∨ v1.toInt < (ed 0).toInt) (Or.inl rfl)]
    rw [z] at G
    exact G
theorem i_vc_groupOf {k : Nat} {u : SX} {v : SY} (I : i_Rel k u v) (hk : k + 4 ≤ 2048) (v1 : Int32) (v2 : Int32) : wpX_groupOf (fun r u' => wpY_groupOf (fun r' v' => r' = r ∧ i_Rel (k + 4) u' v') v v1 v2) u v1 v2 := by
  obtain ⟨fc, us, xs, ys, wt, gp, od, ed, wy, rfl, rfl, hok⟩ := I
  unfold wpX_groupOf
  dsimp only
  by_cases hA : dm_has us v1
  · obtain ⟨a, ha, rfl, ua⟩ := hA
    refine rx_hasT ha ua (br_f ba_10 ?_)
    have hc := cn_le 24 (dm_u us)
    refine gx_grow hok ha (fun _ => ua) fun wt gp od ed o hod hP => ?_
    dsimp only
    have fe := hok.1
    subst fe
    have c0 : 0 < cn_t 24 (dm_u us) := by
      apply Nat.pos_of_ne_zero
      intro z
      exact cn_zero z a ha ua
    refine ⟨cn_t 24 (dm_u us) - 1 + 1, gx_grp hc hP (fun x hx => hx.1) hod (fun r hQ => ?_) (cn_t 24 (dm_u us) - 1) 1 a (by omega) (by omega) ⟨0, by omega, (hP.1 c0).1.symm⟩ (fun t ht => ?_) (fun t a b => by omega)⟩
    · exact gy_groupOf hok ha ua fun r' wy' hr' hQ' => ⟨by rw [gm_uq hQ hQ'], dm_rel hok⟩
    · cases (by omega : t = 0)
      rw [(hP.1 c0).1]; exact Nat.le_refl _
  · refine rx_hasF hA (br_t rfl ?_)
    unfold wpY_groupOf
    exact ry_isF hA (br_t rfl ⟨rfl, dm_rel hok⟩)
end

/-! the numbers, and the owed statements of the methods that grow no tree -/
theorem nz_sub {x y : Int32} (hx : 0 ≤ x.toInt ∧ x.toInt ≤ 127) (hy : 0 ≤ y.toInt ∧ y.toInt ≤ 127) : (x - y).toInt = x.toInt - y.toInt := by
  rw [Int32.toInt_sub]
  exact Int.bmod_eq_of_le (by omega) (by omega)
theorem nz_prod {a b : Int} (ha : -127 ≤ a ∧ a ≤ 127) (hb : -127 ≤ b ∧ b ≤ 127) : -16129 ≤ a * b ∧ a * b ≤ 16129 := by
  have h1 : a.natAbs ≤ 127 := by omega
  have h2 : b.natAbs ≤ 127 := by omega
  have h3 : (a * b).natAbs ≤ 127 * 127 := by rw [Int.natAbs_mul]; exact Nat.mul_le_mul h1 h2
  omega
theorem nz_mul {x y : Int32} (ha : -127 ≤ x.toInt ∧ x.toInt ≤ 127) (hb : -127 ≤ y.toInt ∧ y.toInt ≤ 127) : (x * y).toInt = x.toInt * y.toInt ∧ -16129 ≤ (x * y).toInt ∧ (x * y).toInt ≤ 16129 := by
  have h := nz_prod ha hb
  have e : (x * y).toInt = x.toInt * y.toInt := by
    rw [Int32.toInt_mul]
    exact Int.bmod_eq_of_le (by omega) (by omega)
  exact ⟨e, by omega, by omega⟩
theorem nz_add {x y : Int32} (hx : -16129 ≤ x.toInt ∧ x.toInt ≤ 16129) (hy : -16129 ≤ y.toInt ∧ y.toInt ≤ 16129) : (x + y).toInt = x.toInt + y.toInt := by
  rw [Int32.toInt_add]
  exact Int.bmod_eq_of_le (by omega) (by omega)
theorem nz_sub2 {x y : Int32} (hx : -16129 ≤ x.toInt ∧ x.toInt ≤ 16129) (hy : -16129 ≤ y.toInt ∧ y.toInt ≤ 16129) : (x - y).toInt = x.toInt - y.toInt := by
  rw [Int32.toInt_sub]
  exact Int.bmod_eq_of_le (by omega) (by omega)
theorem nz_0 : (0 : Int32).toInt = 0 := by decide
section
variable {xs ys : Nat → Int32} (hx : ∀ j, 0 ≤ (xs j).toInt ∧ (xs j).toInt ≤ 127) (hy : ∀ j, 0 ≤ (ys j).toInt ∧ (ys j).toInt ≤ 127)
theorem nz_s (xs : Nat → Int32) (hx : ∀ j, 0 ≤ (xs j).toInt ∧ (xs j).toInt ≤ 127) (i j : Nat) : (xs i - xs j).toInt = (xs i).toInt - (xs j).toInt ∧ -127 ≤ (xs i - xs j).toInt ∧ (xs i - xs j).toInt ≤ 127 := by
  have e := nz_sub (hx i) (hx j)
  have := hx i; have := hx j
  omega
theorem nz_o (hx : ∀ j, 0 ≤ (xs j).toInt ∧ (xs j).toInt ≤ 127) (hy : ∀ j, 0 ≤ (ys j).toInt ∧ (ys j).toInt ≤ 127) (a b c : Nat) :
    (dm_o xs ys a b c).toInt = ((xs a).toInt - (xs c).toInt) * ((xs b).toInt - (xs c).toInt) + ((ys a).toInt - (ys c).toInt) * ((ys b).toInt - (ys c).toInt) := by
  have h1 := nz_mul (nz_s xs hx a c).2 (nz_s xs hx b c).2
  have h2 := nz_mul (nz_s ys hy a c).2 (nz_s ys hy b c).2
  unfold dm_o
  rw [nz_add h1.2 h2.2, h1.1, h2.1, (nz_s xs hx a c).1, (nz_s xs hx b c).1, (nz_s ys hy a c).1, (nz_s ys hy b c).1]
theorem nz_t (hx : ∀ j, 0 ≤ (xs j).toInt ∧ (xs j).toInt ≤ 127) (hy : ∀ j, 0 ≤ (ys j).toInt ∧ (ys j).toInt ≤ 127) (a b c : Nat) :
    (dm_t xs ys a b c).toInt = ((xs b).toInt - (xs a).toInt) * ((ys c).toInt - (ys a).toInt) - ((ys b).toInt - (ys a).toInt) * ((xs c).toInt - (xs a).toInt) := by
  have h1 := nz_mul (nz_s xs hx b a).2 (nz_s ys hy c a).2
  have h2 := nz_mul (nz_s ys hy b a).2 (nz_s xs hx c a).2
  unfold dm_t
  rw [nz_sub2 h1.2 h2.2, h1.1, h2.1, (nz_s xs hx b a).1, (nz_s ys hy c a).1, (nz_s ys hy b a).1, (nz_s xs hx c a).1]
theorem nz_d (hx : ∀ j, 0 ≤ (xs j).toInt ∧ (xs j).toInt ≤ 127) (hy : ∀ j, 0 ≤ (ys j).toInt ∧ (ys j).toInt ≤ 127) (a b : Nat) :
    (dm_d xs ys a b).toInt = ((xs a).toInt - (xs b).toInt) * ((xs a).toInt - (xs b).toInt) + ((ys a).toInt - (ys b).toInt) * ((ys a).toInt - (ys b).toInt) := by
  have h1 := nz_mul (nz_s xs hx a b).2 (nz_s xs hx a b).2
  have h2 := nz_mul (nz_s ys hy a b).2 (nz_s ys hy a b).2
  unfold dm_d
  rw [nz_add h1.2 h2.2, h1.1, h2.1, (nz_s xs hx a b).1, (nz_s ys hy a b).1]
end
theorem nz_sq (r s : Int) : 0 ≤ r * r + s * s ∧ (r * r + s * s = 0 → r = 0 ∧ s = 0) := by
  have h1 : r * r = ((r.natAbs * r.natAbs : Nat) : Int) := Int.natAbs_mul_self.symm
  have h2 : s * s = ((s.natAbs * s.natAbs : Nat) : Int) := Int.natAbs_mul_self.symm
  refine ⟨by omega, fun h => ?_⟩
  have h3 : r.natAbs * r.natAbs = 0 := by omega
  have h4 : s.natAbs * s.natAbs = 0 := by omega
  have h5 := Nat.mul_eq_zero.mp h3
  have h6 := Nat.mul_eq_zero.mp h4
  omega
theorem nz_key {p q r s : Int} (h1 : p * r + q * s = 0) (h2 : s * p - r * q = 0) : (p = 0 ∧ q = 0) ∨ (r = 0 ∧ s = 0) := by
  have e1 : p * (r * r + s * s) = 0 := by grind
  have e2 : q * (r * r + s * s) = 0 := by grind
  by_cases z : r * r + s * s = 0
  · exact Or.inr ((nz_sq r s).2 z)
  · exact Or.inl ⟨(Int.mul_eq_zero.mp e1).resolve_right z, (Int.mul_eq_zero.mp e2).resolve_right z⟩
section
variable {fc : Int32} {us xs ys : Nat → Int32}
theorem nz_dot (hok : dm_ok fc us xs ys) {a b c : Nat} (ha : a < 24) (hb : b < 24) (hc : c < 24) (ua : us a ≠ 0) (ub : us b ≠ 0) (uc : us c ≠ 0) (ca : c ≠ a) (cb : c ≠ b) (ht : dm_t xs ys a b c = 0) : dm_o xs ys a b c ≠ 0 := by
  obtain ⟨_, _, hx, hy, hD⟩ := hok
  intro ho
  have e1 := nz_o hx hy a b c
  have e2 := nz_t hx hy a b c
  rw [ho, nz_0] at e1
  rw [ht, nz_0] at e2
  have := nz_key (p := (xs a).toInt - (xs c).toInt) (q := (ys a).toInt - (ys c).toInt) (r := (xs b).toInt - (xs c).toInt) (s := (ys b).toInt - (ys c).toInt) e1.symm (by rw [e2]; grind)
  rcases this with ⟨h1, h2⟩ | ⟨h1, h2⟩
  · exact ca (hD c a hc ha uc ua (Int32.toInt_inj.mp (by omega)) (Int32.toInt_inj.mp (by omega)))
  · exact cb (hD c b hc hb uc ub (Int32.toInt_inj.mp (by omega)) (Int32.toInt_inj.mp (by omega)))
theorem nz_ta (a b : Nat) : dm_t xs ys a b a = 0 := by unfold dm_t; grind
theorem nz_tb (a b : Nat) : dm_t xs ys a b b = 0 := by unfold dm_t; grind
theorem nz_opp0 {t : Int32} : ¬ sc_opp t 0 := by
  intro h
  rcases h with ⟨_, h⟩ | ⟨_, h⟩
  · exact absurd h (by decide)
  · exact h (by decide)
theorem nz_opp0' {t : Int32} : ¬ sc_opp 0 t := by
  intro h
  rcases h with ⟨h, _⟩ | ⟨h, _⟩
  · exact h (by decide)
  · exact h (by decide)
theorem nz_opps {t : Int32} : ¬ sc_opp t t := by
  intro h
  simp only [sc_opp, Int32.le_iff_toInt_le, Int32.lt_iff_toInt_lt, nz_0] at h
  omega
theorem nz_far {a b c : Nat} : (∃ d, d < 24 ∧ sc_farX us xs ys a b c d) ↔ (¬ dm_t xs ys a b c = 0 ∧ ∃ d, d < 24 ∧ sc_farY us xs ys a b c d) := by
  constructor
  · rintro ⟨d, hd, u, ho, hk⟩
    refine ⟨fun z => nz_opp0' (z ▸ ho), d, hd, u, ?_, ?_, ?_, ho, Int64.not_lt.mpr hk⟩
    · rintro rfl; rw [nz_ta] at ho; exact nz_opp0 ho
    · rintro rfl; rw [nz_tb] at ho; exact nz_opp0 ho
    · rintro rfl; exact nz_opps ho
  · rintro ⟨_, d, hd, u, _, _, _, ho, hk⟩
    exact ⟨d, hd, u, ho, Int64.not_lt.mp hk⟩
theorem nz_link (hok : dm_ok fc us xs ys) {a b : Nat} (ha : a < 24) (hb : b < 24) (ua : us a ≠ 0) (ub : us b ≠ 0) {c : Nat} (hc : c < 24) : sc_linkX us xs ys a b c ↔ sc_linkY us xs ys a b c := by
  unfold sc_linkX sc_linkY
  rw [nz_far]
  constructor
  · rintro ⟨u, h1, h2, h3⟩
    refine ⟨u, h1, h2, ?_⟩
    rcases h3 with ⟨h3, h4⟩ | h3
    · refine Or.inl ⟨h4, ?_⟩
      simp only [Int32.le_iff_toInt_le, Int32.lt_iff_toInt_lt, nz_0] at h3 ⊢; omega
    · exact Or.inr h3
  · rintro ⟨u, h1, h2, h3⟩
    refine ⟨u, h1, h2, ?_⟩
    rcases h3 with ⟨h3, h4⟩ | h3
    · have := nz_dot hok ha hb hc ua ub u h1 h2 h3
      have h5 : (dm_o xs ys a b c).toInt ≠ 0 := fun z => this (Int32.toInt_inj.mp (z.trans nz_0.symm))
      refine Or.inl ⟨?_, h3⟩
      simp only [Int32.le_iff_toInt_le, Int32.lt_iff_toInt_lt, nz_0] at h4 ⊢; omega
    · exact Or.inr h3
theorem nz_hs (hok : dm_ok fc us xs ys) : ∀ a b, a < 24 → b < 24 → us a ≠ 0 → us b ≠ 0 → a ≠ b → (sc_hsX us xs ys a b ↔ sc_hsY us xs ys a b) := by
  intro a b ha hb ua ub ab
  constructor
  · intro h
    refine ⟨fun c hc u => ?_, fun c hc u ht => ?_⟩
    · by_cases e1 : c = a
      · rw [e1, nz_ta]; decide
      · by_cases e2 : c = b
        · rw [e2, nz_tb]; decide
        · by_cases g : 0 < dm_t xs ys a b c
          · exact Int32.le_of_lt g
          · rw [(h c hc ⟨u, e1, e2⟩ g).2]; decide
    · by_cases e1 : c = a
      · subst e1
        have : dm_o xs ys c b c = 0 := by unfold dm_o; grind
        rw [this]; decide
      · by_cases e2 : c = b
        · subst e2
          have : dm_o xs ys a c c = 0 := by unfold dm_o; grind
          rw [this]; decide
        · have := (h c hc ⟨u, e1, e2⟩ (by rw [ht]; decide)).1
          simp only [Int32.le_iff_toInt_le, Int32.lt_iff_toInt_lt, nz_0] at this ⊢; omega
  · rintro ⟨h1, h2⟩ c hc ⟨u, ca, cb⟩ g
    have g1 := h1 c hc u
    have ht : dm_t xs ys a b c = 0 := by
      apply Int32.toInt_inj.mp
      simp only [Int32.le_iff_toInt_le, Int32.lt_iff_toInt_lt, nz_0] at g g1 ⊢; omega
    have h3 := h2 c hc u ht
    have := nz_dot hok ha hb hc ua ub u ca cb ht
    have h5 : (dm_o xs ys a b c).toInt ≠ 0 := fun z => this (Int32.toInt_inj.mp (z.trans nz_0.symm))
    refine ⟨?_, ht⟩
    simp only [Int32.le_iff_toInt_le, Int32.lt_iff_toInt_lt, nz_0] at h3 ⊢; omega
theorem nz_dsym (a b : Nat) : dm_d xs ys a b = dm_d xs ys b a := by unfold dm_d; grind
end

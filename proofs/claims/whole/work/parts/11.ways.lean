/-! the reference reckons its ways -/
theorem wa_ix (i j : Nat) : nI i * 24 + nI j = nI (i * 24 + j) := by
  rw [show (24 : Int32) = nI 24 from by decide, show nI i * nI 24 = nI (i * 24) from (Int32.ofNat_mul i 24).symm, nI_add]
theorem wa_in {i j : Nat} (hi : i < 24) (hj : j < 24) : vp_in (nI (i * 24 + j)) 576 := vp_in_nI (by omega) (by decide)
theorem wa_cl {i j : Nat} (hi : i < 24) (hj : j < 24) : (nI (i * 24 + j)).toNatClampNeg = i * 24 + j := nI_clamp (by omega)
def wa_w (a : Nat → Int32) (i j : Nat) : Int := (a (i * 24 + j)).toInt
def wa_N (w : Nat → Nat → Int) (k p q : Nat) : Int := min (w p q) (max (w p k) (w k q))
theorem wa_ne {p q i j : Nat} (hq : q < 24) (hj : j < 24) (h : ¬ (p = i ∧ q = j)) : p * 24 + q ≠ i * 24 + j := by omega
def wa_I (U : Nat → Prop) (d : Nat → Nat → Int) (k : Nat) (w : Nat → Nat → Int) : Prop :=
  (∀ p q, p < 24 → q < 24 → 0 ≤ w p q ∧ w p q ≤ d p q) ∧ (∀ p q, U p → U q → tr_R U d (w p q) p q) ∧ (∀ k', k' < k → U k' → ∀ p q, p < 24 → q < 24 → w p q ≤ max (w p k') (w k' q))
section
variable {U : Nat → Prop} {d w w' : Nat → Nat → Int} {k : Nat}
theorem wa_skip (h : wa_I U d k w) (hk : ¬ U k) : wa_I U d (k + 1) w := by
  refine ⟨h.1, h.2.1, fun k' l u => ?_⟩
  by_cases x : k' = k
  · rw [x] at u; exact absurd u hk
  · exact h.2.2 k' (by omega) u
theorem wa_step (hU : ∀ x, U x → x < 24) (h : wa_I U d k w) (hk : U k) (hw : ∀ p q, p < 24 → q < 24 → w' p q = wa_N w k p q) : wa_I U d (k + 1) w' := by
  obtain ⟨h1, h2, h3⟩ := h
  have lk := hU k hk
  refine ⟨fun p q hp hq => ?_, fun p q up uq => ?_, fun k' l u p q hp hq => ?_⟩
  · rw [hw p q hp hq]
    have a := h1 p q hp hq; have b := h1 p k hp lk; have c := h1 k q lk hq
    unfold wa_N; omega
  · rw [hw p q (hU p up) (hU q uq)]
    unfold wa_N
    by_cases x : w p q ≤ max (w p k) (w k q)
    · rw [show min (w p q) (max (w p k) (w k q)) = w p q by omega]; exact h2 p q up uq
    · rw [show min (w p q) (max (w p k) (w k q)) = max (w p k) (w k q) by omega]
      exact tr_trans (tr_le (by omega) (h2 p k up hk)) (tr_le (by omega) (h2 k q hk uq))
  · have lk' := hU k' u
    rw [hw p q hp hq, hw p k' hp lk', hw k' q lk' hq]
    unfold wa_N
    by_cases x : k' = k
    · subst x; omega
    · have a := h3 k' (by omega) u p q hp hq
      have b := h3 k' (by omega) u p k hp lk
      have c := h3 k' (by omega) u k q lk hq
      omega
def wa_S (U : Nat → Prop) (d w : Nat → Nat → Int) : Prop := ∀ i j, U i → U j → ∀ m, w i j ≤ m ↔ (0 ≤ m ∧ tr_R U d m i j)
theorem wa_end (hU : ∀ x, U x → x < 24) (hd : ∀ x, U x → d x x ≤ 0) (h : wa_I U d 24 w) : wa_S U d w := by
  obtain ⟨h1, h2, h3⟩ := h
  intro i j ui uj m
  constructor
  · intro hm
    have := h1 i j (hU i ui) (hU j uj)
    exact ⟨by omega, tr_le hm (h2 i j ui uj)⟩
  · rintro ⟨hm, r⟩
    refine (r (fun y => U y ∧ w i y ≤ m) ⟨ui, ?_⟩ fun x y sx ux uy hd => ⟨uy, ?_⟩).2
    · have := h1 i i (hU i ui) (hU i ui); have := hd i ui; omega
    · have a := h3 x (hU x ux) ux i y (hU i ui) (hU y uy)
      have b := h1 x y (hU x ux) (hU y uy)
      have c := sx.2
      omega
end
section
variable {us xs ys wy : Nat → Int32} {postS : SY → Prop}
theorem wy_58 {J2 J10 : Int32 → (Nat → Int32) → (Nat → Int32) → (Nat → Int32) → (Nat → Int32) → Prop} {x1 m : Int32} {i j : Nat} (hi : i < 24) (hj : j < 24)
    (h0 : wa_w wy i j ≤ m.toInt → J10 (nI (j + 1)) us xs ys wy) (h1 : m.toInt < wa_w wy i j → J10 (nI (j + 1)) us xs ys (upd wy (i * 24 + j) m)) :
    wY_over_58 postS J2 J10 x1 (nI i) (nI j) m us xs ys wy := by
  simp only [wY_over_58, wa_ix, wa_in hi hj, wa_cl hi hj, true_and, nI_1, forall_eq]
  refine ⟨fun z => h0 (Int32.le_iff_toInt_le.mp z), fun z => h1 ?_⟩
  rw [Int32.le_iff_toInt_le] at z
  unfold wa_w; omega
theorem wy_in {J2 : Int32 → (Nat → Int32) → (Nat → Int32) → (Nat → Int32) → (Nat → Int32) → Prop} {w : Nat → Nat → Int} {i k : Nat} (hi : i < 24) (hk : k < 24) (h0 : ∀ p q, p < 24 → q < 24 → wa_w wy p q = if p < i then wa_N w k p q else w p q)
    (h : ∀ a, (∀ p q, p < 24 → q < 24 → wa_w a p q = if p < i + 1 then wa_N w k p q else w p q) → J2 (nI (i + 1)) us xs ys a) :
    ∃ n, wY_over_10 postS J2 (nI k) (nI i) n 0 us xs ys wy := by
  refine loop_0 (fun n j (a : Nat → Int32) => wY_over_10 postS J2 (nI k) (nI i) n (nI j) us xs ys a) (fun j a => ∀ p q, p < 24 → q < 24 → wa_w a p q = if p < i ∨ (p = i ∧ q < j) then wa_N w k p q else w p q) 24 wy ?_ ?_ ?_
  · intro p q hp hq
    rw [h0 p q hp hq]
    by_cases x : p < i
    · rw [if_pos x, if_pos (Or.inl x)]
    · rw [if_neg x, if_neg (by omega)]
  · intro n a ha
    rw [wY_over_10]
    refine br_t ba_le24 (nm_r (nI_1 i) (h a fun p q hp hq => ?_))
    rw [ha p q hp hq]
    by_cases x : p < i + 1
    · rw [if_pos x, if_pos (by omega)]
    · rw [if_neg x, if_neg (by omega)]
  · intro n j a hj ha ih
    rw [wY_over_10]
    have e1 : (a (i * 24 + k)).toInt = w i k := by
      have := ha i k hi hk
      unfold wa_w at this
      rw [this]
      by_cases x : i < i ∨ (i = i ∧ k < j)
      · rw [if_pos x]; unfold wa_N; omega
      · rw [if_neg x]
    have e2 : (a (k * 24 + j)).toInt = w k j := by
      have := ha k j hk hj
      unfold wa_w at this
      rw [this]
      by_cases x : k < i ∨ (k = i ∧ j < j)
      · rw [if_pos x]; unfold wa_N; omega
      · rw [if_neg x]
    have e3 : wa_w a i j = w i j := by rw [ha i j hi hj, if_neg (by omega)]
    have K : ∀ m : Int32, m.toInt = max (w i k) (w k j) → wY_over_58 postS J2 (wY_over_10 postS J2 (nI k) (nI i) n) (nI k) (nI i) (nI j) m us xs ys a := by
      intro m hm
      refine wy_58 hi hj (fun z => ih a fun p q hp hq => ?_) (fun z => ih _ fun p q hp hq => ?_)
      · rw [ha p q hp hq]
        by_cases x : p = i ∧ q = j
        · obtain ⟨rfl, rfl⟩ := x
          rw [if_neg (by omega), if_pos (by omega)]
          rw [e3] at z
          unfold wa_N; omega
        · by_cases y : p < i ∨ (p = i ∧ q < j)
          · rw [if_pos y, if_pos (by omega)]
          · rw [if_neg y, if_neg (by omega)]
      · by_cases x : p = i ∧ q = j
        · obtain ⟨rfl, rfl⟩ := x
          rw [if_pos (by omega)]
          rw [e3] at z
          unfold wa_w; rw [dm_us]; unfold wa_N; omega
        · unfold wa_w; rw [dm_un (wa_ne hq hj x)]
          have := ha p q hp hq
          unfold wa_w at this
          rw [this]
          by_cases y : p < i ∨ (p = i ∧ q < j)
          · rw [if_pos y, if_pos (by omega)]
          · rw [if_neg y, if_neg (by omega)]
    simp only [wa_ix, wa_in hi hk, wa_cl hi hk, wa_in hk hj, wa_cl hk hj, true_and, forall_eq]
    refine br_f (ba_ge hj) ⟨fun z => K _ ?_, fun z => K _ ?_⟩
    · rw [Int32.le_iff_toInt_le] at z; omega
    · rw [Int32.le_iff_toInt_le] at z; omega
theorem wy_over {k : Nat} (hk : k < 24) (h : ∀ a, (∀ p q, p < 24 → q < 24 → wa_w a p q = wa_N (wa_w wy) k p q) → postS (us, xs, ys, a)) : wpY_over postS (us, xs, ys, wy) (nI k) := by
  simp only [wpY_over]
  refine loop_0 (fun n i (a : Nat → Int32) => wY_over_2 postS (nI k) n (nI i) us xs ys a) (fun i a => ∀ p q, p < 24 → q < 24 → wa_w a p q = if p < i then wa_N (wa_w wy) k p q else wa_w wy p q) 24 wy ?_ ?_ ?_
  · intro p q hp hq; rw [if_neg (by omega)]
  · intro n a ha
    rw [wY_over_2]
    exact br_t ba_le24 (h a fun p q hp hq => by rw [ha p q hp hq, if_pos hp])
  · intro n i a hi ha ih
    rw [wY_over_2]
    exact br_f (ba_ge hi) (wy_in hi hk ha fun b hb => ih b hb)
theorem wy_ways {fc : Int32} (hok : dm_ok fc us xs ys) (h : ∀ a, wa_S (dm_U us) (dm_D xs ys) (wa_w a) → (∀ p q, p < 24 → q < 24 → 0 ≤ wa_w a p q) → postS (us, xs, ys, a)) : wpY_ways postS (us, xs, ys, wy) := by
  obtain ⟨h1, h2, h3, h4, h5⟩ := hok
  have dn : ∀ p q, 0 ≤ dm_D xs ys p q := fun p q => by unfold dm_D; rw [nz_d h3 h4]; exact (nz_sq _ _).1
  have d0 : ∀ p, dm_D xs ys p p = 0 := fun p => by unfold dm_D; rw [nz_d h3 h4]; simp
  simp only [wpY_ways]
  refine loop_0 (fun n i (a : Nat → Int32) => wY_ways_2 postS n (nI i) us xs ys a) (fun i a => ∀ p q, p < i → q < 24 → wa_w a p q = dm_D xs ys p q) 24 wy (fun p q hp => by omega) ?_ ?_
  · intro n a ha
    rw [wY_ways_2]
    refine br_t ba_le24 ?_
    refine loop_0 (fun n k (a : Nat → Int32) => wY_ways_47 postS n (nI k) us xs ys a) (fun k a => wa_I (dm_U us) (dm_D xs ys) k (wa_w a)) 24 a ?_ ?_ ?_
    · refine ⟨fun p q hp hq => ?_, fun p q up uq => ?_, fun k' l => by omega⟩
      · rw [ha p q hp hq]; exact ⟨dn p q, Int.le_refl _⟩
      · rw [ha p q up.1 uq.1]; exact tr_hop up uq (Int.le_refl _)
    · intro n b hb
      rw [wY_ways_47]
      exact br_t ba_le24 (h b (wa_end (fun x hx => hx.1) (fun x _ => by rw [d0 x]; omega) hb) fun p q hp hq => (hb.1 p q hp hq).1)
    · intro n k b hk hb ih
      rw [wY_ways_47]
      simp only [ba_in hk, ba_cl hk, true_and, nI_1, forall_eq]
      refine br_f (ba_ge hk) ⟨fun u => ih b (wa_skip hb fun z => z.2 u), fun u => wy_over hk fun c hc => ?_⟩
      exact ih c (wa_step (fun x hx => hx.1) hb ⟨hk, u⟩ hc)
  · intro n i a hi ha ih
    rw [wY_ways_2]
    refine br_f (ba_ge hi) ?_
    refine loop_0 (fun n' j (b : Nat → Int32) => wY_ways_10 postS (wY_ways_2 postS n) (nI i) n' (nI j) us xs ys b) (fun j b => (∀ p q, p < i → q < 24 → wa_w b p q = dm_D xs ys p q) ∧ ∀ q, q < j → wa_w b i q = dm_D xs ys i q) 24 a ⟨ha, fun q hq => by omega⟩ ?_ ?_
    · rintro n' b ⟨hb1, hb2⟩
      rw [wY_ways_10]
      refine br_t ba_le24 (nm_r (nI_1 i) (ih b fun p q hp hq => ?_))
      by_cases x : p = i
      · rw [x]; exact hb2 q hq
      · exact hb1 p q (by omega) hq
    · rintro n' j b hj ⟨hb1, hb2⟩ ih'
      rw [wY_ways_10]
      simp only [wa_ix, wa_in hi hj, wa_cl hi hj, true_and, nI_1, forall_eq]
      refine br_f (ba_ge hj) (ry_dist hi hj (ih' _ ⟨fun p q hp hq => ?_, fun q hq => ?_⟩))
      · unfold wa_w; rw [dm_un (wa_ne hq hj (by omega))]; exact hb1 p q hp hq
      · by_cases x : q = j
        · rw [x]; unfold wa_w; rw [dm_us]; rfl
        · unfold wa_w; rw [dm_un (wa_ne (by omega) hj (by omega))]; exact hb2 q (by omega)
end
/-- back: the least way to an earlier point -/
def bk_f (us wy : Nat → Int32) (i : Nat) : Nat → Int32
  | 0 => -1
  | j + 1 => if us j = 0 then bk_f us wy i j else if bk_f us wy i j < 0 then wy (i * 24 + j) else if bk_f us wy i j ≤ wy (i * 24 + j) then bk_f us wy i j else wy (i * 24 + j)
def bk_v (us wy : Nat → Int32) (i : Nat) : Int32 := if us i = 0 then -1 else bk_f us wy i i
section
variable {us xs ys wy : Nat → Int32} {post : Int32 → Prop}
theorem wy_48 {J : Int32 → Int32 → Prop} {i j : Nat} (hi : i < 24) (hj : j < 24) (h : J (wy (i * 24 + j)) (nI (j + 1))) : wY_back_48 post J (nI i) (nI j) us xs ys wy := by
  simp only [wY_back_48, wa_ix, wa_in hi hj, wa_cl hi hj, true_and, nI_1, forall_eq]; exact h
theorem wy_back {i : Nat} (hi : i < 24) (h : post (bk_v us wy i)) : wpY_back post (us, xs, ys, wy) (nI i) := by
  simp only [wpY_back, ba_in hi, ba_cl hi, true_and]
  refine ⟨fun u => ?_, fun u => ?_⟩
  · unfold bk_v at h; rw [if_pos u] at h; exact h
  · unfold bk_v at h; rw [if_neg u] at h
    refine loop_0 (fun n j (b : Int32) => wY_back_15 post (nI i) us xs ys wy n b (nI j)) (fun j b => b = bk_f us wy i j) i (-1) rfl ?_ ?_
    · rintro n b rfl
      rw [wY_back_15]
      exact br_t (nI_le (Nat.le_refl i) (by omega)) h
    · rintro n j b hj rfl ih
      have hj' : j < 24 := by omega
      rw [wY_back_15]
      simp only [ba_in hj', ba_cl hj', wa_ix, wa_in hi hj', wa_cl hi hj', true_and, nI_1, forall_eq]
      refine br_f (nI_ge hj (by omega)) ⟨fun v => ih _ ?_, fun v => ⟨fun x => wy_48 hi hj' (ih _ ?_), fun x => ⟨fun y => ih _ ?_, fun y => wy_48 hi hj' (ih _ ?_)⟩⟩⟩
      · rw [bk_f, if_pos v]
      · rw [bk_f, if_neg v, if_pos x]
      · rw [bk_f, if_neg v, if_neg x, if_pos y]
      · rw [bk_f, if_neg v, if_neg x, if_neg y]
theorem wy_bkf {i : Nat} (hi : i < 24) (hn : ∀ p q, p < 24 → q < 24 → 0 ≤ wa_w wy p q) : ∀ j, j ≤ i → ((¬ ∃ k, k < j ∧ dm_U us k) → (bk_f us wy i j).toInt = -1) ∧ (∀ k, k < j → dm_U us k → (bk_f us wy i j).toInt ≤ wa_w wy i k) ∧
    ((∃ k, k < j ∧ dm_U us k) → ∃ k, k < j ∧ dm_U us k ∧ (bk_f us wy i j).toInt = wa_w wy i k) := by
  intro j
  induction j with
  | zero => intro _; exact ⟨fun _ => (show (-1 : Int32).toInt = -1 from by decide), fun k hk => by omega, fun ⟨k, hk, _⟩ => by omega⟩
  | succ j ih =>
    intro hj
    have hj' : j < 24 := by omega
    obtain ⟨i1, i2, i3⟩ := ih (by omega)
    by_cases u : us j = 0
    · have e : bk_f us wy i (j + 1) = bk_f us wy i j := by rw [bk_f, if_pos u]
      have N : ∀ k, k < j + 1 → dm_U us k → k < j := fun k hk uk => by
        by_cases x : k = j
        · rw [x] at uk; exact absurd u uk.2
        · omega
      rw [e]
      refine ⟨fun z => i1 fun ⟨k, hk, uk⟩ => z ⟨k, by omega, uk⟩, fun k hk uk => i2 k (N k hk uk) uk, fun ⟨k, hk, uk⟩ => ?_⟩
      obtain ⟨k', a, b⟩ := i3 ⟨k, N k hk uk, uk⟩
      exact ⟨k', by omega, b⟩
    · have uj : dm_U us j := ⟨hj', u⟩
      refine ⟨fun z => absurd ⟨j, by omega, uj⟩ z, ?_⟩
      by_cases x : ∃ k, k < j ∧ dm_U us k
      · obtain ⟨k, a, b, c⟩ := i3 x
        have nn : ¬ bk_f us wy i j < 0 := by
          rw [Int32.lt_iff_toInt_lt, nz_0, c]; have := hn i k hi (by omega); omega
        by_cases y : bk_f us wy i j ≤ wy (i * 24 + j)
        · have e : bk_f us wy i (j + 1) = bk_f us wy i j := by rw [bk_f, if_neg u, if_neg nn, if_pos y]
          rw [e]
          refine ⟨fun k' hk uk => ?_, fun _ => ⟨k, by omega, b, c⟩⟩
          by_cases z : k' = j
          · rw [z]; exact Int32.le_iff_toInt_le.mp y
          · exact i2 k' (by omega) uk
        · have e : bk_f us wy i (j + 1) = wy (i * 24 + j) := by rw [bk_f, if_neg u, if_neg nn, if_neg y]
          rw [e]
          refine ⟨fun k' hk uk => ?_, fun _ => ⟨j, by omega, uj, rfl⟩⟩
          by_cases z : k' = j
          · rw [z]; exact Int.le_refl _
          · have := i2 k' (by omega) uk
            rw [Int32.le_iff_toInt_le] at y
            omega
      · have e0 := i1 x
        have e : bk_f us wy i (j + 1) = wy (i * 24 + j) := by rw [bk_f, if_neg u, if_pos (by rw [Int32.lt_iff_toInt_lt, nz_0, e0]; omega)]
        rw [e]
        refine ⟨fun k' hk uk => ?_, fun _ => ⟨j, by omega, uj, rfl⟩⟩
        by_cases z : k' = j
        · rw [z]; exact Int.le_refl _
        · exact absurd ⟨k', by omega, uk⟩ x
theorem wy_B (hn : ∀ p q, p < 24 → q < 24 → 0 ≤ wa_w wy p q) : tr_B (dm_U us) (wa_w wy) (fun i => (bk_v us wy i).toInt) := by
  intro i hi
  have m1 : (-1 : Int32).toInt = -1 := by decide
  by_cases u : us i = 0
  · have e : bk_v us wy i = -1 := if_pos u
    dsimp only
    rw [e]
    exact ⟨fun _ => m1, fun z => absurd u z.2, fun z => absurd u z.2⟩
  · have e : bk_v us wy i = bk_f us wy i i := if_neg u
    dsimp only
    rw [e]
    obtain ⟨a, b, c⟩ := wy_bkf (us := us) hi hn i (Nat.le_refl i)
    exact ⟨fun z => z.elim (fun y => absurd ⟨hi, u⟩ y) a, fun _ => b, fun _ => c⟩
end

/-! hull sides, hullArea2, nearest, neighbour -/
section
variable {fc : Int32} {us xs ys wt gp od ed wy : Nat → Int32} {post : Int32 → Prop}
def sc_hsX (us xs ys : Nat → Int32) (a b : Nat) : Prop := ∀ c, c < 24 → (us c ≠ 0 ∧ c ≠ a ∧ c ≠ b → ¬ 0 < dm_t xs ys a b c → (¬ 0 ≤ dm_o xs ys a b c ∧ dm_t xs ys a b c = 0))
theorem sx_hside {a b : Nat} (ha : a < 24) (hb : b < 24) (h1 : sc_hsX us xs ys a b → post 1) (h0 : ¬ sc_hsX us xs ys a b → post 0) :
    wpX_isHullSide post (fc, us, xs, ys, wt, gp, od, ed) (nI a) (nI b) := by
  simp only [wpX_isHullSide]
  refine ba_gl (fun n x => wX_isHullSide_2 post (nI a) (nI b) fc us xs ys wt gp od ed n x) (fun c => (us c ≠ 0 ∧ c ≠ a ∧ c ≠ b → ¬ 0 < dm_t xs ys a b c → (¬ 0 ≤ dm_o xs ys a b c ∧ dm_t xs ys a b c = 0))) (A := post 1) (B := post 0) ?_ ?_ ?_ h1 h0
  · intro h n; exact br_t ba_le24 h
  · intro n c hc hP hW
    rw [wX_isHullSide_2]
    simp only [nI_1, forall_eq]
    refine br_f (ba_ge hc) (rx_other hc ha hb (fun g => br_f ba_10 ?_) (fun g => br_t rfl hW))
    exact rx_turn ha hb hc ⟨fun _ => hW, fun f => rx_betw ha hb hc (fun e => br_f ba_10 hW) (fun e => absurd (hP g f) e)⟩
  · intro n c hc hP hB
    rw [wX_isHullSide_2]
    simp only [nI_1, forall_eq]
    refine br_f (ba_ge hc) (rx_other hc ha hb (fun g => br_f ba_10 ?_) (fun g => absurd (fun f => absurd f g) hP))
    exact rx_turn ha hb hc ⟨fun f => absurd (fun _ e => absurd f e) hP, fun f => rx_betw ha hb hc (fun e => absurd (fun _ _ => e) hP) (fun e => br_t rfl hB)⟩
theorem sy_long {a b : Nat} (ha : a < 24) (hb : b < 24) (h1 : (∀ c, c < 24 → us c ≠ 0 → dm_t xs ys a b c = 0 → ¬ 0 < dm_o xs ys a b c) → post 1) (h0 : (¬ ∀ c, c < 24 → us c ≠ 0 → dm_t xs ys a b c = 0 → ¬ 0 < dm_o xs ys a b c) → post 0) :
    wpY_longest post (us, xs, ys, wy) (nI a) (nI b) := by
  simp only [wpY_longest]
  refine ba_gl (fun n x => wY_longest_2 post (nI a) (nI b) us xs ys wy n x) (fun c => us c ≠ 0 → dm_t xs ys a b c = 0 → ¬ 0 < dm_o xs ys a b c) (A := post 1) (B := post 0) ?_ ?_ ?_ h1 h0
  · intro h n; exact br_t ba_le24 h
  · intro n c hc hP hW
    rw [wY_longest_2]
    simp only [ba_in hc, ba_cl hc, true_and, nI_1, forall_eq]
    refine br_f (ba_ge hc) ⟨fun _ => hW, fun u => ry_turn ha hb hc ⟨fun g => ?_, fun g => hW⟩⟩
    exact ry_betw ha hb hc (fun _ => br_f ba_10 hW) (fun f => absurd f (hP u g))
  · intro n c hc hP hB
    rw [wY_longest_2]
    simp only [ba_in hc, ba_cl hc, true_and, nI_1, forall_eq]
    refine br_f (ba_ge hc) ⟨fun u => absurd (fun v => absurd u v) hP, fun u => ry_turn ha hb hc ⟨fun g => ?_, fun g => absurd (fun _ v => absurd v g) hP⟩⟩
    exact ry_betw ha hb hc (fun f => absurd (fun _ _ => f) hP) (fun _ => br_t rfl hB)
def sc_hsY (us xs ys : Nat → Int32) (a b : Nat) : Prop := (∀ c, c < 24 → us c ≠ 0 → 0 ≤ dm_t xs ys a b c) ∧ (∀ c, c < 24 → us c ≠ 0 → dm_t xs ys a b c = 0 → ¬ 0 < dm_o xs ys a b c)
theorem sh_in (hE : ∀ a b, a < 24 → b < 24 → us a ≠ 0 → us b ≠ 0 → a ≠ b → (sc_hsX us xs ys a b ↔ sc_hsY us xs ys a b)) {a : Nat} (ha : a < 24) :
    ∀ d b acc, b + d = 24 → ∃ acc' : Int32,
      (∀ (post : Int32 → Prop) (J : Int32 → Int32 → Prop), J acc' (nI (a + 1)) → wX_hullArea2_12 post J (nI a) fc us xs ys wt gp od ed (d + 1) acc (nI b)) ∧
      (∀ (post : Int32 → Prop) (J : Int32 → Int32 → Prop), J acc' (nI (a + 1)) → wY_hullArea2_12 post J (nI a) us xs ys wy (d + 1) acc (nI b)) := by
  intro d
  induction d with
  | zero =>
    intro b acc hb
    cases (by omega : b = 24)
    exact ⟨acc, fun _ _ h => br_t ba_le24 (nm_r (nI_1 a) h), fun _ _ h => br_t ba_le24 (nm_r (nI_1 a) h)⟩
  | succ d ih =>
    intro b acc hd
    have hb : b < 24 := by omega
    by_cases hs : us a ≠ 0 ∧ us b ≠ 0 ∧ a ≠ b ∧ sc_hsX us xs ys a b
    · obtain ⟨u1, u2, u3, u4⟩ := hs
      have u5 := (hE a b ha hb u1 u2 u3).mp u4
      obtain ⟨acc', hX, hY⟩ := ih (b + 1) (acc + (xs a * ys b - xs b * ys a)) (by omega)
      refine ⟨acc', fun post J h => ?_, fun post J h => ?_⟩
      · rw [wX_hullArea2_12]
        simp only [ba_in ha, ba_cl ha, ba_in hb, ba_cl hb, true_and, nI_1, forall_eq, ba_eq ha hb]
        refine br_f (ba_ge hb) (br_f u3 (br_f u1 (br_f u2 ?_)))
        exact sx_hside ha hb (fun _ => br_f ba_10 (hX post J h)) (fun g => absurd u4 g)
      · rw [wY_hullArea2_12]
        simp only [ba_in ha, ba_cl ha, ba_in hb, ba_cl hb, true_and, nI_1, forall_eq, ba_eq ha hb]
        refine br_f (ba_ge hb) (br_f u1 (br_f u2 (br_f u3 ?_)))
        refine sy_right ha hb (fun _ => br_f ba_10 (sy_long ha hb (fun _ => br_f ba_10 ?_) (fun g => absurd u5.2 g))) (fun g => absurd u5.1 g)
        rw [Int32.mul_comm (ys a)]
        exact hY post J h
    · obtain ⟨acc', hX, hY⟩ := ih (b + 1) acc (by omega)
      refine ⟨acc', fun post J h => ?_, fun post J h => ?_⟩
      · rw [wX_hullArea2_12]
        simp only [ba_in ha, ba_cl ha, ba_in hb, ba_cl hb, true_and, nI_1, forall_eq, ba_eq ha hb]
        refine br_f (ba_ge hb) ⟨fun _ => hX post J h, fun u3 => ⟨fun _ => hX post J h, fun u1 => ⟨fun _ => hX post J h, fun u2 => ?_⟩⟩⟩
        exact sx_hside ha hb (fun g => absurd ⟨u1, u2, u3, g⟩ hs) (fun _ => br_t rfl (hX post J h))
      · rw [wY_hullArea2_12]
        simp only [ba_in ha, ba_cl ha, ba_in hb, ba_cl hb, true_and, nI_1, forall_eq, ba_eq ha hb]
        refine br_f (ba_ge hb) ⟨fun _ => hY post J h, fun u1 => ⟨fun _ => hY post J h, fun u2 => ⟨fun _ => hY post J h, fun u3 => ?_⟩⟩⟩
        refine sy_right ha hb (fun g => br_f ba_10 (sy_long ha hb (fun f => absurd ⟨u1, u2, u3, (hE a b ha hb u1 u2 u3).mpr ⟨g, f⟩⟩ hs) (fun _ => br_t rfl (hY post J h)))) (fun _ => br_t rfl (hY post J h))
theorem sh_out (hE : ∀ a b, a < 24 → b < 24 → us a ≠ 0 → us b ≠ 0 → a ≠ b → (sc_hsX us xs ys a b ↔ sc_hsY us xs ys a b)) :
    ∀ d a acc, a + d = 24 → ∃ r : Int32,
      (∀ (post : Int32 → Prop), post r → wX_hullArea2_4 post fc us xs ys wt gp od ed (d + 1) acc (nI a)) ∧
      (∀ (post : Int32 → Prop), post r → wY_hullArea2_4 post us xs ys wy (d + 1) acc (nI a)) := by
  intro d
  induction d with
  | zero =>
    intro a acc ha
    cases (by omega : a = 24)
    exact ⟨acc, fun _ h => br_t ba_le24 h, fun _ h => br_t ba_le24 h⟩
  | succ d ih =>
    intro a acc hd
    have ha : a < 24 := by omega
    obtain ⟨acc', hX, hY⟩ := sh_in (fc := fc) (wt := wt) (gp := gp) (od := od) (ed := ed) (wy := wy) hE ha 24 0 acc (by omega)
    obtain ⟨r, kX, kY⟩ := ih (a + 1) acc' (by omega)
    exact ⟨r, fun post h => br_f (ba_ge ha) ⟨25, hX post _ (kX post h)⟩, fun post h => br_f (ba_ge ha) ⟨25, hY post _ (kY post h)⟩⟩
theorem sn_near (x y : Int32) : ∀ d j, j + d = 24 → ∀ best least : Int32, (best = -4 ∨ ∃ b, b < 24 ∧ best = nI b) → ∃ r : Int32,
      (∀ (post : Int32 → Prop), post r → wX_closestTo_10 post x y (-4) fc us xs ys wt gp od ed (d + 1) best least (nI j)) ∧
      (∀ (post : Int32 → Prop), post r → wY_nearest_20 post x y us xs ys wy (d + 1) best least (nI j)) := by
  intro d
  induction d with
  | zero =>
    intro j hj best least _
    cases (by omega : j = 24)
    exact ⟨best, fun _ h => br_t ba_le24 h, fun _ h => br_t ba_le24 h⟩
  | succ d ih =>
    intro j hd best least hb
    have hj : j < 24 := by omega
    have e1 : ∀ p q : Int32, (p - x) * (p - x) + (q - y) * (q - y) = (x - p) * (x - p) + (y - q) * (y - q) := by intro p q; grind
    by_cases hu : us j = 0
    · obtain ⟨r, hX, hY⟩ := ih (j + 1) (by omega) best least hb
      refine ⟨r, fun post h => ?_, fun post h => ?_⟩
      · rw [wX_closestTo_10]
        simp only [ba_in hj, ba_cl hj, true_and, nI_1, forall_eq]
        exact br_f (ba_ge hj) (br_t hu (hX post h))
      · rw [wY_nearest_20]
        simp only [ba_in hj, ba_cl hj, true_and, nI_1, forall_eq]
        exact br_f (ba_ge hj) (br_t hu (hY post h))
    · rcases hb with rfl | ⟨b, hb, rfl⟩
      · obtain ⟨r, hX, hY⟩ := ih (j + 1) (by omega) (nI j) ((x - xs j) * (x - xs j) + (y - ys j) * (y - ys j)) (Or.inr ⟨j, hj, rfl⟩)
        refine ⟨r, fun post h => ?_, fun post h => ?_⟩
        · rw [wX_closestTo_10]
          simp only [ba_in hj, ba_cl hj, true_and, nI_1, forall_eq]
          exact br_f (ba_ge hj) (br_f hu (br_f (ba_n4 hj) (br_t trivial (hX post h))))
        · rw [wY_nearest_20]
          simp only [ba_in hj, ba_cl hj, true_and, nI_1, forall_eq, e1]
          exact br_f (ba_ge hj) (br_f hu (br_t (by decide) (hY post h)))
      · by_cases hl : least ≤ (x - xs j) * (x - xs j) + (y - ys j) * (y - ys j)
        · obtain ⟨r, hX, hY⟩ := ih (j + 1) (by omega) (nI b) least (Or.inr ⟨b, hb, rfl⟩)
          refine ⟨r, fun post h => ?_, fun post h => ?_⟩
          · rw [wX_closestTo_10]
            simp only [ba_in hj, ba_cl hj, true_and, nI_1, forall_eq]
            exact br_f (ba_ge hj) (br_f hu (br_f (ba_n4 hj) (br_f (ba_n4 hb) (br_t hl (hX post h)))))
          · rw [wY_nearest_20]
            simp only [ba_in hj, ba_cl hj, true_and, nI_1, forall_eq, e1]
            exact br_f (ba_ge hj) (br_f hu (br_f (ba_nn hb) (br_t hl (hY post h))))
        · obtain ⟨r, hX, hY⟩ := ih (j + 1) (by omega) (nI j) ((x - xs j) * (x - xs j) + (y - ys j) * (y - ys j)) (Or.inr ⟨j, hj, rfl⟩)
          refine ⟨r, fun post h => ?_, fun post h => ?_⟩
          · rw [wX_closestTo_10]
            simp only [ba_in hj, ba_cl hj, true_and, nI_1, forall_eq]
            exact br_f (ba_ge hj) (br_f hu (br_f (ba_n4 hj) (br_f (ba_n4 hb) (br_f hl (hX post h)))))
          · rw [wY_nearest_20]
            simp only [ba_in hj, ba_cl hj, true_and, nI_1, forall_eq, e1]
            exact br_f (ba_ge hj) (br_f hu (br_f (ba_nn hb) (br_f hl (hY post h))))
theorem sn_neigh {a : Nat} (ha : a < 24) : ∀ d j, j + d = 24 → ∀ best least : Int32, (best = -4 ∨ ∃ b, b < 24 ∧ best = nI b) → ∃ r : Int32,
      (∀ (post : Int32 → Prop), post r → wX_closestTo_10 post (xs a) (ys a) (nI a) fc us xs ys wt gp od ed (d + 1) best least (nI j)) ∧
      (∀ (post : Int32 → Prop), post r → wY_neighbour_19 post (nI a) us xs ys wy (d + 1) best least (nI j)) := by
  intro d
  induction d with
  | zero =>
    intro j hj best least _
    cases (by omega : j = 24)
    exact ⟨best, fun _ h => br_t ba_le24 h, fun _ h => br_t ba_le24 h⟩
  | succ d ih =>
    intro j hd best least hb
    have hj : j < 24 := by omega
    have e1 : dm_d xs ys j a = (xs a - xs j) * (xs a - xs j) + (ys a - ys j) * (ys a - ys j) := by unfold dm_d; grind
    by_cases hu : us j = 0 ∨ j = a
    · obtain ⟨r, hX, hY⟩ := ih (j + 1) (by omega) best least hb
      refine ⟨r, fun post h => ?_, fun post h => ?_⟩
      · rw [wX_closestTo_10]
        simp only [ba_in hj, ba_cl hj, true_and, nI_1, forall_eq, ba_eq hj ha]
        exact br_f (ba_ge hj) ⟨fun _ => hX post h, fun z => br_t (hu.resolve_left z) (hX post h)⟩
      · rw [wY_neighbour_19]
        simp only [ba_in hj, ba_cl hj, true_and, nI_1, forall_eq, ba_eq hj ha]
        exact br_f (ba_ge hj) (ry_dist hj ha ⟨fun _ => hY post h, fun z => br_t (hu.resolve_left z) (hY post h)⟩)
    · have hu1 : ¬ us j = 0 := fun z => hu (Or.inl z)
      have hu2 : ¬ j = a := fun z => hu (Or.inr z)
      rcases hb with rfl | ⟨b, hb, rfl⟩
      · obtain ⟨r, hX, hY⟩ := ih (j + 1) (by omega) (nI j) ((xs a - xs j) * (xs a - xs j) + (ys a - ys j) * (ys a - ys j)) (Or.inr ⟨j, hj, rfl⟩)
        refine ⟨r, fun post h => ?_, fun post h => ?_⟩
        · rw [wX_closestTo_10]
          simp only [ba_in hj, ba_cl hj, true_and, nI_1, forall_eq, ba_eq hj ha]
          exact br_f (ba_ge hj) (br_f hu1 (br_f hu2 (br_t trivial (hX post h))))
        · rw [wY_neighbour_19]
          simp only [ba_in hj, ba_cl hj, true_and, nI_1, forall_eq, ba_eq hj ha]
          refine br_f (ba_ge hj) (ry_dist hj ha (br_f hu1 (br_f hu2 (br_t (by decide) ?_))))
          rw [e1]; exact hY post h
      · by_cases hl : least ≤ (xs a - xs j) * (xs a - xs j) + (ys a - ys j) * (ys a - ys j)
        · obtain ⟨r, hX, hY⟩ := ih (j + 1) (by omega) (nI b) least (Or.inr ⟨b, hb, rfl⟩)
          refine ⟨r, fun post h => ?_, fun post h => ?_⟩
          · rw [wX_closestTo_10]
            simp only [ba_in hj, ba_cl hj, true_and, nI_1, forall_eq, ba_eq hj ha]
            exact br_f (ba_ge hj) (br_f hu1 (br_f hu2 (br_f (ba_n4 hb) (br_t hl (hX post h)))))
          · rw [wY_neighbour_19]
            simp only [ba_in hj, ba_cl hj, true_and, nI_1, forall_eq, ba_eq hj ha]
            exact br_f (ba_ge hj) (ry_dist hj ha (br_f hu1 (br_f hu2 (br_f (ba_nn hb) (br_t (by rw [e1]; exact hl) (hY post h))))))
        · obtain ⟨r, hX, hY⟩ := ih (j + 1) (by omega) (nI j) ((xs a - xs j) * (xs a - xs j) + (ys a - ys j) * (ys a - ys j)) (Or.inr ⟨j, hj, rfl⟩)
          refine ⟨r, fun post h => ?_, fun post h => ?_⟩
          · rw [wX_closestTo_10]
            simp only [ba_in hj, ba_cl hj, true_and, nI_1, forall_eq, ba_eq hj ha]
            exact br_f (ba_ge hj) (br_f hu1 (br_f hu2 (br_f (ba_n4 hb) (br_f hl (hX post h)))))
          · rw [wY_neighbour_19]
            simp only [ba_in hj, ba_cl hj, true_and, nI_1, forall_eq, ba_eq hj ha]
            refine br_f (ba_ge hj) (ry_dist hj ha (br_f hu1 (br_f hu2 (br_f (ba_nn hb) (br_f (by rw [e1]; exact hl) ?_)))))
            rw [e1]; exact hY post h
end

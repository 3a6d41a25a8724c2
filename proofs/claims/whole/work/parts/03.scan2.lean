/-! close, emptyCircle, onHull, hullArea2: the scans -/
section
variable {fc : Int32} {us xs ys wt gp od ed wy : Nat → Int32} {post : Int32 → Prop}
theorem sc_ex {P : Nat → Prop} (h : ¬ ∀ c, c < 24 → ¬ P c) : ∃ c, c < 24 ∧ P c := Classical.byContradiction fun z => h fun d hd hf => z ⟨d, hd, hf⟩
theorem sc_nex {P : Nat → Prop} (h : ∀ c, c < 24 → ¬ P c) : ¬ ∃ c, c < 24 ∧ P c := fun ⟨d, hd, hf⟩ => h d hd hf
def sc_closeX (us xs ys : Nat → Int32) (a b c : Nat) : Prop := us c ≠ 0 ∧ c ≠ a ∧ c ≠ b ∧ ¬ dm_d xs ys a b < dm_d xs ys a c + dm_d xs ys b c
theorem sx_close {a b : Nat} (ha : a < 24) (hb : b < 24) (h1 : (¬ ∃ c, c < 24 ∧ sc_closeX us xs ys a b c) → post 1) (h0 : (∃ c, c < 24 ∧ sc_closeX us xs ys a b c) → post 0) :
    ∃ n, wX_close_33 post (nI a) (nI b) (dm_d xs ys a b) fc us xs ys wt gp od ed n 0 := by
  refine ba_gl (fun n x => wX_close_33 post (nI a) (nI b) (dm_d xs ys a b) fc us xs ys wt gp od ed n x) (fun c => ¬ sc_closeX us xs ys a b c) (A := post 1) (B := post 0) ?_ ?_ ?_ (fun h => h1 (sc_nex h)) (fun h => h0 (sc_ex h))
  · intro h n; exact br_t ba_le24 h
  · intro n c hc hP hW
    rw [wX_close_33]
    refine br_f (ba_ge hc) (rx_other hc ha hb (fun g => br_f ba_10 ?_) (fun g => br_t rfl (nm_r (nI_1 c) hW)))
    exact rx_dist ha hc (rx_dist hb hc ⟨fun _ => nm_r (nI_1 c) hW, fun f => absurd ⟨g.1, g.2.1, g.2.2, f⟩ hP⟩)
  · intro n c hc hP hB
    obtain ⟨g1, g2, g3, g4⟩ : sc_closeX us xs ys a b c := Classical.byContradiction hP
    rw [wX_close_33]
    refine br_f (ba_ge hc) (rx_other hc ha hb (fun g => br_f ba_10 ?_) (fun g => absurd ⟨g1, g2, g3⟩ g))
    exact rx_dist ha hc (rx_dist hb hc (br_f g4 hB))
def sc_closeY (us xs ys : Nat → Int32) (a b c : Nat) : Prop := us c ≠ 0 ∧ c ≠ a ∧ c ≠ b ∧ ¬ dm_d xs ys a b < dm_d xs ys c a + dm_d xs ys c b
theorem sy_close {a b : Nat} (ha : a < 24) (hb : b < 24) (h1 : (¬ ∃ c, c < 24 ∧ sc_closeY us xs ys a b c) → post 1) (h0 : (∃ c, c < 24 ∧ sc_closeY us xs ys a b c) → post 0) :
    ∃ n, wY_close_25 post (nI a) (nI b) us xs ys wy n 0 := by
  refine ba_gl (fun n x => wY_close_25 post (nI a) (nI b) us xs ys wy n x) (fun c => ¬ sc_closeY us xs ys a b c) (A := post 1) (B := post 0) ?_ ?_ ?_ (fun h => h1 (sc_nex h)) (fun h => h0 (sc_ex h))
  · intro h n; exact br_t ba_le24 h
  · intro n c hc hP hW
    rw [wY_close_25]
    simp only [ba_in hc, ba_cl hc, true_and, nI_1, forall_eq, ba_eq hc ha, ba_eq hc hb]
    refine br_f (ba_ge hc) ⟨fun _ => hW, fun u1 => ⟨fun _ => hW, fun u2 => ⟨fun _ => hW, fun u3 => ?_⟩⟩⟩
    exact ry_dist hc ha (ry_dist hc hb (ry_dist ha hb ⟨fun _ => hW, fun f => absurd ⟨u1, u2, u3, f⟩ hP⟩))
  · intro n c hc hP hB
    obtain ⟨g1, g2, g3, g4⟩ : sc_closeY us xs ys a b c := Classical.byContradiction hP
    rw [wY_close_25]
    simp only [ba_in hc, ba_cl hc, true_and, nI_1, forall_eq, ba_eq hc ha, ba_eq hc hb]
    refine br_f (ba_ge hc) (br_f g1 (br_f g2 (br_f g3 ?_)))
    exact ry_dist hc ha (ry_dist hc hb (ry_dist ha hb (br_f g4 hB)))
def sc_circX (us xs ys : Nat → Int32) (a b c d : Nat) : Prop := us d ≠ 0 ∧ d ≠ a ∧ d ≠ b ∧ d ≠ c ∧ 0 ≤ dm_k xs ys a b c d
theorem sx_circ {a b c : Nat} (ha : a < 24) (hb : b < 24) (hc : c < 24) (h1 : (¬ ∃ d, d < 24 ∧ sc_circX us xs ys a b c d) → post 1) (h0 : (∃ d, d < 24 ∧ sc_circX us xs ys a b c d) → post 0) :
    ∃ n, wX_emptyCircle_56 post (nI a) (nI b) (nI c) fc us xs ys wt gp od ed n 0 := by
  refine ba_gl (fun n x => wX_emptyCircle_56 post (nI a) (nI b) (nI c) fc us xs ys wt gp od ed n x) (fun d => ¬ sc_circX us xs ys a b c d) (A := post 1) (B := post 0) ?_ ?_ ?_ (fun h => h1 (sc_nex h)) (fun h => h0 (sc_ex h))
  · intro h n; exact br_t ba_le24 h
  · intro n d hd hP hW
    rw [wX_emptyCircle_56]
    simp only [nI_1, forall_eq, ba_eq hd hc]
    refine br_f (ba_ge hd) (rx_other hd ha hb (fun g => br_f ba_10 ⟨fun _ => hW, fun u4 => ?_⟩) (fun g => br_t rfl hW))
    exact rx_out ha hb hc hd (fun _ => br_f ba_10 hW) (fun f => absurd ⟨g.1, g.2.1, g.2.2, u4, f⟩ hP)
  · intro n d hd hP hB
    obtain ⟨g1, g2, g3, g4, g5⟩ : sc_circX us xs ys a b c d := Classical.byContradiction hP
    rw [wX_emptyCircle_56]
    simp only [nI_1, forall_eq, ba_eq hd hc]
    refine br_f (ba_ge hd) (rx_other hd ha hb (fun g => br_f ba_10 (br_f g4 ?_)) (fun g => absurd ⟨g1, g2, g3⟩ g))
    exact rx_out ha hb hc hd (fun f => absurd g5 f) (fun f => br_t rfl hB)
def sc_circY (us xs ys : Nat → Int32) (a b c d : Nat) : Prop := us d ≠ 0 ∧ d ≠ a ∧ d ≠ b ∧ d ≠ c ∧ ¬ dm_k xs ys a b c d < 0
theorem sy_circ {a b c : Nat} (ha : a < 24) (hb : b < 24) (hc : c < 24) (h1 : (¬ ∃ d, d < 24 ∧ sc_circY us xs ys a b c d) → post 1) (h0 : (∃ d, d < 24 ∧ sc_circY us xs ys a b c d) → post 0) :
    ∃ n, wY_emptyCircle_56 post (nI a) (nI b) (nI c) us xs ys wy n 0 := by
  refine ba_gl (fun n x => wY_emptyCircle_56 post (nI a) (nI b) (nI c) us xs ys wy n x) (fun d => ¬ sc_circY us xs ys a b c d) (A := post 1) (B := post 0) ?_ ?_ ?_ (fun h => h1 (sc_nex h)) (fun h => h0 (sc_ex h))
  · intro h n; exact br_t ba_le24 h
  · intro n d hd hP hW
    rw [wY_emptyCircle_56]
    simp only [ba_in hd, ba_cl hd, true_and, nI_1, forall_eq, ba_eq hd ha, ba_eq hd hb, ba_eq hd hc]
    refine br_f (ba_ge hd) ⟨fun _ => hW, fun u1 => ⟨fun _ => hW, fun u2 => ⟨fun _ => hW, fun u3 => ⟨fun _ => hW, fun u4 => ?_⟩⟩⟩⟩
    exact ry_circ ha hb hc hd ⟨fun _ => hW, fun f => absurd ⟨u1, u2, u3, u4, f⟩ hP⟩
  · intro n d hd hP hB
    obtain ⟨g1, g2, g3, g4, g5⟩ : sc_circY us xs ys a b c d := Classical.byContradiction hP
    rw [wY_emptyCircle_56]
    simp only [ba_in hd, ba_cl hd, true_and, nI_1, forall_eq, ba_eq hd ha, ba_eq hd hb, ba_eq hd hc]
    refine br_f (ba_ge hd) (br_f g1 (br_f g2 (br_f g3 (br_f g4 ?_))))
    exact ry_circ ha hb hc hd (br_f g5 hB)
/-- the two marks of allOnOneSide after the places below c -/
def sc_mk (us xs ys : Nat → Int32) (a b : Nat) (S : Int32 → Prop) (c : Nat) (x : Int32) : Prop := (x = 0 ∧ ∀ e, e < c → us e ≠ 0 → ¬ S (dm_t xs ys a b e)) ∨ (x = 1 ∧ ∃ e, e < c ∧ us e ≠ 0 ∧ S (dm_t xs ys a b e))
theorem sc_mk_skip {S : Int32 → Prop} {a b c : Nat} {x : Int32} (h : sc_mk us xs ys a b S c x) (hc : us c = 0 ∨ ¬ S (dm_t xs ys a b c) ∨ x = 1) : sc_mk us xs ys a b S (c + 1) x := by
  rcases h with ⟨h1, h2⟩ | ⟨h1, e, h2, h3⟩
  · refine Or.inl ⟨h1, fun e he hu hs => ?_⟩
    rcases Nat.lt_succ_iff_lt_or_eq.mp he with hl | rfl
    · exact h2 e hl hu hs
    · rcases hc with z | z | z
      · exact hu z
      · exact z hs
      · rw [h1] at z; exact absurd z (by decide)
  · exact Or.inr ⟨h1, e, by omega, h3⟩
theorem sc_mk_set {S : Int32 → Prop} {a b c : Nat} (hu : us c ≠ 0) (hs : S (dm_t xs ys a b c)) : sc_mk us xs ys a b S (c + 1) 1 := Or.inr ⟨rfl, c, by omega, hu, hs⟩
def sc_side (us xs ys : Nat → Int32) (a b : Nat) : Prop := (∀ e, e < 24 → us e ≠ 0 → ¬ ¬ dm_t xs ys a b e ≤ 0) ∨ (∀ e, e < 24 → us e ≠ 0 → ¬ ¬ 0 ≤ dm_t xs ys a b e)
theorem sx_49 {J : Int32 → Int32 → Int32 → Prop} {x1 x2 x4 t z : Int32} {c : Nat}
    (h0 : x4 = 0 → 0 ≤ t → J z 0 (nI (c + 1))) (h1 : (¬ x4 = 0 ∨ ¬ 0 ≤ t) → J z 1 (nI (c + 1))) : wX_allOnOneSide_49 post J x1 x2 x4 (nI c) t z fc us xs ys wt gp od ed := by
  simp only [wX_allOnOneSide_49, forall_eq, nI_1]
  exact ⟨fun y => ⟨fun x => h0 y x, fun x => h1 (Or.inr x)⟩, fun y => h1 (Or.inl y)⟩
theorem sx_side {a b : Nat} (ha : a < 24) (hb : b < 24) (h1 : sc_side us xs ys a b → post 1) (h0 : ¬ sc_side us xs ys a b → post 0) :
    wpX_allOnOneSide post (fc, us, xs, ys, wt, gp, od, ed) (nI a) (nI b) := by
  simp only [wpX_allOnOneSide]
  refine loop_0 (fun n i (s : Int32 × Int32) => wX_allOnOneSide_8 post (nI a) (nI b) fc us xs ys wt gp od ed n s.1 s.2 (nI i)) (fun i s => sc_mk us xs ys a b (fun t => ¬ t ≤ 0) i s.1 ∧ sc_mk us xs ys a b (fun t => ¬ 0 ≤ t) i s.2) 24 (0, 0) ?_ ?_ ?_
  · exact ⟨Or.inl ⟨rfl, fun e he => absurd he (by omega)⟩, Or.inl ⟨rfl, fun e he => absurd he (by omega)⟩⟩
  · rintro n ⟨x, y⟩ ⟨hx, hy⟩
    rw [wX_allOnOneSide_8]
    refine br_t ba_le24 ?_
    dsimp only at hx hy ⊢
    rcases hx with ⟨e1, e2⟩ | ⟨e1, q, e2, e3, e4⟩
    · exact br_t e1 (h1 (Or.inl e2))
    · refine br_f (by rw [e1]; decide) ?_
      rcases hy with ⟨f1, f2⟩ | ⟨f1, r, f2, f3, f4⟩
      · exact br_t f1 (h1 (Or.inr f2))
      · exact br_f (by rw [f1]; decide) (h0 fun z => z.elim (fun w => w q e2 e3 e4) (fun w => w r f2 f3 f4))
  · rintro n c ⟨x, y⟩ hc ⟨hx, hy⟩ ih
    dsimp only at hx hy ⊢
    rw [wX_allOnOneSide_8]
    simp only [ba_in hc, ba_cl hc, true_and, nI_1, forall_eq]
    refine br_f (ba_ge hc) ⟨fun u => ih (x, y) ⟨sc_mk_skip hx (Or.inl u), sc_mk_skip hy (Or.inl u)⟩, fun u => rx_turn ha hb hc ?_⟩
    have K : ∀ z : Int32, sc_mk us xs ys a b (fun t => ¬ t ≤ 0) (c + 1) z → wX_allOnOneSide_49 post (wX_allOnOneSide_8 post (nI a) (nI b) fc us xs ys wt gp od ed n) (nI a) (nI b) y (nI c) (dm_t xs ys a b c) z fc us xs ys wt gp od ed := by
      intro z hz
      refine sx_49 (fun e1 e2 => ih (z, 0) ⟨hz, sc_mk_skip (e1 ▸ hy) (Or.inr (Or.inl fun w => w e2))⟩) (fun e1 => ih (z, 1) ⟨hz, ?_⟩)
      rcases e1 with e1 | e1
      · rcases hy with ⟨f1, f2⟩ | hy
        · exact absurd f1 e1
        · exact sc_mk_skip (Or.inr ⟨rfl, hy.2⟩) (Or.inr (Or.inr rfl))
      · exact sc_mk_set (S := fun t => ¬ 0 ≤ t) u e1
    refine ⟨fun g => ⟨fun f => K 0 (sc_mk_skip (g ▸ hx) (Or.inr (Or.inl fun w => w f))), fun f => K 1 (sc_mk_set (S := fun t => ¬ t ≤ 0) u f)⟩, fun g => K 1 ?_⟩
    rcases hx with ⟨f1, f2⟩ | hx
    · exact absurd f1 g
    · exact sc_mk_skip (Or.inr ⟨rfl, hx.2⟩) (Or.inr (Or.inr rfl))
theorem sx_hull {a : Nat} (ha : a < 24) (h1 : (∃ b, b < 24 ∧ us b ≠ 0 ∧ b ≠ a ∧ sc_side us xs ys a b) → post 1) (h0 : (¬ ∃ b, b < 24 ∧ us b ≠ 0 ∧ b ≠ a ∧ sc_side us xs ys a b) → post 0) :
    ∃ n, wX_onHull_22 post (nI a) fc us xs ys wt gp od ed n 0 := by
  refine ba_gl (fun n x => wX_onHull_22 post (nI a) fc us xs ys wt gp od ed n x) (fun b => ¬ (us b ≠ 0 ∧ b ≠ a ∧ sc_side us xs ys a b)) (A := post 0) (B := post 1) ?_ ?_ ?_ (fun h => h0 (sc_nex h)) (fun h => h1 (sc_ex h))
  · intro h n; exact br_t ba_le24 h
  · intro n b hb hP hW
    rw [wX_onHull_22]
    simp only [ba_in hb, ba_cl hb, true_and, nI_1, forall_eq, ba_eq hb ha]
    refine br_f (ba_ge hb) ⟨fun _ => hW, fun u1 => ⟨fun _ => hW, fun u2 => ?_⟩⟩
    exact sx_side ha hb (fun g => absurd ⟨u1, u2, g⟩ hP) (fun g => br_t rfl hW)
  · intro n b hb hP hB
    obtain ⟨g1, g2, g3⟩ := Classical.byContradiction hP
    rw [wX_onHull_22]
    simp only [ba_in hb, ba_cl hb, true_and, nI_1, forall_eq, ba_eq hb ha]
    refine br_f (ba_ge hb) (br_f g1 (br_f g2 ?_))
    exact sx_side ha hb (fun g => br_f ba_10 hB) (fun g => absurd g3 g)
theorem sy_right {a b : Nat} (ha : a < 24) (hb : b < 24) (h1 : (∀ c, c < 24 → us c ≠ 0 → 0 ≤ dm_t xs ys a b c) → post 1) (h0 : (¬ ∀ c, c < 24 → us c ≠ 0 → 0 ≤ dm_t xs ys a b c) → post 0) :
    wpY_noneRight post (us, xs, ys, wy) (nI a) (nI b) := by
  simp only [wpY_noneRight]
  refine ba_gl (fun n x => wY_noneRight_2 post (nI a) (nI b) us xs ys wy n x) (fun c => us c ≠ 0 → 0 ≤ dm_t xs ys a b c) (A := post 1) (B := post 0) ?_ ?_ ?_ h1 h0
  · intro h n; exact br_t ba_le24 h
  · intro n c hc hP hW
    rw [wY_noneRight_2]
    simp only [ba_in hc, ba_cl hc, true_and, nI_1, forall_eq]
    exact br_f (ba_ge hc) ⟨fun _ => hW, fun u => ry_turn ha hb hc (br_t (hP u) hW)⟩
  · intro n c hc hP hB
    rw [wY_noneRight_2]
    simp only [ba_in hc, ba_cl hc, true_and, nI_1, forall_eq]
    exact br_f (ba_ge hc) ⟨fun u => absurd (fun v => absurd u v) hP, fun u => ry_turn ha hb hc (br_f (fun z => hP fun _ => z) hB)⟩
theorem sy_left {a b : Nat} (ha : a < 24) (hb : b < 24) (h1 : (∀ c, c < 24 → us c ≠ 0 → dm_t xs ys a b c ≤ 0) → post 1) (h0 : (¬ ∀ c, c < 24 → us c ≠ 0 → dm_t xs ys a b c ≤ 0) → post 0) :
    wpY_noneLeft post (us, xs, ys, wy) (nI a) (nI b) := by
  simp only [wpY_noneLeft]
  refine ba_gl (fun n x => wY_noneLeft_2 post (nI a) (nI b) us xs ys wy n x) (fun c => us c ≠ 0 → dm_t xs ys a b c ≤ 0) (A := post 1) (B := post 0) ?_ ?_ ?_ h1 h0
  · intro h n; exact br_t ba_le24 h
  · intro n c hc hP hW
    rw [wY_noneLeft_2]
    simp only [ba_in hc, ba_cl hc, true_and, nI_1, forall_eq]
    exact br_f (ba_ge hc) ⟨fun _ => hW, fun u => ry_turn ha hb hc (br_t (hP u) hW)⟩
  · intro n c hc hP hB
    rw [wY_noneLeft_2]
    simp only [ba_in hc, ba_cl hc, true_and, nI_1, forall_eq]
    exact br_f (ba_ge hc) ⟨fun u => absurd (fun v => absurd u v) hP, fun u => ry_turn ha hb hc (br_f (fun z => hP fun _ => z) hB)⟩
def sc_sideY (us xs ys : Nat → Int32) (a b : Nat) : Prop := (∀ c, c < 24 → us c ≠ 0 → 0 ≤ dm_t xs ys a b c) ∨ (∀ c, c < 24 → us c ≠ 0 → dm_t xs ys a b c ≤ 0)
theorem sy_hull {a : Nat} (ha : a < 24) (h1 : (∃ b, b < 24 ∧ us b ≠ 0 ∧ b ≠ a ∧ sc_sideY us xs ys a b) → post 1) (h0 : (¬ ∃ b, b < 24 ∧ us b ≠ 0 ∧ b ≠ a ∧ sc_sideY us xs ys a b) → post 0) :
    ∃ n, wY_onHull_22 post (nI a) us xs ys wy n 0 := by
  refine ba_gl (fun n x => wY_onHull_22 post (nI a) us xs ys wy n x) (fun b => ¬ (us b ≠ 0 ∧ b ≠ a ∧ sc_sideY us xs ys a b)) (A := post 0) (B := post 1) ?_ ?_ ?_ (fun h => h0 (sc_nex h)) (fun h => h1 (sc_ex h))
  · intro h n; exact br_t ba_le24 h
  · intro n b hb hP hW
    rw [wY_onHull_22]
    simp only [ba_in hb, ba_cl hb, true_and, nI_1, forall_eq, ba_eq hb ha]
    refine br_f (ba_ge hb) ⟨fun _ => hW, fun u1 => ⟨fun _ => hW, fun u2 => ?_⟩⟩
    exact sy_right ha hb (fun g => absurd ⟨u1, u2, Or.inl g⟩ hP) (fun _ => br_t rfl (sy_left ha hb (fun g => absurd ⟨u1, u2, Or.inr g⟩ hP) (fun _ => br_t rfl hW)))
  · intro n b hb hP hB
    obtain ⟨g1, g2, g3⟩ := Classical.byContradiction hP
    rw [wY_onHull_22]
    simp only [ba_in hb, ba_cl hb, true_and, nI_1, forall_eq, ba_eq hb ha]
    refine br_f (ba_ge hb) (br_f g1 (br_f g2 ?_))
    exact sy_right ha hb (fun g => br_f ba_10 hB) (fun f => br_t rfl (sy_left ha hb (fun g => br_f ba_10 hB) (fun g => absurd g3 fun z => z.elim f g)))
end

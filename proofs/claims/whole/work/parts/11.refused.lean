/-! calls that are refused: written out by a program -/
theorem lc_cc (c : Int32) : (∃ k : Nat, k ≤ 1 ∧ c = nI k) ∨ (¬ c = 0 ∧ ¬ c = 1 ∧ (c < 0 ∨ ¬ c ≤ 1)) := by
  rcases pk_ix c (n := 2) (by omega) with h | h | ⟨j, hj, rfl⟩
  · refine Or.inr ⟨?_, ?_, Or.inl h⟩
    · rintro rfl; exact absurd h (by decide)
    · rintro rfl; exact absurd h (by decide)
  · refine Or.inr ⟨?_, ?_, Or.inr (fun k => ?_)⟩
    · rintro rfl; exact absurd h (by decide)
    · rintro rfl; exact absurd h (by decide)
    · exact absurd (Int32.le_trans h k) (by decide)
  · exact Or.inl ⟨j, by omega, rfl⟩
theorem lc_ww {n : Nat} (hn : n ≤ 10) (x : Int32) : (x < 0 ∨ nI (2 ^ n) ≤ x) ∨ ∃ j : Nat, j < 2 ^ n ∧ x = nI j := by
  have hW := lc_W hn
  rcases pk_ix x (n := 2 ^ n) (by omega) with h | h | h
  · exact Or.inl (Or.inl h)
  · exact Or.inl (Or.inr h)
  · exact Or.inr h
theorem lc_pp {n : Nat} (hn : n ≤ 10) (x : Int32) : (x < 0 ∨ nI n ≤ x) ∨ ∃ j : Nat, j < n ∧ x = nI j := by
  rcases pk_ix x (n := n) (by omega) with h | h | h
  · exact Or.inl (Or.inl h)
  · exact Or.inl (Or.inr h)
  · exact Or.inr h
theorem lc_xadd_c {post : Int32 → SX → Prop} {n : Nat} {T : Nat → Prop} {B : Nat → Int32} {c : Int32} {a0 : Int32} (n0 : ¬ c = 0) (n1 : ¬ c = 1) (h : post (-1) (lc_X n T B)) : wpX_add post (lc_X n T B) c a0 := by
  unfold wpX_add
  exact lc_xc' n0 n1 (br_t rfl h)
theorem lc_yadd_c {post : Int32 → SY → Prop} {n : Nat} {T : Nat → Prop} {ct : Int32} {M L S D : Nat → Int32} {c : Int32} {a0 : Int32} (nb : c < 0 ∨ ¬ c ≤ 1) (h : post (-1) (lc_Y n T ct M L S D)) : wpY_add post (lc_Y n T ct M L S D) c a0 := by
  unfold wpY_add
  exact lc_yc' nb (br_f lc_1n0 h)
theorem lc_xadd_a {post : Int32 → SX → Prop} {n : Nat} {T : Nat → Prop} {B : Nat → Int32} {c : Nat} {a0 : Int32} (hc : c ≤ 1) (b : a0 < 0 ∨ nI (2 ^ n) ≤ a0) (h : post (-1) (lc_X n T B)) : wpX_add post (lc_X n T B) (nI c) a0 := by
  unfold wpX_add
  exact lc_xc hc (br_f lc_1n0 (lc_xword' b (br_t rfl h)))
theorem lc_yadd_a {post : Int32 → SY → Prop} {n : Nat} {T : Nat → Prop} {ct : Int32} {M L S D : Nat → Int32} {c : Nat} {a0 : Int32} (hc : c ≤ 1) (b : a0 < 0 ∨ nI (2 ^ n) ≤ a0) (h : post (-1) (lc_Y n T ct M L S D)) : wpY_add post (lc_Y n T ct M L S D) (nI c) a0 := by
  unfold wpY_add
  exact lc_yc hc (br_t rfl (lc_yword' b (br_f lc_1n0 h)))
theorem lc_xclear_c {post : Int32 → SX → Prop} {n : Nat} {T : Nat → Prop} {B : Nat → Int32} {c : Int32} (n0 : ¬ c = 0) (n1 : ¬ c = 1) (h : post (-1) (lc_X n T B)) : wpX_clear post (lc_X n T B) c := by
  unfold wpX_clear
  exact lc_xc' n0 n1 (br_t rfl h)
theorem lc_yclear_c {post : Int32 → SY → Prop} {n : Nat} {T : Nat → Prop} {ct : Int32} {M L S D : Nat → Int32} {c : Int32} (nb : c < 0 ∨ ¬ c ≤ 1) (h : post (-1) (lc_Y n T ct M L S D)) : wpY_clear post (lc_Y n T ct M L S D) c := by
  unfold wpY_clear
  exact lc_yc' nb (br_f lc_1n0 h)
theorem lc_xdualize_c {post : Int32 → SX → Prop} {n : Nat} {T : Nat → Prop} {B : Nat → Int32} {c : Int32} (n0 : ¬ c = 0) (n1 : ¬ c = 1) (h : post (-1) (lc_X n T B)) : wpX_dualize post (lc_X n T B) c := by
  unfold wpX_dualize
  exact lc_xc' n0 n1 (br_t rfl h)
theorem lc_ydualize_c {post : Int32 → SY → Prop} {n : Nat} {T : Nat → Prop} {ct : Int32} {M L S D : Nat → Int32} {c : Int32} (nb : c < 0 ∨ ¬ c ≤ 1) (h : post (-1) (lc_Y n T ct M L S D)) : wpY_dualize post (lc_Y n T ct M L S D) c := by
  unfold wpY_dualize
  exact lc_yc' nb (br_f lc_1n0 h)
theorem lc_xshorten_c {post : Int32 → SX → Prop} {n : Nat} {T : Nat → Prop} {B : Nat → Int32} {c : Int32} {a0 : Int32} (n0 : ¬ c = 0) (n1 : ¬ c = 1) (h : post (-1) (lc_X n T B)) : wpX_shorten post (lc_X n T B) c a0 := by
  unfold wpX_shorten
  exact lc_xc' n0 n1 (br_t rfl h)
theorem lc_yshorten_c {post : Int32 → SY → Prop} {n : Nat} {T : Nat → Prop} {ct : Int32} {M L S D : Nat → Int32} {c : Int32} {a0 : Int32} (nb : c < 0 ∨ ¬ c ≤ 1) (h : post (-1) (lc_Y n T ct M L S D)) : wpY_shorten post (lc_Y n T ct M L S D) c a0 := by
  unfold wpY_shorten
  exact lc_yc' nb (br_f lc_1n0 h)
theorem lc_xshorten_a {post : Int32 → SX → Prop} {n : Nat} {T : Nat → Prop} {B : Nat → Int32} {c : Nat} {a0 : Int32} (hc : c ≤ 1) (b : a0 < 0 ∨ nI n ≤ a0) (h : post (-1) (lc_X n T B)) : wpX_shorten post (lc_X n T B) (nI c) a0 := by
  unfold wpX_shorten
  exact lc_xc hc (br_f lc_1n0 (lc_xplace' b (br_t rfl h)))
theorem lc_yshorten_a {post : Int32 → SY → Prop} {n : Nat} {T : Nat → Prop} {ct : Int32} {M L S D : Nat → Int32} {c : Nat} {a0 : Int32} (hc : c ≤ 1) (b : a0 < 0 ∨ nI n ≤ a0) (h : post (-1) (lc_Y n T ct M L S D)) : wpY_shorten post (lc_Y n T ct M L S D) (nI c) a0 := by
  unfold wpY_shorten
  exact lc_yc hc (br_t rfl (lc_yplace' b (br_f lc_1n0 h)))
theorem lc_xpuncture_c {post : Int32 → SX → Prop} {n : Nat} {T : Nat → Prop} {B : Nat → Int32} {c : Int32} {a0 : Int32} (n0 : ¬ c = 0) (n1 : ¬ c = 1) (h : post (-1) (lc_X n T B)) : wpX_puncture post (lc_X n T B) c a0 := by
  unfold wpX_puncture
  exact lc_xc' n0 n1 (br_t rfl h)
theorem lc_ypuncture_c {post : Int32 → SY → Prop} {n : Nat} {T : Nat → Prop} {ct : Int32} {M L S D : Nat → Int32} {c : Int32} {a0 : Int32} (nb : c < 0 ∨ ¬ c ≤ 1) (h : post (-1) (lc_Y n T ct M L S D)) : wpY_puncture post (lc_Y n T ct M L S D) c a0 := by
  unfold wpY_puncture
  exact lc_yc' nb (br_f lc_1n0 h)
theorem lc_xpuncture_a {post : Int32 → SX → Prop} {n : Nat} {T : Nat → Prop} {B : Nat → Int32} {c : Nat} {a0 : Int32} (hc : c ≤ 1) (b : a0 < 0 ∨ nI n ≤ a0) (h : post (-1) (lc_X n T B)) : wpX_puncture post (lc_X n T B) (nI c) a0 := by
  unfold wpX_puncture
  exact lc_xc hc (br_f lc_1n0 (lc_xplace' b (br_t rfl h)))
theorem lc_ypuncture_a {post : Int32 → SY → Prop} {n : Nat} {T : Nat → Prop} {ct : Int32} {M L S D : Nat → Int32} {c : Nat} {a0 : Int32} (hc : c ≤ 1) (b : a0 < 0 ∨ nI n ≤ a0) (h : post (-1) (lc_Y n T ct M L S D)) : wpY_puncture post (lc_Y n T ct M L S D) (nI c) a0 := by
  unfold wpY_puncture
  exact lc_yc hc (br_t rfl (lc_yplace' b (br_f lc_1n0 h)))
theorem lc_xexchange_c {post : Int32 → SX → Prop} {n : Nat} {T : Nat → Prop} {B : Nat → Int32} {c : Int32} {a0 : Int32} {a1 : Int32} (n0 : ¬ c = 0) (n1 : ¬ c = 1) (h : post (-1) (lc_X n T B)) : wpX_exchange post (lc_X n T B) c a0 a1 := by
  unfold wpX_exchange
  exact lc_xc' n0 n1 (br_t rfl h)
theorem lc_yexchange_c {post : Int32 → SY → Prop} {n : Nat} {T : Nat → Prop} {ct : Int32} {M L S D : Nat → Int32} {c : Int32} {a0 : Int32} {a1 : Int32} (nb : c < 0 ∨ ¬ c ≤ 1) (h : post (-1) (lc_Y n T ct M L S D)) : wpY_exchange post (lc_Y n T ct M L S D) c a0 a1 := by
  unfold wpY_exchange
  exact lc_yc' nb (br_f lc_1n0 h)
theorem lc_xexchange_a {post : Int32 → SX → Prop} {n : Nat} {T : Nat → Prop} {B : Nat → Int32} {c : Nat} {a0 : Int32} {a1 : Int32} (hc : c ≤ 1) (b : a0 < 0 ∨ nI n ≤ a0) (h : post (-1) (lc_X n T B)) : wpX_exchange post (lc_X n T B) (nI c) a0 a1 := by
  unfold wpX_exchange
  exact lc_xc hc (br_f lc_1n0 (lc_xplace' b (br_t rfl h)))
theorem lc_yexchange_a {post : Int32 → SY → Prop} {n : Nat} {T : Nat → Prop} {ct : Int32} {M L S D : Nat → Int32} {c : Nat} {a0 : Int32} {a1 : Int32} (hc : c ≤ 1) (b : a0 < 0 ∨ nI n ≤ a0) (h : post (-1) (lc_Y n T ct M L S D)) : wpY_exchange post (lc_Y n T ct M L S D) (nI c) a0 a1 := by
  unfold wpY_exchange
  exact lc_yc hc (br_t rfl (lc_yplace' b (br_f lc_1n0 h)))
theorem lc_xexchange_b {post : Int32 → SX → Prop} {n : Nat} {T : Nat → Prop} {B : Nat → Int32} {c i : Nat} {a1 : Int32} (hn : n ≤ 10) (hc : c ≤ 1) (hi : i < n) (b : a1 < 0 ∨ nI n ≤ a1) (h : post (-1) (lc_X n T B)) : wpX_exchange post (lc_X n T B) (nI c) (nI i) a1 := by
  unfold wpX_exchange
  exact lc_xc hc (br_f lc_1n0 (lc_xplace hn hi (br_f lc_1n0 (lc_xplace' b (br_t rfl h)))))
theorem lc_yexchange_b {post : Int32 → SY → Prop} {n : Nat} {T : Nat → Prop} {ct : Int32} {M L S D : Nat → Int32} {c i : Nat} {a1 : Int32} (hn : n ≤ 10) (hc : c ≤ 1) (hi : i < n) (b : a1 < 0 ∨ nI n ≤ a1) (h : post (-1) (lc_Y n T ct M L S D)) : wpY_exchange post (lc_Y n T ct M L S D) (nI c) (nI i) a1 := by
  unfold wpY_exchange
  exact lc_yc hc (br_t rfl (lc_yplace hn hi (br_t rfl (lc_yplace' b (br_f lc_1n0 h)))))
theorem lc_xdimension_c {post : Int32 → Prop} {n : Nat} {T : Nat → Prop} {B : Nat → Int32} {c : Int32} (n0 : ¬ c = 0) (n1 : ¬ c = 1) (h : post (-1)) : wpX_dimension post (lc_X n T B) c := by
  unfold wpX_dimension
  exact lc_xc' n0 n1 (br_t rfl h)
theorem lc_ydimension_c {post : Int32 → SY → Prop} {n : Nat} {T : Nat → Prop} {ct : Int32} {M L S D : Nat → Int32} {c : Int32} (nb : c < 0 ∨ ¬ c ≤ 1) (h : post (-1) (lc_Y n T ct M L S D)) : wpY_dimension post (lc_Y n T ct M L S D) c := by
  unfold wpY_dimension
  exact lc_yc' nb (br_f lc_1n0 h)
theorem lc_xhas_c {post : Int32 → Prop} {n : Nat} {T : Nat → Prop} {B : Nat → Int32} {c : Int32} {a0 : Int32} (n0 : ¬ c = 0) (n1 : ¬ c = 1) (h : post (-1)) : wpX_has post (lc_X n T B) c a0 := by
  unfold wpX_has
  exact lc_xc' n0 n1 (br_t rfl h)
theorem lc_yhas_c {post : Int32 → Prop} {n : Nat} {T : Nat → Prop} {ct : Int32} {M L S D : Nat → Int32} {c : Int32} {a0 : Int32} (nb : c < 0 ∨ ¬ c ≤ 1) (h : post (-1)) : wpY_has post (lc_Y n T ct M L S D) c a0 := by
  unfold wpY_has
  exact lc_yc' nb (br_f lc_1n0 h)
theorem lc_xhas_a {post : Int32 → Prop} {n : Nat} {T : Nat → Prop} {B : Nat → Int32} {c : Nat} {a0 : Int32} (hc : c ≤ 1) (b : a0 < 0 ∨ nI (2 ^ n) ≤ a0) (h : post (-1)) : wpX_has post (lc_X n T B) (nI c) a0 := by
  unfold wpX_has
  exact lc_xc hc (br_f lc_1n0 (lc_xword' b (br_t rfl h)))
theorem lc_yhas_a {post : Int32 → Prop} {n : Nat} {T : Nat → Prop} {ct : Int32} {M L S D : Nat → Int32} {c : Nat} {a0 : Int32} (hc : c ≤ 1) (b : a0 < 0 ∨ nI (2 ^ n) ≤ a0) (h : post (-1)) : wpY_has post (lc_Y n T ct M L S D) (nI c) a0 := by
  unfold wpY_has
  exact lc_yc hc (br_t rfl (lc_yword' b (br_f lc_1n0 h)))
theorem lc_xwordAt_c {post : Int32 → Prop} {n : Nat} {T : Nat → Prop} {B : Nat → Int32} {c : Int32} {a0 : Int32} (n0 : ¬ c = 0) (n1 : ¬ c = 1) (h : post (-1)) : wpX_wordAt post (lc_X n T B) c a0 := by
  unfold wpX_wordAt
  exact lc_xc' n0 n1 (br_t rfl h)
theorem lc_ywordAt_c {post : Int32 → SY → Prop} {n : Nat} {T : Nat → Prop} {ct : Int32} {M L S D : Nat → Int32} {c : Int32} {a0 : Int32} (nb : c < 0 ∨ ¬ c ≤ 1) (h : post (-1) (lc_Y n T ct M L S D)) : wpY_wordAt post (lc_Y n T ct M L S D) c a0 := by
  unfold wpY_wordAt
  exact lc_yc' nb (br_f lc_1n0 h)
theorem lc_xweights_c {post : Int32 → Prop} {n : Nat} {T : Nat → Prop} {B : Nat → Int32} {c : Int32} {a0 : Int32} (n0 : ¬ c = 0) (n1 : ¬ c = 1) (h : post (-1)) : wpX_weights post (lc_X n T B) c a0 := by
  unfold wpX_weights
  exact lc_xc' n0 n1 (br_t rfl h)
theorem lc_yweights_c {post : Int32 → SY → Prop} {n : Nat} {T : Nat → Prop} {ct : Int32} {M L S D : Nat → Int32} {c : Int32} {a0 : Int32} (nb : c < 0 ∨ ¬ c ≤ 1) (h : post (-1) (lc_Y n T ct M L S D)) : wpY_weights post (lc_Y n T ct M L S D) c a0 := by
  unfold wpY_weights
  exact lc_yc' nb (br_f lc_1n0 h)
theorem lc_xdualWeights_c {post : Int32 → Prop} {n : Nat} {T : Nat → Prop} {B : Nat → Int32} {c : Int32} {a0 : Int32} (n0 : ¬ c = 0) (n1 : ¬ c = 1) (h : post (-1)) : wpX_dualWeights post (lc_X n T B) c a0 := by
  unfold wpX_dualWeights
  exact lc_xc' n0 n1 (br_t rfl h)
theorem lc_ydualWeights_c {post : Int32 → SY → Prop} {n : Nat} {T : Nat → Prop} {ct : Int32} {M L S D : Nat → Int32} {c : Int32} {a0 : Int32} (nb : c < 0 ∨ ¬ c ≤ 1) (h : post (-1) (lc_Y n T ct M L S D)) : wpY_dualWeights post (lc_Y n T ct M L S D) c a0 := by
  unfold wpY_dualWeights
  exact lc_yc' nb (br_f lc_1n0 h)
theorem lc_xleast_c {post : Int32 → Prop} {n : Nat} {T : Nat → Prop} {B : Nat → Int32} {c : Int32} (n0 : ¬ c = 0) (n1 : ¬ c = 1) (h : post (-1)) : wpX_leastWeight post (lc_X n T B) c := by
  unfold wpX_leastWeight
  exact lc_xc' n0 n1 (br_t rfl h)
theorem lc_yleast_c {post : Int32 → SY → Prop} {n : Nat} {T : Nat → Prop} {ct : Int32} {M L S D : Nat → Int32} {c : Int32} (nb : c < 0 ∨ ¬ c ≤ 1) (h : post (-1) (lc_Y n T ct M L S D)) : wpY_leastWeight post (lc_Y n T ct M L S D) c := by
  unfold wpY_leastWeight
  exact lc_yc' nb (br_f lc_1n0 h)
theorem lc_xnearest_c {post : Int32 → Prop} {n : Nat} {T : Nat → Prop} {B : Nat → Int32} {c : Int32} {a0 : Int32} (n0 : ¬ c = 0) (n1 : ¬ c = 1) (h : post (-1)) : wpX_nearest post (lc_X n T B) c a0 := by
  unfold wpX_nearest
  exact lc_xc' n0 n1 (br_t rfl h)
theorem lc_ynearest_c {post : Int32 → SY → Prop} {n : Nat} {T : Nat → Prop} {ct : Int32} {M L S D : Nat → Int32} {c : Int32} {a0 : Int32} (nb : c < 0 ∨ ¬ c ≤ 1) (h : post (-1) (lc_Y n T ct M L S D)) : wpY_nearest post (lc_Y n T ct M L S D) c a0 := by
  unfold wpY_nearest
  exact lc_yc' nb (br_f lc_1n0 h)
theorem lc_xnearest_a {post : Int32 → Prop} {n : Nat} {T : Nat → Prop} {B : Nat → Int32} {c : Nat} {a0 : Int32} (hc : c ≤ 1) (b : a0 < 0 ∨ nI (2 ^ n) ≤ a0) (h : post (-1)) : wpX_nearest post (lc_X n T B) (nI c) a0 := by
  unfold wpX_nearest
  exact lc_xc hc (br_f lc_1n0 (lc_xword' b (br_t rfl h)))
theorem lc_ynearest_a {post : Int32 → SY → Prop} {n : Nat} {T : Nat → Prop} {ct : Int32} {M L S D : Nat → Int32} {c : Nat} {a0 : Int32} (hc : c ≤ 1) (b : a0 < 0 ∨ nI (2 ^ n) ≤ a0) (h : post (-1) (lc_Y n T ct M L S D)) : wpY_nearest post (lc_Y n T ct M L S D) (nI c) a0 := by
  unfold wpY_nearest
  exact lc_yc hc (br_t rfl (lc_yword' b (br_f lc_1n0 h)))
theorem lc_xcosets_c {post : Int32 → Prop} {n : Nat} {T : Nat → Prop} {B : Nat → Int32} {c : Int32} {a0 : Int32} (n0 : ¬ c = 0) (n1 : ¬ c = 1) (h : post (-1)) : wpX_cosets post (lc_X n T B) c a0 := by
  unfold wpX_cosets
  exact lc_xc' n0 n1 (br_t rfl h)
theorem lc_ycosets_c {post : Int32 → SY → Prop} {n : Nat} {T : Nat → Prop} {ct : Int32} {M L S D : Nat → Int32} {c : Int32} {a0 : Int32} (nb : c < 0 ∨ ¬ c ≤ 1) (h : post (-1) (lc_Y n T ct M L S D)) : wpY_cosets post (lc_Y n T ct M L S D) c a0 := by
  unfold wpY_cosets
  exact lc_yc' nb (br_f lc_1n0 h)
theorem lc_xradius_c {post : Int32 → Prop} {n : Nat} {T : Nat → Prop} {B : Nat → Int32} {c : Int32} (n0 : ¬ c = 0) (n1 : ¬ c = 1) (h : post (-1)) : wpX_radius post (lc_X n T B) c := by
  unfold wpX_radius
  exact lc_xc' n0 n1 (br_t rfl h)
theorem lc_yradius_c {post : Int32 → SY → Prop} {n : Nat} {T : Nat → Prop} {ct : Int32} {M L S D : Nat → Int32} {c : Int32} (nb : c < 0 ∨ ¬ c ≤ 1) (h : post (-1) (lc_Y n T ct M L S D)) : wpY_radius post (lc_Y n T ct M L S D) c := by
  unfold wpY_radius
  exact lc_yc' nb (br_f lc_1n0 h)
theorem lc_xisInf_c {post : Int32 → Prop} {n : Nat} {T : Nat → Prop} {B : Nat → Int32} {c : Int32} {a0 : Int32} (n0 : ¬ c = 0) (n1 : ¬ c = 1) (h : post (-1)) : wpX_isInformation post (lc_X n T B) c a0 := by
  unfold wpX_isInformation
  exact lc_xc' n0 n1 (br_t rfl h)
theorem lc_yisInf_c {post : Int32 → SY → Prop} {n : Nat} {T : Nat → Prop} {ct : Int32} {M L S D : Nat → Int32} {c : Int32} {a0 : Int32} (nb : c < 0 ∨ ¬ c ≤ 1) (h : post (-1) (lc_Y n T ct M L S D)) : wpY_isInformation post (lc_Y n T ct M L S D) c a0 := by
  unfold wpY_isInformation
  exact lc_yc' nb (br_f lc_1n0 h)
theorem lc_xisInf_a {post : Int32 → Prop} {n : Nat} {T : Nat → Prop} {B : Nat → Int32} {c : Nat} {a0 : Int32} (hc : c ≤ 1) (b : a0 < 0 ∨ nI (2 ^ n) ≤ a0) (h : post (-1)) : wpX_isInformation post (lc_X n T B) (nI c) a0 := by
  unfold wpX_isInformation
  exact lc_xc hc (br_f lc_1n0 (lc_xword' b (br_t rfl h)))
theorem lc_yisInf_a {post : Int32 → SY → Prop} {n : Nat} {T : Nat → Prop} {ct : Int32} {M L S D : Nat → Int32} {c : Nat} {a0 : Int32} (hc : c ≤ 1) (b : a0 < 0 ∨ nI (2 ^ n) ≤ a0) (h : post (-1) (lc_Y n T ct M L S D)) : wpY_isInformation post (lc_Y n T ct M L S D) (nI c) a0 := by
  unfold wpY_isInformation
  exact lc_yc hc (br_t rfl (lc_yword' b (br_f lc_1n0 h)))
theorem lc_xinfSets_c {post : Int32 → Prop} {n : Nat} {T : Nat → Prop} {B : Nat → Int32} {c : Int32} (n0 : ¬ c = 0) (n1 : ¬ c = 1) (h : post (-1)) : wpX_informationSets post (lc_X n T B) c := by
  unfold wpX_informationSets
  exact lc_xc' n0 n1 (br_t rfl h)
theorem lc_yinfSets_c {post : Int32 → SY → Prop} {n : Nat} {T : Nat → Prop} {ct : Int32} {M L S D : Nat → Int32} {c : Int32} (nb : c < 0 ∨ ¬ c ≤ 1) (h : post (-1) (lc_Y n T ct M L S D)) : wpY_informationSets post (lc_Y n T ct M L S D) c := by
  unfold wpY_informationSets
  exact lc_yc' nb (br_f lc_1n0 h)

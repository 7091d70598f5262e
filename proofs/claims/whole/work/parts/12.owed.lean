/-- both hold the same two codes, each closed under sums -/
def i_Rel (_ : Nat) (u : SX) (v : SY) : Prop := ∃ (n : Nat) (T : Nat → Prop) (B : Nat → Int32) (ct : Int32) (M L S D : Nat → Int32), n ≤ 10 ∧ u = lc_X n T B ∧ v = lc_Y n T ct M L S D ∧ ∀ c, c ≤ 1 → lc_LC n (lc_cd T c)
theorem lc_R {k n : Nat} {T : Nat → Prop} {B : Nat → Int32} {ct : Int32} {M L S D : Nat → Int32} (hn : n ≤ 10) (hT : ∀ c, c ≤ 1 → lc_LC n (lc_cd T c)) : i_Rel k (lc_X n T B) (lc_Y n T ct M L S D) := ⟨n, T, B, ct, M, L, S, D, hn, rfl, rfl, hT⟩
def lc_T0 (j : Nat) : Prop := j = 0 ∨ j = 1024
theorem lc_T0_em : upd (upd (fun _ => 0) 0 (vp_nar .boolean 1)) 1024 (vp_nar .boolean 1) = lc_em lc_T0 := by
  funext j
  unfold lc_em lc_T0
  rw [lc_nar1]
  by_cases h : j = 1024
  · rw [h, pk_us, lc_b_t (Or.inr rfl)]
  · rw [pk_un h]
    by_cases h0 : j = 0
    · rw [h0, pk_us, lc_b_t (Or.inl rfl)]
    · rw [pk_un h0, lc_b_f (fun z => z.elim h0 h)]
      rfl
theorem lc_T0_LC {n : Nat} (hn : n ≤ 10) : ∀ c, c ≤ 1 → lc_LC n (lc_cd lc_T0 c) := by
  intro c hc
  have hW := lc_W hn
  refine lc_LC_c (lc_LC_clear n) (fun x hx => ?_)
  unfold lc_cd lc_T0
  omega
theorem lc_x0 {post : SX → Prop} {n : Nat} (hn : n ≤ 10) (h : post (lc_X n lc_T0 (fun _ => 0))) : wX_init_44 post (nI n) 0 0 (fun _ => 0) (fun _ => 0) := by
  unfold wX_init_44
  refine nm_r (lc_shl (by omega)) ?_
  intro a ea b eb
  subst ea
  rw [lc_T0_em] at eb
  subst eb
  exact h
theorem lc_y0 {post : SY → Prop} {n : Nat} (hn : n ≤ 10) (h : post (lc_Y n lc_T0 0 (fun _ => 0) (fun _ => 0) (fun _ => 0) (fun _ => 0))) : wY_init_70 post (nI n) 0 0 0 (fun _ => 0) (fun _ => 0) (fun _ => 0) (fun _ => 0) (fun _ => 0) := by
  unfold wY_init_70
  refine nm_r (lc_shl (by omega)) ?_
  intro a ea b eb
  subst ea
  rw [lc_T0_em] at eb
  subst eb
  exact h
theorem i_up {k : Nat} {u : SX} {v : SY} (h : i_Rel k u v) : i_Rel (k + 4) u v := by
  obtain ⟨n, T, B, ct, M, L, S, D, hn, hu, hv, hT⟩ := h
  exact ⟨n, T, B, ct, M, L, S, D, hn, hu, hv, hT⟩
theorem i_vc0 (k0 : Int32) : wpX_init (fun u => wpY_init (fun v => i_Rel 1 u v) k0) k0 := by
  unfold wpX_init
  refine br_c (fun h2 => br_c (fun h10 => ?_) (fun h10 => ?_)) (fun h2 => ?_)
  · obtain ⟨j, hj, rfl⟩ := nI_of2 (M := 10) (n := 10) (by decide) (fun z => absurd (Int32.lt_of_le_of_lt h2 z) (by decide)) h10
    refine lc_x0 hj ?_
    unfold wpY_init
    exact br_t h2 (br_t h10 (lc_y0 hj (lc_R hj (lc_T0_LC hj))))
  · refine lc_x0 (n := 10) (by omega) ?_
    unfold wpY_init
    exact br_t h2 (br_f h10 (lc_y0 (n := 10) (by omega) (lc_R (by omega) (lc_T0_LC (by omega)))))
  · refine lc_x0 (n := 2) (by omega) ?_
    unfold wpY_init
    exact br_f h2 (lc_y0 (n := 2) (by omega) (lc_R (by omega) (lc_T0_LC (by omega))))
theorem i_vc_add {k : Nat} {u : SX} {v : SY} (I : i_Rel k u v) (hk : k + 4 ≤ 2049) (v1 : Int32) (v2 : Int32) : wpX_add (fun r u' => wpY_add (fun r' v' => r' = r ∧ i_Rel (k + 4) u' v') v v1 v2) u v1 v2 := by
  obtain ⟨n, T, B, ct, M, L, S, D, hn, rfl, rfl, hT⟩ := I
  rcases lc_cc v1 with ⟨c, hc, rfl⟩ | ⟨n0, n1, nb⟩
  · rcases lc_ww hn v2 with bad | ⟨w, hw, rfl⟩
    · exact lc_xadd_a hc bad (lc_yadd_a hc bad ⟨rfl, lc_R hn hT⟩)
    · exact lc_xadd hn hc hw (fun B' => lc_yadd hn hc hw (fun _ _ _ _ _ => ⟨rfl, lc_R hn (lc_LC_put hn hT (lc_LC_add (hT c hc) hw) c)⟩))
  · exact lc_xadd_c n0 n1 (lc_yadd_c nb ⟨rfl, lc_R hn hT⟩)
theorem i_vc_clear {k : Nat} {u : SX} {v : SY} (I : i_Rel k u v) (hk : k + 4 ≤ 2049) (v1 : Int32) : wpX_clear (fun r u' => wpY_clear (fun r' v' => r' = r ∧ i_Rel (k + 4) u' v') v v1) u v1 := by
  obtain ⟨n, T, B, ct, M, L, S, D, hn, rfl, rfl, hT⟩ := I
  rcases lc_cc v1 with ⟨c, hc, rfl⟩ | ⟨n0, n1, nb⟩
  · exact lc_xclear hn hc (fun B' => lc_yclear hn hc (fun _ _ _ _ _ => ⟨rfl, lc_R hn (lc_LC_put hn hT (lc_LC_clear n) c)⟩))
  · exact lc_xclear_c n0 n1 (lc_yclear_c nb ⟨rfl, lc_R hn hT⟩)
theorem i_vc_dualize {k : Nat} {u : SX} {v : SY} (I : i_Rel k u v) (hk : k + 4 ≤ 2049) (v1 : Int32) : wpX_dualize (fun r u' => wpY_dualize (fun r' v' => r' = r ∧ i_Rel (k + 4) u' v') v v1) u v1 := by
  obtain ⟨n, T, B, ct, M, L, S, D, hn, rfl, rfl, hT⟩ := I
  rcases lc_cc v1 with ⟨c, hc, rfl⟩ | ⟨n0, n1, nb⟩
  · exact lc_xdualize hn hc (fun B' => lc_ydualize hn hc (fun _ _ _ _ _ => ⟨rfl, lc_R hn (lc_LC_put hn hT (lc_LC_dual n _) c)⟩))
  · exact lc_xdualize_c n0 n1 (lc_ydualize_c nb ⟨rfl, lc_R hn hT⟩)
theorem i_vc_shorten {k : Nat} {u : SX} {v : SY} (I : i_Rel k u v) (hk : k + 4 ≤ 2049) (v1 : Int32) (v2 : Int32) : wpX_shorten (fun r u' => wpY_shorten (fun r' v' => r' = r ∧ i_Rel (k + 4) u' v') v v1 v2) u v1 v2 := by
  obtain ⟨n, T, B, ct, M, L, S, D, hn, rfl, rfl, hT⟩ := I
  rcases lc_cc v1 with ⟨c, hc, rfl⟩ | ⟨n0, n1, nb⟩
  · rcases lc_pp hn v2 with bad | ⟨p, hp, rfl⟩
    · exact lc_xshorten_a hc bad (lc_yshorten_a hc bad ⟨rfl, lc_R hn hT⟩)
    · exact lc_xshorten hn hc hp (fun B' => lc_yshorten hn hc hp (fun _ _ _ _ _ => ⟨rfl, lc_R hn (lc_LC_put hn hT (lc_LC_short (hT c hc) p) c)⟩))
  · exact lc_xshorten_c n0 n1 (lc_yshorten_c nb ⟨rfl, lc_R hn hT⟩)
theorem i_vc_puncture {k : Nat} {u : SX} {v : SY} (I : i_Rel k u v) (hk : k + 4 ≤ 2049) (v1 : Int32) (v2 : Int32) : wpX_puncture (fun r u' => wpY_puncture (fun r' v' => r' = r ∧ i_Rel (k + 4) u' v') v v1 v2) u v1 v2 := by
  obtain ⟨n, T, B, ct, M, L, S, D, hn, rfl, rfl, hT⟩ := I
  rcases lc_cc v1 with ⟨c, hc, rfl⟩ | ⟨n0, n1, nb⟩
  · rcases lc_pp hn v2 with bad | ⟨p, hp, rfl⟩
    · exact lc_xpuncture_a hc bad (lc_ypuncture_a hc bad ⟨rfl, lc_R hn hT⟩)
    · exact lc_xpuncture hn hc hp (fun B' => lc_ypuncture hn hc hp (fun _ _ _ _ _ => ⟨rfl, lc_R hn (lc_LC_put hn hT (lc_LC_punc (hT c hc) (lc_mkp p)) c)⟩))
  · exact lc_xpuncture_c n0 n1 (lc_ypuncture_c nb ⟨rfl, lc_R hn hT⟩)
theorem i_vc_exchange {k : Nat} {u : SX} {v : SY} (I : i_Rel k u v) (hk : k + 4 ≤ 2049) (v1 : Int32) (v2 : Int32) (v3 : Int32) : wpX_exchange (fun r u' => wpY_exchange (fun r' v' => r' = r ∧ i_Rel (k + 4) u' v') v v1 v2 v3) u v1 v2 v3 := by
  obtain ⟨n, T, B, ct, M, L, S, D, hn, rfl, rfl, hT⟩ := I
  rcases lc_cc v1 with ⟨c, hc, rfl⟩ | ⟨n0, n1, nb⟩
  · rcases lc_pp hn v2 with bad | ⟨p, hp, rfl⟩
    · exact lc_xexchange_a hc bad (lc_yexchange_a hc bad ⟨rfl, lc_R hn hT⟩)
    · rcases lc_pp hn v3 with bad | ⟨q, hq, rfl⟩
      · exact lc_xexchange_b hn hc hp bad (lc_yexchange_b hn hc hp bad ⟨rfl, lc_R hn hT⟩)
      · exact lc_xexchange hn hc hp hq (fun B' => lc_yexchange hn hc hp hq (fun _ _ _ _ _ => ⟨rfl, lc_R hn (lc_LC_put hn hT (lc_LC_exch (hT c hc) hp hq) c)⟩))
  · exact lc_xexchange_c n0 n1 (lc_yexchange_c nb ⟨rfl, lc_R hn hT⟩)
theorem i_vc_dimension {k : Nat} {u : SX} {v : SY} (I : i_Rel k u v) (hk : k + 4 ≤ 2049) (v1 : Int32) : wpX_dimension (fun r => wpY_dimension (fun r' v' => r' = r ∧ i_Rel (k + 4) u v') v v1) u v1 := by
  obtain ⟨n, T, B, ct, M, L, S, D, hn, rfl, rfl, hT⟩ := I
  rcases lc_cc v1 with ⟨c, hc, rfl⟩ | ⟨n0, n1, nb⟩
  · exact lc_xdimension hn hc (lc_ydim hn hc (fun _ _ => ⟨rfl, lc_R hn hT⟩))
  · exact lc_xdimension_c n0 n1 (lc_ydimension_c nb ⟨rfl, lc_R hn hT⟩)
theorem i_vc_has {k : Nat} {u : SX} {v : SY} (I : i_Rel k u v) (hk : k + 4 ≤ 2049) (v1 : Int32) (v2 : Int32) : wpX_has (fun r => wpY_has (fun r' => r' = r ∧ i_Rel (k + 4) u v) v v1 v2) u v1 v2 := by
  obtain ⟨n, T, B, ct, M, L, S, D, hn, rfl, rfl, hT⟩ := I
  rcases lc_cc v1 with ⟨c, hc, rfl⟩ | ⟨n0, n1, nb⟩
  · rcases lc_ww hn v2 with bad | ⟨w, hw, rfl⟩
    · exact lc_xhas_a hc bad (lc_yhas_a hc bad ⟨rfl, lc_R hn hT⟩)
    · exact lc_xhas hn hc hw (lc_yhas hn hc hw ⟨rfl, lc_R hn hT⟩)
  · exact lc_xhas_c n0 n1 (lc_yhas_c nb ⟨rfl, lc_R hn hT⟩)
theorem i_vc_wordAt {k : Nat} {u : SX} {v : SY} (I : i_Rel k u v) (hk : k + 4 ≤ 2049) (v1 : Int32) (v2 : Int32) : wpX_wordAt (fun r => wpY_wordAt (fun r' v' => r' = r ∧ i_Rel (k + 4) u v') v v1 v2) u v1 v2 := by
  obtain ⟨n, T, B, ct, M, L, S, D, hn, rfl, rfl, hT⟩ := I
  rcases lc_cc v1 with ⟨c, hc, rfl⟩ | ⟨n0, n1, nb⟩
  · exact lc_xwordAt hn hc (fun r hr => lc_ywordAt hn hc (fun r' hr' _ _ _ _ _ => ⟨lc_wa_u hn hr hr', lc_R hn hT⟩))
  · exact lc_xwordAt_c n0 n1 (lc_ywordAt_c nb ⟨rfl, lc_R hn hT⟩)
theorem i_vc_weights {k : Nat} {u : SX} {v : SY} (I : i_Rel k u v) (hk : k + 4 ≤ 2049) (v1 : Int32) (v2 : Int32) : wpX_weights (fun r => wpY_weights (fun r' v' => r' = r ∧ i_Rel (k + 4) u v') v v1 v2) u v1 v2 := by
  obtain ⟨n, T, B, ct, M, L, S, D, hn, rfl, rfl, hT⟩ := I
  rcases lc_cc v1 with ⟨c, hc, rfl⟩ | ⟨n0, n1, nb⟩
  · exact lc_xweights hn hc (lc_yweights hn hc (fun _ _ _ _ _ => ⟨rfl, lc_R hn hT⟩))
  · exact lc_xweights_c n0 n1 (lc_yweights_c nb ⟨rfl, lc_R hn hT⟩)
theorem i_vc_dualWeights {k : Nat} {u : SX} {v : SY} (I : i_Rel k u v) (hk : k + 4 ≤ 2049) (v1 : Int32) (v2 : Int32) : wpX_dualWeights (fun r => wpY_dualWeights (fun r' v' => r' = r ∧ i_Rel (k + 4) u v') v v1 v2) u v1 v2 := by
  obtain ⟨n, T, B, ct, M, L, S, D, hn, rfl, rfl, hT⟩ := I
  rcases lc_cc v1 with ⟨c, hc, rfl⟩ | ⟨n0, n1, nb⟩
  · exact lc_xdualWeights hn hc (lc_ydualWeights hn hc (fun _ _ _ _ _ => ⟨rfl, lc_R hn hT⟩))
  · exact lc_xdualWeights_c n0 n1 (lc_ydualWeights_c nb ⟨rfl, lc_R hn hT⟩)
theorem i_vc_leastWeight {k : Nat} {u : SX} {v : SY} (I : i_Rel k u v) (hk : k + 4 ≤ 2049) (v1 : Int32) : wpX_leastWeight (fun r => wpY_leastWeight (fun r' v' => r' = r ∧ i_Rel (k + 4) u v') v v1) u v1 := by
  obtain ⟨n, T, B, ct, M, L, S, D, hn, rfl, rfl, hT⟩ := I
  rcases lc_cc v1 with ⟨c, hc, rfl⟩ | ⟨n0, n1, nb⟩
  · exact lc_xleast hn hc (fun r hr => lc_yleast hn hc (hT c hc).1 (fun r' hr' _ _ _ _ _ => ⟨lc_lw_u hr hr', lc_R hn hT⟩))
  · exact lc_xleast_c n0 n1 (lc_yleast_c nb ⟨rfl, lc_R hn hT⟩)
theorem i_vc_nearest {k : Nat} {u : SX} {v : SY} (I : i_Rel k u v) (hk : k + 4 ≤ 2049) (v1 : Int32) (v2 : Int32) : wpX_nearest (fun r => wpY_nearest (fun r' v' => r' = r ∧ i_Rel (k + 4) u v') v v1 v2) u v1 v2 := by
  obtain ⟨n, T, B, ct, M, L, S, D, hn, rfl, rfl, hT⟩ := I
  rcases lc_cc v1 with ⟨c, hc, rfl⟩ | ⟨n0, n1, nb⟩
  · rcases lc_ww hn v2 with bad | ⟨w, hw, rfl⟩
    · exact lc_xnearest_a hc bad (lc_ynearest_a hc bad ⟨rfl, lc_R hn hT⟩)
    · exact lc_xnearest hn hc hw (hT c hc).1 (fun b hb => lc_ynearest hn hc hw (hT c hc).1 (fun b' hb' _ _ _ _ _ => ⟨congrArg nI (lc_nr_u hb' hb), lc_R hn hT⟩))
  · exact lc_xnearest_c n0 n1 (lc_ynearest_c nb ⟨rfl, lc_R hn hT⟩)
theorem i_vc_cosets {k : Nat} {u : SX} {v : SY} (I : i_Rel k u v) (hk : k + 4 ≤ 2049) (v1 : Int32) (v2 : Int32) : wpX_cosets (fun r => wpY_cosets (fun r' v' => r' = r ∧ i_Rel (k + 4) u v') v v1 v2) u v1 v2 := by
  obtain ⟨n, T, B, ct, M, L, S, D, hn, rfl, rfl, hT⟩ := I
  rcases lc_cc v1 with ⟨c, hc, rfl⟩ | ⟨n0, n1, nb⟩
  · exact lc_xcosets hn hc (hT c hc).1 (lc_ycosets hn hc (hT c hc) (fun _ _ _ _ _ => ⟨rfl, lc_R hn hT⟩))
  · exact lc_xcosets_c n0 n1 (lc_ycosets_c nb ⟨rfl, lc_R hn hT⟩)
theorem i_vc_radius {k : Nat} {u : SX} {v : SY} (I : i_Rel k u v) (hk : k + 4 ≤ 2049) (v1 : Int32) : wpX_radius (fun r => wpY_radius (fun r' v' => r' = r ∧ i_Rel (k + 4) u v') v v1) u v1 := by
  obtain ⟨n, T, B, ct, M, L, S, D, hn, rfl, rfl, hT⟩ := I
  rcases lc_cc v1 with ⟨c, hc, rfl⟩ | ⟨n0, n1, nb⟩
  · exact lc_xradius hn hc (hT c hc).1 (fun g hg => lc_yradius hn hc (hT c hc) (fun g' hg' _ _ _ _ _ => ⟨congrArg nI (lc_rd_u hg hg'), lc_R hn hT⟩))
  · exact lc_xradius_c n0 n1 (lc_yradius_c nb ⟨rfl, lc_R hn hT⟩)
theorem i_vc_isInformation {k : Nat} {u : SX} {v : SY} (I : i_Rel k u v) (hk : k + 4 ≤ 2049) (v1 : Int32) (v2 : Int32) : wpX_isInformation (fun r => wpY_isInformation (fun r' v' => r' = r ∧ i_Rel (k + 4) u v') v v1 v2) u v1 v2 := by
  obtain ⟨n, T, B, ct, M, L, S, D, hn, rfl, rfl, hT⟩ := I
  rcases lc_cc v1 with ⟨c, hc, rfl⟩ | ⟨n0, n1, nb⟩
  · rcases lc_ww hn v2 with bad | ⟨w, hw, rfl⟩
    · exact lc_xisInf_a hc bad (lc_yisInf_a hc bad ⟨rfl, lc_R hn hT⟩)
    · exact lc_xisInf hn hc hw (lc_yisInf hn hc hw (hT c hc) (fun _ _ _ _ _ => ⟨rfl, lc_R hn hT⟩))
  · exact lc_xisInf_c n0 n1 (lc_yisInf_c nb ⟨rfl, lc_R hn hT⟩)
theorem i_vc_informationSets {k : Nat} {u : SX} {v : SY} (I : i_Rel k u v) (hk : k + 4 ≤ 2049) (v1 : Int32) : wpX_informationSets (fun r => wpY_informationSets (fun r' v' => r' = r ∧ i_Rel (k + 4) u v') v v1) u v1 := by
  obtain ⟨n, T, B, ct, M, L, S, D, hn, rfl, rfl, hT⟩ := I
  rcases lc_cc v1 with ⟨c, hc, rfl⟩ | ⟨n0, n1, nb⟩
  · exact lc_xinfSets hn hc (lc_yinfSets hn hc (hT c hc) (fun _ _ _ _ _ => ⟨rfl, lc_R hn hT⟩))
  · exact lc_xinfSets_c n0 n1 (lc_yinfSets_c nb ⟨rfl, lc_R hn hT⟩)
theorem i_vc_meet {k : Nat} {u : SX} {v : SY} (I : i_Rel k u v) (hk : k + 4 ≤ 2049) : wpX_meet (fun r u' => wpY_meet (fun r' v' => r' = r ∧ i_Rel (k + 4) u' v') v) u := by
  obtain ⟨n, T, B, ct, M, L, S, D, hn, rfl, rfl, hT⟩ := I
  exact lc_xmeet hn (fun B' => lc_ymeet hn (fun _ _ _ _ _ => ⟨rfl, lc_R hn (lc_LC_put hn hT (lc_LC_meet (hT 0 (by omega)) (hT 1 (by omega))) 0)⟩))
theorem i_vc_length {k : Nat} {u : SX} {v : SY} (I : i_Rel k u v) (hk : k + 4 ≤ 2049) : wpX_length (fun r => wpY_length (fun r' => r' = r ∧ i_Rel (k + 4) u v) v) u := by
  obtain ⟨n, T, B, ct, M, L, S, D, hn, rfl, rfl, hT⟩ := I
  exact ⟨rfl, lc_R hn hT⟩
theorem i_vc_orthogonal {k : Nat} {u : SX} {v : SY} (I : i_Rel k u v) (hk : k + 4 ≤ 2049) : wpX_orthogonal (fun r => wpY_orthogonal (fun r' v' => r' = r ∧ i_Rel (k + 4) u v') v) u := by
  obtain ⟨n, T, B, ct, M, L, S, D, hn, rfl, rfl, hT⟩ := I
  exact lc_xorth hn (lc_yorth hn (fun _ _ _ _ _ => ⟨rfl, lc_R hn hT⟩))

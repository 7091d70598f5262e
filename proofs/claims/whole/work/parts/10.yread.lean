/-! Y: the calls that only read -/
theorem lc_yhas {post : Int32 → Prop} {n c w : Nat} {T : Nat → Prop} {ct : Int32} {M L S D : Nat → Int32} (hn : n ≤ 10) (hc : c ≤ 1) (hw : w < 2 ^ n) (h : post (nI (lc_b (lc_cd T c w)))) : wpY_has post (lc_Y n T ct M L S D) (nI c) (nI w) := by
  have hW := lc_W hn
  unfold wpY_has
  refine lc_yc hc (br_t rfl (lc_yword hn hw (br_t rfl ?_)))
  rw [lc_ix']
  exact ⟨vp_in_nI (by omega) (by omega), lc_bbv (P := lc_cd T c w) (by rw [nI_clamp (by omega)]; rfl) (fun p => lc_p1 h p) (fun p => lc_p0 h p)⟩
/-- what a reading call may leave behind it -/
def lc_YR (post : Int32 → SY → Prop) (n : Nat) (T : Nat → Prop) (r : Int32) : Prop := ∀ ct M L S D, post r (lc_Y n T ct M L S D)
theorem lc_ywordAt {post : Int32 → SY → Prop} {n c : Nat} {i : Int32} {T : Nat → Prop} {ct : Int32} {M L S D : Nat → Int32} (hn : n ≤ 10) (hc : c ≤ 1) (h : ∀ r, lc_wa n (lc_cd T c) i r → lc_YR post n T r) : wpY_wordAt post (lc_Y n T ct M L S D) (nI c) i := by
  have hW := lc_W hn
  have hC := lc_cW (lc_cd T c) hn
  unfold wpY_wordAt
  refine lc_yc hc (br_t rfl (lc_ytake hn hc (fun L' hL => ?_)))
  refine br_c (fun q => ?_) (fun q => ?_)
  · refine h _ (Or.inr ⟨fun x hx fx e => ?_, rfl⟩) _ _ _ _ _
    have hcb := lc_cb hn hx fx
    subst e
    exact absurd q (nI_pos (by omega))
  · obtain ⟨j, hj, rfl⟩ := nI_of q
    refine pk_lt j (lc_cnt (lc_cd T c) (2 ^ n)) (fun z => ⟨vp_in_nI (by omega) (by omega), ?_⟩) (fun z => ?_)
    · obtain ⟨x, hx, fx, e⟩ := lc_cnt_at z
      refine h _ (Or.inl ⟨x, hx, fx, by rw [e], ?_⟩) _ _ _ _ _
      rw [nI_clamp hj, ← e, hL x hx fx]
    · refine h _ (Or.inr ⟨fun x hx fx e => ?_, rfl⟩) _ _ _ _ _
      have hcb := lc_cb hn hx fx
      have := (nI_eq (by omega) hj).mp e
      omega
theorem lc_yweights {post : Int32 → SY → Prop} {n c : Nat} {w : Int32} {T : Nat → Prop} {ct : Int32} {M L S D : Nat → Int32} (hn : n ≤ 10) (hc : c ≤ 1) (h : lc_YR post n T (nI (lc_cnt (fun v => lc_cd T c v ∧ nI (lc_wt v) = w) (2 ^ n)))) : wpY_weights post (lc_Y n T ct M L S D) (nI c) w := by
  have hW := lc_W hn
  have hC := lc_cW (lc_cd T c) hn
  unfold wpY_weights
  refine lc_yc hc (br_t rfl (lc_ytake hn hc (fun L' hL => ?_)))
  refine lc_yl (fun k i s => wY_weights_20 post w (nI n) (nI (2 ^ n)) (nI (lc_cnt (lc_cd T c) (2 ^ n))) (lc_em T) M L' S D k s (nI i)) (fun x s => s = nI (lc_cnt (fun v => lc_cd T c v ∧ nI (lc_wt v) = w) x)) (lc_cd T c) (2 ^ n) 0 0 0 rfl (Nat.zero_le _) rfl ?_ ?_ ?_
  · intro k s e
    subst e
    exact br_t (nI_le (Nat.le_refl _) (by omega)) (h _ _ _ _ _)
  · intro x s hx p e
    subst e
    rw [lc_cnt_f (fun z => p z.1)]
  · intro k x s hx p e ih
    subst e
    have hcb := lc_cb hn hx p
    refine br_f (nI_ge hcb.1 (by omega)) ⟨vp_in_nI (by omega) (by omega), ?_⟩
    rw [nI_clamp (by omega), hL x hx p]
    refine lc_yw hn hx ?_
    by_cases q : nI (lc_wt x) = w
    · exact br_t q (nm_r (nI_1 _) (nm_r (nI_1 _) (ih _ (by rw [lc_cnt_t (f := fun v => lc_cd T c v ∧ nI (lc_wt v) = w) ⟨p, q⟩]))))
    · exact br_f q (nm_r (nI_1 _) (ih _ (by rw [lc_cnt_f (f := fun v => lc_cd T c v ∧ nI (lc_wt v) = w) (fun z => q z.2)])))
theorem lc_ydualWeights {post : Int32 → SY → Prop} {n c : Nat} {w : Int32} {T : Nat → Prop} {ct : Int32} {M L S D : Nat → Int32} (hn : n ≤ 10) (hc : c ≤ 1) (h : lc_YR post n T (nI (lc_cnt (fun v => nI (lc_wt v) = w ∧ lc_dual n (lc_cd T c) v) (2 ^ n)))) : wpY_dualWeights post (lc_Y n T ct M L S D) (nI c) w := by
  have hW := lc_W hn
  unfold wpY_dualWeights
  refine lc_yc hc (br_t rfl (lc_ytake hn hc (fun L' hL => ?_)))
  refine loop_0 (fun k v s => wY_dualWeights_20 post w (nI n) (nI (2 ^ n)) (nI (lc_cnt (lc_cd T c) (2 ^ n))) (lc_em T) M L' S D k s (nI v)) (fun v s => s = nI (lc_cnt (fun v => nI (lc_wt v) = w ∧ lc_dual n (lc_cd T c) v) v)) (2 ^ n) 0 rfl ?_ ?_
  · intro k s e
    subst e
    exact br_t (nI_le (Nat.le_refl _) (by omega)) (h _ _ _ _ _)
  · intro k v s hv e ih
    subst e
    refine br_f (nI_ge hv (by omega)) (lc_yw hn hv ?_)
    by_cases q : nI (lc_wt v) = w
    · refine br_t q (lc_ydual hn hv hL (lc_bb (fun p => ?_) (fun p => ?_)))
      · exact nm_r (nI_1 _) (nm_r (nI_1 v) (ih _ (by rw [lc_cnt_t ⟨q, p⟩])))
      · exact nm_r (nI_1 v) (ih _ (by rw [lc_cnt_f (fun z => p z.2)]))
    · exact br_f q (nm_r (nI_1 v) (ih _ (by rw [lc_cnt_f (fun z => q z.1)])))
theorem lc_yleast {post : Int32 → SY → Prop} {n c : Nat} {T : Nat → Prop} {ct : Int32} {M L S D : Nat → Int32} (hn : n ≤ 10) (hc : c ≤ 1) (h0 : lc_cd T c 0) (h : ∀ r, lc_lw (lc_cd T c) (2 ^ n) r → lc_YR post n T r) : wpY_leastWeight post (lc_Y n T ct M L S D) (nI c) := by
  have hW := lc_W hn
  have hC := lc_cW (lc_cd T c) hn
  unfold wpY_leastWeight
  refine lc_yc hc (br_t rfl (lc_ytake hn hc (fun L' hL => ?_)))
  refine lc_yl (fun k i s => wY_leastWeight_20 post (nI n) (nI (2 ^ n)) (nI (lc_cnt (lc_cd T c) (2 ^ n))) (lc_em T) M L' S D k s (nI i)) (fun v s => 1 ≤ v ∧ lc_lw (lc_cd T c) v s) (lc_cd T c) (2 ^ n) 1 1 (-4) (lc_cnt_t (m := 0) h0) (Nat.two_pow_pos n) ⟨Nat.le_refl 1, Or.inl ⟨rfl, fun v h1 h2 => by omega⟩⟩ ?_ ?_ ?_
  · intro k s e
    exact br_t (nI_le (Nat.le_refl _) (by omega)) (h s e.2 _ _ _ _ _)
  · intro v s hv p e
    exact ⟨by omega, lc_lw_skip e.2 p⟩
  · intro k v s hv p e ih
    obtain ⟨v1, e⟩ := e
    have hcb := lc_cb hn hv p
    have hwt := lc_wt_le v
    refine br_f (nI_ge hcb.1 (by omega)) ⟨vp_in_nI (by omega) (by omega), ?_⟩
    rw [nI_clamp (by omega), hL v hv p]
    refine lc_yw hn hv ?_
    rcases lc_lw_c e with rfl | ⟨q, hq, rfl⟩
    · exact br_t (by decide) (nm_r (nI_1 _) (ih _ ⟨by omega, lc_lw_first v1 e p⟩))
    · refine br_f (nI_pos (by omega)) (pk_le q (lc_wt v) (fun z => ?_) (fun z => ?_))
      · exact nm_r (nI_1 _) (ih _ ⟨by omega, lc_lw_keep hq e z⟩)
      · exact nm_r (nI_1 _) (ih _ ⟨by omega, lc_lw_new v1 hq e p z⟩)
theorem lc_ynearest {post : Int32 → SY → Prop} {n c w : Nat} {T : Nat → Prop} {ct : Int32} {M L S D : Nat → Int32} (hn : n ≤ 10) (hc : c ≤ 1) (hw : w < 2 ^ n) (h0 : lc_cd T c 0) (h : ∀ b, lc_nr (lc_cd T c) w (2 ^ n) b → lc_YR post n T (nI b)) : wpY_nearest post (lc_Y n T ct M L S D) (nI c) (nI w) := by
  have hW := lc_W hn
  have hC := lc_cW (lc_cd T c) hn
  have hP := Nat.two_pow_pos n
  unfold wpY_nearest
  refine lc_yc hc (br_t rfl (lc_yword hn hw (br_t rfl (lc_ytake hn hc (fun L' hL => ?_)))))
  refine lc_yl (σ := Nat × Nat) (fun k i s => wY_nearest_32 post (nI w) (nI n) (nI (2 ^ n)) (nI (lc_cnt (lc_cd T c) (2 ^ n))) (lc_em T) M L' S D k (nI s.1) (nI s.2) (nI i)) (fun x s => (x = 0 ∧ s = (0, 11)) ∨ (lc_nr (lc_cd T c) w x s.1 ∧ s.2 = lc_wt (s.1 ^^^ w))) (lc_cd T c) (2 ^ n) 0 0 (0, 11) rfl (Nat.zero_le _) (Or.inl ⟨rfl, rfl⟩) ?_ ?_ ?_
  · intro k s e
    refine br_t (nI_le (Nat.le_refl _) (by omega)) ?_
    rcases e with ⟨e, _⟩ | e
    · omega
    · exact h _ e.1 _ _ _ _ _
  · intro x s hx p e
    rcases e with ⟨rfl, _⟩ | e
    · exact absurd h0 p
    · exact Or.inr ⟨lc_nr_keep e.1 (fun z => absurd z p), e.2⟩
  · intro k x s hx p e ih
    obtain ⟨b, d⟩ := s
    have hcb := lc_cb hn hx p
    have hl := lc_xl hx hw
    have w1 := lc_wt_le (x ^^^ w)
    refine br_f (nI_ge hcb.1 (by omega)) ⟨vp_in_nI (by omega) (by omega), ?_⟩
    rw [nI_clamp (by omega), hL x hx p, nx_xor]
    refine lc_yw hn hl ?_
    rcases e with ⟨rfl, e⟩ | ⟨e, e2⟩
    · cases e
      refine pk_le 11 (lc_wt (0 ^^^ w)) (fun z => by omega) (fun z => ⟨vp_in_nI (by omega) (by omega), nm_e (nm_r (nI_1 _) (ih (0, lc_wt (0 ^^^ w)) (Or.inr ⟨lc_nr_1 h0 w, rfl⟩)))⟩)
    · dsimp only at e e2 ⊢
      subst e2
      have w2 := lc_wt_le (b ^^^ w)
      refine pk_le (lc_wt (b ^^^ w)) (lc_wt (x ^^^ w)) (fun z => ?_) (fun z => ⟨vp_in_nI (by omega) (by omega), ?_⟩)
      · exact nm_r (nI_1 _) (ih (b, lc_wt (b ^^^ w)) (Or.inr ⟨lc_nr_keep e (fun _ => z), rfl⟩))
      · exact nm_e (nm_r (nI_1 _) (ih (x, lc_wt (x ^^^ w)) (Or.inr ⟨lc_nr_new e p z, rfl⟩)))
theorem lc_ycosets {post : Int32 → SY → Prop} {n c : Nat} {d : Int32} {T : Nat → Prop} {ct : Int32} {M L S D : Nat → Int32} (hn : n ≤ 10) (hc : c ≤ 1) (hf : lc_LC n (lc_cd T c)) (h : lc_YR post n T (nI (lc_cnt (fun v => lc_ldr (lc_cd T c) v ∧ nI (lc_ds n (lc_cd T c) v) = d) (2 ^ n)))) : wpY_cosets post (lc_Y n T ct M L S D) (nI c) d := by
  unfold wpY_cosets
  refine lc_yc hc (br_t rfl (lc_ytake hn hc (fun L' hL => lc_yfind hn hf hL (fun S' D' hD => ?_))))
  refine br_c (fun q => ?_) (fun q => ?_)
  · rw [lc_cnt_0] at h
    · exact h _ _ _ _ _
    · rintro x hx ⟨_, rfl⟩
      have := lc_ds_le hn hf.1 hx
      exact absurd q (nI_pos (by omega))
  · obtain ⟨j, hj, rfl⟩ := nI_of q
    refine pk_le j n (fun z => ⟨vp_in_nI (by omega) (by omega), ?_⟩) (fun z => ?_)
    · rw [nI_clamp hj, hD j (by omega)]
      rw [lc_cnt_c (g := fun v => lc_ldr (lc_cd T c) v ∧ lc_ds n (lc_cd T c) v = j)] at h
      · exact h _ _ _ _ _
      · intro x hx
        have := lc_ds_le hn hf.1 hx
        rw [nI_eq (by omega) hj]
    · rw [lc_cnt_0] at h
      · exact h _ _ _ _ _
      · rintro x hx ⟨_, e⟩
        have := lc_ds_le hn hf.1 hx
        have := (nI_eq (by omega) hj).mp e
        omega
theorem lc_yradius {post : Int32 → SY → Prop} {n c : Nat} {T : Nat → Prop} {ct : Int32} {M L S D : Nat → Int32} (hn : n ≤ 10) (hc : c ≤ 1) (hf : lc_LC n (lc_cd T c)) (h : ∀ g, lc_rd n (lc_cd T c) (2 ^ n) g → lc_YR post n T (nI g)) : wpY_radius post (lc_Y n T ct M L S D) (nI c) := by
  have hW := lc_W hn
  unfold wpY_radius
  refine lc_yc hc (br_t rfl (lc_ytake hn hc (fun L' hL => lc_yfind hn hf hL (fun S' D' hD => ?_))))
  refine loop_0 (σ := Nat) (fun k i s => wY_radius_23 post (nI n) (nI (2 ^ n)) (nI (lc_cnt (lc_cd T c) (2 ^ n))) (lc_em T) M L' S' D' k (nI s) (nI i)) (fun i s => (∀ v, v < 2 ^ n → lc_ldr (lc_cd T c) v → lc_ds n (lc_cd T c) v < i → lc_ds n (lc_cd T c) v ≤ s) ∧ (s = 0 ∨ ∃ v, v < 2 ^ n ∧ lc_ldr (lc_cd T c) v ∧ lc_ds n (lc_cd T c) v = s)) (n + 1) 0 ⟨fun v _ _ hv => by omega, Or.inl rfl⟩ ?_ ?_
  · intro k s e
    refine br_t (nI_lt (by omega) (by omega)) (h s ⟨fun v hv lv => ?_, e.2⟩ _ _ _ _ _)
    have := lc_ds_le hn hf.1 hv
    exact e.1 v hv lv (by omega)
  · intro k i s hi e ih
    obtain ⟨e1, e2⟩ := e
    have hcn := lc_cnt_le (fun v => lc_ldr (lc_cd T c) v ∧ lc_ds n (lc_cd T c) v = i) (2 ^ n)
    refine br_f (nI_nlt (by omega) (by omega)) ⟨vp_in_nI (by omega) (by omega), ?_⟩
    refine pk_le (lc_cnt (fun v => lc_ldr (lc_cd T c) v ∧ lc_ds n (lc_cd T c) v = i) (2 ^ n)) 0 (fun z => ?_) (fun z => ?_) (by rw [nI_clamp (by omega)]; exact hD i (by omega))
    · refine nm_r (nI_1 i) (ih s ⟨fun v hv lv hd => ?_, e2⟩)
      by_cases q : lc_ds n (lc_cd T c) v = i
      · have := (lc_cnt_pos (f := fun v => lc_ldr (lc_cd T c) v ∧ lc_ds n (lc_cd T c) v = i)).mpr ⟨v, hv, lv, q⟩
        omega
      · exact e1 v hv lv (by omega)
    · obtain ⟨v, hv, lv, q⟩ := lc_cnt_pos.mp z
      exact nm_r (nI_1 i) (ih i ⟨fun v hv lv hd => by omega, Or.inr ⟨v, hv, lv, q⟩⟩)
theorem lc_info_c {n w : Nat} {f : Nat → Prop} (hf : lc_LC n f) : (lc_cnt f (2 ^ n) = 2 ^ lc_wt w ∧ lc_apart n f w) ↔ lc_info n f w := by
  obtain ⟨k, hk⟩ := lc_pow n f hf
  unfold lc_info
  rw [hk, lc_dm_pow]
  constructor
  · rintro ⟨e, a⟩
    have z := lc_dm_pow k
    rw [e, lc_dm_pow] at z
    exact ⟨z, a⟩
  · rintro ⟨e, a⟩
    exact ⟨by rw [e], a⟩
theorem lc_yisInf {post : Int32 → SY → Prop} {n c w : Nat} {T : Nat → Prop} {ct : Int32} {M L S D : Nat → Int32} (hn : n ≤ 10) (hc : c ≤ 1) (hw : w < 2 ^ n) (hf : lc_LC n (lc_cd T c)) (h : lc_YR post n T (nI (lc_b (lc_info n (lc_cd T c) w)))) : wpY_isInformation post (lc_Y n T ct M L S D) (nI c) (nI w) := by
  unfold wpY_isInformation
  refine lc_yc hc (br_t rfl (lc_yword hn hw (br_t rfl (lc_ytake hn hc (fun L' hL => lc_yinf hn hw hf.1 hL ?_)))))
  rw [lc_b_c (lc_info_c hf)]
  refine lc_bb (fun p => ?_) (fun p => ?_)
  · rw [lc_b_t p] at h
    exact h _ _ _ _ _
  · rw [lc_b_f p] at h
    exact h _ _ _ _ _
theorem lc_yinfSets {post : Int32 → SY → Prop} {n c : Nat} {T : Nat → Prop} {ct : Int32} {M L S D : Nat → Int32} (hn : n ≤ 10) (hc : c ≤ 1) (hf : lc_LC n (lc_cd T c)) (h : lc_YR post n T (nI (lc_cnt (lc_info n (lc_cd T c)) (2 ^ n)))) : wpY_informationSets post (lc_Y n T ct M L S D) (nI c) := by
  have hW := lc_W hn
  unfold wpY_informationSets
  refine lc_yc hc (br_t rfl (lc_ytake hn hc (fun L' hL => ?_)))
  refine loop_0 (fun k v s => wY_informationSets_19 post (nI n) (nI (2 ^ n)) (nI (lc_cnt (lc_cd T c) (2 ^ n))) (lc_em T) M L' S D k s (nI v)) (fun v s => s = nI (lc_cnt (lc_info n (lc_cd T c)) v)) (2 ^ n) 0 rfl ?_ ?_
  · intro k s e
    subst e
    exact br_t (nI_le (Nat.le_refl _) (by omega)) (h _ _ _ _ _)
  · intro k v s hv e ih
    subst e
    refine br_f (nI_ge hv (by omega)) (lc_yinf hn hv hf.1 hL ?_)
    rw [lc_b_c (lc_info_c hf)]
    refine lc_bb (fun p => ?_) (fun p => ?_)
    · exact nm_r (nI_1 _) (nm_r (nI_1 v) (ih _ (by rw [lc_cnt_t p])))
    · exact nm_r (nI_1 v) (ih _ (by rw [lc_cnt_f p]))
theorem lc_orth_c {n : Nat} {f g : Nat → Prop} : lc_orth n f g ↔ lc_orth n g f :=
  ⟨fun h v hv gv x hx fx o => h x hx fx v hv gv ((lc_od_comm _ _).mp o), fun h v hv fv x hx gx o => h x hx gx v hv fv ((lc_od_comm _ _).mp o)⟩
theorem lc_yorth {post : Int32 → SY → Prop} {n : Nat} {T : Nat → Prop} {ct : Int32} {M L S D : Nat → Int32} (hn : n ≤ 10) (h : lc_YR post n T (nI (lc_b (lc_orth n (lc_cd T 0) (lc_cd T 1))))) : wpY_orthogonal post (lc_Y n T ct M L S D) := by
  have hW := lc_W hn
  rw [lc_b_c lc_orth_c] at h
  unfold wpY_orthogonal
  refine lc_ytake (c := 0) hn (by omega) (fun L' hL => ?_)
  refine loop_0 (fun k v (_ : Unit) => wY_orthogonal_7 post (nI n) (nI (2 ^ n)) (nI (lc_cnt (lc_cd T 0) (2 ^ n))) (lc_em T) M L' S D k (nI v)) (fun v _ => ∀ x, x < v → lc_cd T 1 x → lc_dual n (lc_cd T 0) x) (2 ^ n) () (fun x hx => by omega) ?_ ?_
  · intro k _ e
    refine br_t (nI_le (Nat.le_refl _) (by omega)) ?_
    rw [lc_b_t (P := lc_orth n (lc_cd T 1) (lc_cd T 0)) e] at h
    exact h _ _ _ _ _
  · intro k v _ hv e ih
    have eb : (1024 : Int32) + nI v = nI (1024 + v) := nI_add 1024 v
    refine br_f (nI_ge hv (by omega)) ?_
    rw [eb]
    refine ⟨vp_in_nI (by omega) (by omega), lc_bbv (P := lc_cd T 1 v) (by rw [nI_clamp (by omega)]; rfl) (fun p => ?_) (fun p => ?_)⟩
    · refine lc_ydual hn hv hL (lc_bb (fun q => ?_) (fun q => ?_))
      · refine nm_r (nI_1 v) (ih () (fun x hx fx => ?_))
        by_cases z : x = v
        · subst z; exact q
        · exact e x (by omega) fx
      · rw [lc_b_f (P := lc_orth n (lc_cd T 1) (lc_cd T 0)) (fun z => q (z v hv p))] at h
        exact h _ _ _ _ _
    · refine nm_r (nI_1 v) (ih () (fun x hx fx => ?_))
      by_cases z : x = v
      · subst z; exact absurd fx p
      · exact e x (by omega) fx

/-! Y: the calls that change a code -/
def lc_YP (post : Int32 → SY → Prop) (n : Nat) (T : Nat → Prop) (c : Nat) (g : Nat → Prop) : Prop := ∀ ct M L S D, post (nI (lc_dm (lc_cnt (lc_cd (lc_put T c g (2 ^ n)) c) (2 ^ n)))) (lc_Y n (lc_put T c g (2 ^ n)) ct M L S D)
theorem lc_yadd {post : Int32 → SY → Prop} {n c w : Nat} {T : Nat → Prop} {ct : Int32} {M L S D : Nat → Int32} (hn : n ≤ 10) (hc : c ≤ 1) (hw : w < 2 ^ n) (h : lc_YP post n T c (lc_gadd T c w)) : wpY_add post (lc_Y n T ct M L S D) (nI c) (nI w) := by
  have hW := lc_W hn
  have hC := lc_cW (lc_cd T c) hn
  unfold wpY_add
  refine lc_yc hc (br_t rfl (lc_yword hn hw (br_t rfl (lc_ytake hn hc (fun L' hL => lc_ybegin hn (fun M' hM => ?_))))))
  refine lc_yl (fun k i s => wY_add_29 post (nI c) (nI w) (nI n) (nI (2 ^ n)) (nI (lc_cnt (lc_cd T c) (2 ^ n))) k (nI i) (lc_em T) s L' S D) (fun x s => ∀ y, y < 2 ^ n → s y = nI (lc_b (∃ v, v < x ∧ lc_cd T c v ∧ (y = v ∨ y = v ^^^ w)))) (lc_cd T c) (2 ^ n) 0 0 M' rfl (Nat.zero_le _) (lc_mk0 (fun v y => lc_cd T c v ∧ (y = v ∨ y = v ^^^ w)) hM) ?_ ?_ ?_
  · intro k s e
    refine br_t (nI_le (Nat.le_refl _) (by omega)) (lc_ykeep (lc_gadd T c w) hn hc (fun y hy => ?_) (fun ct' L2 => h _ _ _ _ _))
    rw [e y hy]
    refine congrArg nI (lc_b_c ⟨?_, ?_⟩)
    · rintro ⟨v, hv, fv, rfl | rfl⟩
      · exact Or.inl fv
      · refine Or.inr ?_
        rw [lc_xx]
        exact fv
    · rintro (fy | fy)
      · exact ⟨y, hy, fy, Or.inl rfl⟩
      · exact ⟨y ^^^ w, lc_xl hy hw, fy, Or.inr (lc_xx y w).symm⟩
  · intro x s hx p e
    exact lc_mks (Q := fun v y => lc_cd T c v ∧ (y = v ∨ y = v ^^^ w)) e (fun y z => p z.1)
  · intro k x s hx p e ih
    have hcb := lc_cb hn hx p
    have hl := lc_xl hx hw
    have eL : L' (nI (lc_cnt (lc_cd T c) x)).toNatClampNeg = nI x := by rw [nI_clamp (by omega), hL x hx p]
    refine br_f (nI_ge hcb.1 (by omega)) ⟨vp_in_nI (by omega) (by omega), ?_⟩
    rw [eL, nx_xor]
    refine ⟨vp_in_nI (by omega) (by omega), nm_r (lc_st1 s (by omega)) ⟨vp_in_nI (by omega) (by omega), vp_in_nI (by omega) (by omega), nm_r (lc_st1 _ (by omega)) (nm_r (nI_1 _) (ih _ ?_))⟩⟩
    exact lc_mk2 (Q := fun v y => lc_cd T c v ∧ (y = v ∨ y = v ^^^ w)) e (fun y => ⟨fun z => z.2, fun z => ⟨p, z⟩⟩)
theorem lc_yclear {post : Int32 → SY → Prop} {n c : Nat} {T : Nat → Prop} {ct : Int32} {M L S D : Nat → Int32} (hn : n ≤ 10) (hc : c ≤ 1)
    (h : ∀ ct M L S D, post (nI (lc_dm (lc_cnt (lc_cd T c) (2 ^ n)))) (lc_Y n (lc_put T c (fun v => v = 0) (2 ^ n)) ct M L S D)) : wpY_clear post (lc_Y n T ct M L S D) (nI c) := by
  unfold wpY_clear
  refine lc_yc hc (br_t rfl (lc_ydim hn hc (fun ct' L' => lc_ybegin hn (fun M' hM => ?_))))
  refine nm_r (e' := upd M' 0 (nI 1)) (by rw [lc_nar1]) (lc_ykeep (fun v => v = 0) hn hc (fun v hv => ?_) (fun ct2 L2 => h _ _ _ _ _))
  by_cases q : v = 0
  · rw [lc_b_t q, q, pk_us]
  · rw [lc_b_f q, pk_un q, hM v hv]
theorem lc_ydualize {post : Int32 → SY → Prop} {n c : Nat} {T : Nat → Prop} {ct : Int32} {M L S D : Nat → Int32} (hn : n ≤ 10) (hc : c ≤ 1) (h : lc_YP post n T c (lc_dual n (lc_cd T c))) : wpY_dualize post (lc_Y n T ct M L S D) (nI c) := by
  have hW := lc_W hn
  unfold wpY_dualize
  refine lc_yc hc (br_t rfl (lc_ytake hn hc (fun L' hL => ?_)))
  refine loop_0 (fun k i s => wY_dualize_17 post (nI c) (nI n) (nI (2 ^ n)) (nI (lc_cnt (lc_cd T c) (2 ^ n))) k (nI i) (lc_em T) s L' S D) (fun i s => ∀ v, v < i → s v = nI (lc_b (lc_dual n (lc_cd T c) v))) (2 ^ n) M (fun v hv => by omega) ?_ ?_
  · intro k s e
    exact br_t (nI_le (Nat.le_refl _) (by omega)) (lc_ykeep (lc_dual n (lc_cd T c)) hn hc e (fun ct' L2 => h _ _ _ _ _))
  · intro k i s hi e ih
    refine br_f (nI_ge hi (by omega)) (lc_ydual hn hi hL ⟨vp_in_nI (by omega) (by omega), ?_⟩)
    exact nm_r (lc_stb s _ (by omega)) (nm_r (nI_1 i) (ih _ (lc_ext e rfl)))
theorem lc_yshorten {post : Int32 → SY → Prop} {n c p : Nat} {T : Nat → Prop} {ct : Int32} {M L S D : Nat → Int32} (hn : n ≤ 10) (hc : c ≤ 1) (hp : p < n) (h : lc_YP post n T c (lc_gshort T c p)) : wpY_shorten post (lc_Y n T ct M L S D) (nI c) (nI p) := by
  have hW := lc_W hn
  have hC := lc_cW (lc_cd T c) hn
  unfold wpY_shorten
  refine lc_yc hc (br_t rfl (lc_yplace hn hp (br_t rfl (lc_ytake hn hc (fun L' hL => lc_ybegin hn (fun M' hM => ?_))))))
  refine lc_yl (fun k i s => wY_shorten_29 post (nI c) (nI p) (nI n) (nI (2 ^ n)) (nI (lc_cnt (lc_cd T c) (2 ^ n))) k (nI i) (lc_em T) s L' S D) (fun x s => ∀ y, y < 2 ^ n → s y = nI (lc_b (∃ v, v < x ∧ lc_gshort T c p v ∧ y = v))) (lc_cd T c) (2 ^ n) 0 0 M' rfl (Nat.zero_le _) (lc_mk0 (fun v y => lc_gshort T c p v ∧ y = v) hM) ?_ ?_ ?_
  · intro k s e
    refine br_t (nI_le (Nat.le_refl _) (by omega)) (lc_ykeep (lc_gshort T c p) hn hc (fun y hy => ?_) (fun ct' L2 => h _ _ _ _ _))
    rw [e y hy]
    refine congrArg nI (lc_b_c ⟨?_, fun fy => ⟨y, hy, fy, rfl⟩⟩)
    rintro ⟨v, hv, fv, rfl⟩
    exact fv
  · intro x s hx q e
    exact lc_mks (Q := fun v y => lc_gshort T c p v ∧ y = v) e (fun y z => q z.1.1)
  · intro k x s hx q e ih
    have hcb := lc_cb hn hx q
    have eL : L' (nI (lc_cnt (lc_cd T c) x)).toNatClampNeg = nI x := by rw [nI_clamp (by omega), hL x hx q]
    refine br_f (nI_ge hcb.1 (by omega)) ⟨vp_in_nI (by omega) (by omega), ?_⟩
    rw [eL]
    refine lc_bbv (P := x.testBit p = true) (lc_bit (by omega) (by omega)) (fun q2 => ?_) (fun q2 => ?_)
    · exact nm_r (nI_1 _) (ih _ (lc_mks (Q := fun v y => lc_gshort T c p v ∧ y = v) e (fun y z => z.1.2 q2)))
    · refine ⟨vp_in_nI (by omega) (by omega), vp_in_nI (by omega) (by omega), nm_r (lc_st1 s (by omega)) (nm_r (nI_1 _) (ih _ ?_))⟩
      exact lc_mk1 (Q := fun v y => lc_gshort T c p v ∧ y = v) e (fun y => ⟨fun z => z.2, fun z => ⟨⟨q, q2⟩, z⟩⟩)
theorem lc_ypuncture {post : Int32 → SY → Prop} {n c p : Nat} {T : Nat → Prop} {ct : Int32} {M L S D : Nat → Int32} (hn : n ≤ 10) (hc : c ≤ 1) (hp : p < n) (h : lc_YP post n T c (lc_gpunc n T c (lc_mkp p))) : wpY_puncture post (lc_Y n T ct M L S D) (nI c) (nI p) := by
  have hW := lc_W hn
  have hC := lc_cW (lc_cd T c) hn
  unfold wpY_puncture
  refine lc_yc hc (br_t rfl (lc_yplace hn hp (br_t rfl (lc_ytake hn hc (fun L' hL => lc_ybegin hn (fun M' hM => ?_))))))
  refine lc_yl (fun k i s => wY_puncture_29 post (nI c) (nI p) (nI n) (nI (2 ^ n)) (nI (lc_cnt (lc_cd T c) (2 ^ n))) k (nI i) (lc_em T) s L' S D) (fun x s => ∀ y, y < 2 ^ n → s y = nI (lc_b (∃ v, v < x ∧ lc_cd T c v ∧ y = v &&& lc_mkp p))) (lc_cd T c) (2 ^ n) 0 0 M' rfl (Nat.zero_le _) (lc_mk0 (fun v y => lc_cd T c v ∧ y = v &&& lc_mkp p) hM) ?_ ?_ ?_
  · intro k s e
    exact br_t (nI_le (Nat.le_refl _) (by omega)) (lc_ykeep (lc_gpunc n T c (lc_mkp p)) hn hc e (fun ct' L2 => h _ _ _ _ _))
  · intro x s hx q e
    exact lc_mks (Q := fun v y => lc_cd T c v ∧ y = v &&& lc_mkp p) e (fun y z => q z.1)
  · intro k x s hx q e ih
    have hcb := lc_cb hn hx q
    have hl := lc_al (y := lc_mkp p) hx
    have eL : L' (nI (lc_cnt (lc_cd T c) x)).toNatClampNeg = nI x := by rw [nI_clamp (by omega), hL x hx q]
    refine br_f (nI_ge hcb.1 (by omega)) ⟨vp_in_nI (by omega) (by omega), ?_⟩
    rw [eL, lc_mask (by omega), nx_and]
    refine ⟨vp_in_nI (by omega) (by omega), nm_r (lc_st1 s (by omega)) (nm_r (nI_1 _) (ih _ ?_))⟩
    exact lc_mk1 (Q := fun v y => lc_cd T c v ∧ y = v &&& lc_mkp p) e (fun y => ⟨fun z => z.2, fun z => ⟨q, z⟩⟩)
theorem lc_yexchange {post : Int32 → SY → Prop} {n c a b : Nat} {T : Nat → Prop} {ct : Int32} {M L S D : Nat → Int32} (hn : n ≤ 10) (hc : c ≤ 1) (ha : a < n) (hb : b < n) (h : lc_YP post n T c (lc_gexch T c a b)) : wpY_exchange post (lc_Y n T ct M L S D) (nI c) (nI a) (nI b) := by
  have hW := lc_W hn
  have hC := lc_cW (lc_cd T c) hn
  unfold wpY_exchange
  refine lc_yc hc (br_t rfl (lc_yplace hn ha (br_t rfl (lc_yplace hn hb (br_t rfl (lc_ytake hn hc (fun L' hL => lc_ybegin hn (fun M' hM => ?_))))))))
  refine lc_yl (fun k i s => wY_exchange_38 post (nI c) (nI a) (nI b) (nI n) (nI (2 ^ n)) (nI (lc_cnt (lc_cd T c) (2 ^ n))) k (nI i) (lc_em T) s L' S D) (fun x s => ∀ y, y < 2 ^ n → s y = nI (lc_b (∃ v, v < x ∧ lc_cd T c v ∧ y = lc_sw a b v))) (lc_cd T c) (2 ^ n) 0 0 M' rfl (Nat.zero_le _) (lc_mk0 (fun v y => lc_cd T c v ∧ y = lc_sw a b v) hM) ?_ ?_ ?_
  · intro k s e
    refine br_t (nI_le (Nat.le_refl _) (by omega)) (lc_ykeep (lc_gexch T c a b) hn hc (fun y hy => ?_) (fun ct' L2 => h _ _ _ _ _))
    rw [e y hy]
    refine congrArg nI (lc_b_c ⟨?_, fun fy => ⟨lc_sw a b y, lc_sw_lt ha hb hy, fy, (lc_sw_sw a b y).symm⟩⟩)
    rintro ⟨v, hv, fv, rfl⟩
    unfold lc_gexch
    rw [lc_sw_sw]
    exact fv
  · intro x s hx q e
    exact lc_mks (Q := fun v y => lc_cd T c v ∧ y = lc_sw a b v) e (fun y z => q z.1)
  · intro k x s hx q e ih
    have hcb := lc_cb hn hx q
    have hl := lc_sw_lt ha hb hx
    have mk := lc_mk1 (Q := fun v y => lc_cd T c v ∧ y = lc_sw a b v) e (fun y => ⟨fun z => z.2, fun z => ⟨q, z⟩⟩)
    refine br_f (nI_ge hcb.1 (by omega)) ⟨vp_in_nI (by omega) (by omega), ?_⟩
    refine nm_r (e' := nI x) (by rw [nI_clamp (by omega), hL x hx q]) (nm_r (lc_bit (by omega) (by omega)) (nm_r (lc_bit (by omega) (by omega)) ?_))
    have b1 := lc_b_le (x.testBit a = true)
    have b2 := lc_b_le (x.testBit b = true)
    refine pk_eq (lc_b (x.testBit a = true)) (lc_b (x.testBit b = true)) (fun z => ?_) (fun z => ?_)
    · have e1 : lc_sw a b x = x := by
        unfold lc_sw
        rw [if_pos]
        revert z
        cases x.testBit a <;> cases x.testBit b
        · intro _; rfl
        · rw [lc_b_f (by decide), lc_b_t rfl]; omega
        · rw [lc_b_f (P := false = true) (by decide), lc_b_t rfl]; omega
        · intro _; rfl
      rw [e1] at mk
      exact ⟨vp_in_nI (by omega) (by omega), nm_r (lc_st1 s (by omega)) (nm_r (nI_1 _) (ih _ mk))⟩
    · have e1 : lc_sw a b x = (x ^^^ 2 ^ a) ^^^ 2 ^ b := by
        unfold lc_sw
        rw [if_neg]
        intro q2
        rw [q2] at z
        exact z rfl
      rw [e1] at mk hl
      refine nm_r (e' := nI ((x ^^^ 2 ^ a) ^^^ 2 ^ b)) (by rw [lc_shl (by omega), lc_shl (by omega), nx_xor, nx_xor]) ?_
      exact ⟨vp_in_nI (by omega) (by omega), nm_r (lc_st1 s (by omega)) (nm_r (nI_1 _) (ih _ mk))⟩
theorem lc_ymeet {post : Int32 → SY → Prop} {n : Nat} {T : Nat → Prop} {ct : Int32} {M L S D : Nat → Int32} (hn : n ≤ 10) (h : lc_YP post n T 0 (lc_gmeet T)) : wpY_meet post (lc_Y n T ct M L S D) := by
  have hW := lc_W hn
  unfold wpY_meet
  refine loop_0 (fun k i s => wY_meet_2 post (nI n) (nI (2 ^ n)) ct k (nI i) (lc_em T) s L S D) (fun i s => ∀ v, v < i → s v = nI (lc_b (lc_gmeet T v))) (2 ^ n) M (fun v hv => by omega) ?_ ?_
  · intro k s e
    exact br_t (nI_le (Nat.le_refl _) (by omega)) (lc_ykeep (c := 0) (lc_gmeet T) hn (by omega) e (fun ct' L2 => h _ _ _ _ _))
  · intro k i s hi e ih
    have ea : lc_em T (nI i).toNatClampNeg = nI (lc_b (lc_cd T 0 i)) := by
      rw [nI_clamp (by omega)]
      unfold lc_cd lc_em
      rw [Nat.zero_mul, Nat.zero_add]
    have eb : (1024 : Int32) + nI i = nI (1024 + i) := nI_add 1024 i
    refine br_f (nI_ge hi (by omega)) ⟨vp_in_nI (by omega) (by omega), lc_bbv ea (fun p => ?_) (fun p => ⟨vp_in_nI (by omega) (by omega), ?_⟩)⟩
    · rw [eb]
      refine ⟨vp_in_nI (by omega) (by omega), lc_bbv (P := lc_cd T 1 i) (by rw [nI_clamp (by omega)]; rfl) (fun q => ⟨vp_in_nI (by omega) (by omega), ?_⟩) (fun q => ⟨vp_in_nI (by omega) (by omega), ?_⟩)⟩
      · exact nm_r (lc_st1 s (by omega)) (nm_r (nI_1 i) (ih _ (lc_ext1 e ⟨p, q⟩)))
      · exact nm_r (lc_st0 s (by omega)) (nm_r (nI_1 i) (ih _ (lc_ext0 e (fun z => q z.2))))
    · exact nm_r (lc_st0 s (by omega)) (nm_r (nI_1 i) (ih _ (lc_ext0 e (fun z => p z.1))))

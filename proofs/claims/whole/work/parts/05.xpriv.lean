theorem lc_bbv {P A B : Prop} {v : Int32} (e : v = nI (lc_b P)) (f : P → B) (g : ¬ P → A) : (v = 0 → A) ∧ (¬ v = 0 → B) := by
  rw [e]
  exact lc_bb f g
theorem lc_p1 {P : Prop} {post : Int32 → Prop} (h : post (nI (lc_b P))) (p : P) : post 1 := by
  rw [lc_b_t p] at h
  exact h
theorem lc_p0 {P : Prop} {post : Int32 → Prop} (h : post (nI (lc_b P))) (p : ¬ P) : post 0 := by
  rw [lc_b_f p] at h
  exact h
theorem lc_xtake {post : SX → Prop} {n c : Nat} {T : Nat → Prop} {B : Nat → Int32} (g : Nat → Prop) (hn : n ≤ 10) (hc : c ≤ 1) (hB : ∀ v, v < 2 ^ n → B v = nI (lc_b (g v)))
    (h : post (lc_X n (lc_put T c g (2 ^ n)) B)) : wpX_takeBuilt post (lc_X n T B) (nI c) := by
  have hW := lc_W hn
  unfold wpX_takeBuilt
  refine loop_0 (fun k i s => wX_takeBuilt_2 post (nI c) (nI n) (nI (2 ^ n)) k (nI i) s B) (fun i s => s = lc_em (lc_put T c g i)) (2 ^ n) (lc_em T) (by rw [lc_put_0]) ?_ ?_
  · intro k s e
    subst e
    exact br_t (nI_le (Nat.le_refl _) (by omega)) h
  · intro k i s hi e ih
    subst e
    refine br_f (nI_ge hi (by omega)) ⟨vp_in_nI (by omega) (by omega), by rw [lc_ix]; exact vp_in_nI (by omega) (by omega), ?_⟩
    refine nm_r (e' := lc_em (lc_put T c g (i + 1))) ?_ (nm_r (nI_1 i) (ih _ rfl))
    rw [lc_ix, nI_clamp (by omega), nI_clamp (by omega), hB i hi, lc_nar, lc_put_s]
theorem lc_xempty {post : SX → Prop} {n : Nat} {T : Nat → Prop} {B : Nat → Int32} (hn : n ≤ 10) (h : ∀ B', (∀ v, v < 2 ^ n → B' v = nI 0) → post (lc_X n T B')) : wpX_emptyBuilt post (lc_X n T B) := by
  have hW := lc_W hn
  unfold wpX_emptyBuilt
  refine loop_0 (fun k i s => wX_emptyBuilt_2 post (nI n) (nI (2 ^ n)) k (nI i) (lc_em T) s) (fun i s => ∀ v, v < i → s v = nI 0) (2 ^ n) B (fun v hv => by omega) ?_ ?_
  · intro k s e
    exact br_t (nI_le (Nat.le_refl _) (by omega)) (h s e)
  · intro k i s hi e ih
    refine br_f (nI_ge hi (by omega)) ⟨vp_in_nI (by omega) (by omega), ?_⟩
    refine nm_r (e' := upd s i (nI 0)) ?_ (nm_r (nI_1 i) (ih _ ?_))
    · rw [nI_clamp (by omega), lc_nar0]
    · intro v hv
      by_cases q : v = i
      · rw [q, pk_us]
      · rw [pk_un q]
        exact e v (by omega)
theorem lc_xdim {post : Int32 → Prop} {n c : Nat} {T : Nat → Prop} {B : Nat → Int32} (hn : n ≤ 10) (hc : c ≤ 1) (h : post (nI (lc_dm (lc_cnt (lc_cd T c) (2 ^ n))))) : wpX_dimensionOf post (lc_X n T B) (nI c) := by
  have hW := lc_W hn
  unfold wpX_dimensionOf
  refine loop_0 (fun k i s => wX_dimensionOf_4 post (nI c) (nI n) (nI (2 ^ n)) (lc_em T) B k s (nI i)) (fun i s => s = nI (lc_cnt (lc_cd T c) i)) (2 ^ n) 0 rfl ?_ ?_
  · intro k s e
    subst e
    refine br_t (nI_le (Nat.le_refl _) (by omega)) ?_
    have hm := lc_cnt_le (lc_cd T c) (2 ^ n)
    revert h hm
    generalize lc_cnt (lc_cd T c) (2 ^ n) = m
    intro h hm
    have hd := lc_dm_le hm
    have h1 := lc_dm_1 m
    refine loop_0 (fun k i (_ : Unit) => wX_dimensionOf_32 post (nI m) (nI n) (nI (2 ^ n)) (lc_em T) B k (nI i)) (fun i _ => i ≤ lc_dm m) (lc_dm m) () (Nat.zero_le _) ?_ ?_
    · intro k _ _
      refine br_c (fun _ => h) (fun _ => br_t ?_ h)
      rw [lc_shl (by omega)]
      have := lc_p2 (a := lc_dm m) (b := 10) (by omega)
      exact nI_le h1 (by omega)
    · intro k i _ hi _ ih
      refine br_f (nI_ge (by omega) (by omega)) (br_f ?_ (nm_r (nI_1 i) (ih () (by omega))))
      rw [lc_shl (by omega)]
      exact nI_ge (Nat.lt_of_not_le (lc_dm_2 hi)) (by omega)
  · intro k i s hi e ih
    subst e
    refine br_f (nI_ge hi (by omega)) (lc_xholds hn hc hi (lc_bb (fun p => ?_) (fun p => ?_)))
    · exact nm_r (nI_1 _) (nm_r (nI_1 i) (ih _ (by rw [lc_cnt_t p])))
    · exact nm_r (nI_1 i) (ih _ (by rw [lc_cnt_f p]))
theorem lc_xdual {post : Int32 → Prop} {n c w : Nat} {T : Nat → Prop} {B : Nat → Int32} (hn : n ≤ 10) (hc : c ≤ 1) (hw : w < 2 ^ n) (h : post (nI (lc_b (lc_dual n (lc_cd T c) w)))) : wpX_isInDual post (lc_X n T B) (nI c) (nI w) := by
  have hW := lc_W hn
  unfold wpX_isInDual
  refine loop_0 (fun k i (_ : Unit) => wX_isInDual_2 post (nI c) (nI w) (nI n) (nI (2 ^ n)) (lc_em T) B k (nI i)) (fun i _ => ∀ x, x < i → lc_cd T c x → ¬ lc_od x w) (2 ^ n) () (fun x hx => by omega) ?_ ?_
  · intro k _ e
    exact br_t (nI_le (Nat.le_refl _) (by omega)) (lc_p1 h e)
  · intro k i _ hi e ih
    refine br_f (nI_ge hi (by omega)) (lc_xholds hn hc hi (lc_bb (fun p => ?_) (fun p => ?_)))
    · rw [nx_and]
      have hl := lc_al (y := w) hi
      have hwt := lc_wt_le (i &&& w)
      refine lc_xw (by omega) (pk_eq (lc_wt (i &&& w) % 2) 1 (fun q => ?_) (fun q => ?_) lc_and1)
      · exact lc_p0 h (fun d => d i hi p q)
      · refine nm_r (nI_1 i) (ih () (fun x hx fx => ?_))
        by_cases z : x = i
        · subst z; exact q
        · exact e x (by omega) fx
    · refine nm_r (nI_1 i) (ih () (fun x hx fx => ?_))
      by_cases z : x = i
      · subst z; exact absurd fx p
      · exact e x (by omega) fx
def lc_apart (n : Nat) (f : Nat → Prop) (w : Nat) : Prop := ∀ x, 1 ≤ x → x < 2 ^ n → f x → ¬ x &&& w = 0
theorem lc_xapart {post : Int32 → Prop} {n c w : Nat} {T : Nat → Prop} {B : Nat → Int32} (hn : n ≤ 10) (hc : c ≤ 1) (hw : w < 2 ^ n) (h : post (nI (lc_b (lc_apart n (lc_cd T c) w)))) : wpX_tellsWordsApart post (lc_X n T B) (nI c) (nI w) := by
  have hW := lc_W hn
  unfold wpX_tellsWordsApart
  refine pk_loop (fun k i (_ : Unit) => wX_tellsWordsApart_2 post (nI c) (nI w) (nI n) (nI (2 ^ n)) (lc_em T) B k (nI i)) (fun i _ => 1 ≤ i ∧ ∀ x, 1 ≤ x → x < i → lc_cd T c x → ¬ x &&& w = 0) (2 ^ n) 1 () (Nat.two_pow_pos n) ⟨Nat.le_refl 1, fun x hx hy => by omega⟩ ?_ ?_
  · intro k _ e
    exact br_t (nI_le (Nat.le_refl _) (by omega)) (lc_p1 h e.2)
  · intro k i _ hi e0 ih
    obtain ⟨i1, e⟩ := e0
    refine br_f (nI_ge hi (by omega)) (lc_xholds hn hc hi (lc_bb (fun p => ?_) (fun p => ?_)))
    · have hl := lc_al (y := w) hi
      refine pk_eq (i &&& w) 0 (fun q => ?_) (fun q => ?_) (nx_and i w)
      · exact lc_p0 h (fun d => d i i1 hi p q)
      · refine nm_r (nI_1 i) (ih () ⟨by omega, fun x hx hx2 fx => ?_⟩)
        by_cases z : x = i
        · subst z; exact q
        · exact e x hx (by omega) fx
    · refine nm_r (nI_1 i) (ih () ⟨by omega, fun x hx hx2 fx => ?_⟩)
      by_cases z : x = i
      · subst z; exact absurd fx p
      · exact e x hx (by omega) fx
theorem lc_xldr {post : Int32 → Prop} {n c w : Nat} {T : Nat → Prop} {B : Nat → Int32} (hn : n ≤ 10) (hc : c ≤ 1) (hw : w < 2 ^ n) (h : post (nI (lc_b (lc_ldr (lc_cd T c) w)))) : wpX_isLeastOfCoset post (lc_X n T B) (nI c) (nI w) := by
  have hW := lc_W hn
  unfold wpX_isLeastOfCoset
  refine loop_0 (fun k i (_ : Unit) => wX_isLeastOfCoset_2 post (nI c) (nI w) (nI n) (nI (2 ^ n)) (lc_em T) B k (nI i)) (fun i _ => ∀ x, x < i → ¬ lc_cd T c (x ^^^ w)) w () (fun x hx => by omega) ?_ ?_
  · intro k _ e
    exact br_t (nI_le (Nat.le_refl _) (by omega)) (lc_p1 h e)
  · intro k i _ hi e ih
    refine br_f (nI_ge hi (by omega)) ?_
    rw [nx_xor]
    refine lc_xholds hn hc (lc_xl (by omega) hw) (lc_bb (fun p => ?_) (fun p => ?_))
    · exact lc_p0 h (fun d => d i hi p)
    · refine nm_r (nI_1 i) (ih () (fun x hx => ?_))
      by_cases z : x = i
      · subst z; exact p
      · exact e x (by omega)
/-- b is the nearest to w of the words below m -/
def lc_nr (f : Nat → Prop) (w m b : Nat) : Prop := b < m ∧ f b ∧ (∀ v, v < b → f v → lc_wt (b ^^^ w) < lc_wt (v ^^^ w)) ∧ ∀ v, v < m → f v → lc_wt (b ^^^ w) ≤ lc_wt (v ^^^ w)
theorem lc_nr_u {f : Nat → Prop} {w m b b' : Nat} (h : lc_nr f w m b) (h' : lc_nr f w m b') : b = b' := by
  obtain ⟨a1, a2, a3, a4⟩ := h
  obtain ⟨c1, c2, c3, c4⟩ := h'
  rcases Nat.lt_trichotomy b b' with q | q | q
  · have x := c3 b q a2
    have y := a4 b' c1 c2
    omega
  · exact q
  · have x := a3 b' q c2
    have y := c4 b a1 a2
    omega
theorem lc_nr_keep {f : Nat → Prop} {w m b : Nat} (h : lc_nr f w m b) (k : f m → lc_wt (b ^^^ w) ≤ lc_wt (m ^^^ w)) : lc_nr f w (m + 1) b := by
  obtain ⟨a1, a2, a3, a4⟩ := h
  refine ⟨by omega, a2, a3, fun v hv fv => ?_⟩
  by_cases q : v = m
  · subst q; exact k fv
  · exact a4 v (by omega) fv
theorem lc_nr_new {f : Nat → Prop} {w m b : Nat} (h : lc_nr f w m b) (fm : f m) (k : lc_wt (m ^^^ w) < lc_wt (b ^^^ w)) : lc_nr f w (m + 1) m := by
  obtain ⟨a1, a2, a3, a4⟩ := h
  refine ⟨by omega, fm, fun v hv fv => ?_, fun v hv fv => ?_⟩
  · have := a4 v hv fv
    omega
  · by_cases q : v = m
    · subst q; exact Nat.le_refl _
    · have := a4 v (by omega) fv
      omega
theorem lc_nr_1 {f : Nat → Prop} (h : f 0) (w : Nat) : lc_nr f w 1 0 := by
  refine ⟨by omega, h, fun v hv => by omega, fun v hv _ => ?_⟩
  have e : v = 0 := by omega
  subst e
  exact Nat.le_refl _
theorem lc_nr_D {n : Nat} {f : Nat → Prop} {w b : Nat} (h : lc_nr f w (2 ^ n) b) : lc_isD n f w (lc_wt (b ^^^ w)) := ⟨⟨b, h.1, h.2.1, rfl⟩, h.2.2.2⟩
theorem lc_xnear {post : Int32 → Prop} {n c w : Nat} {T : Nat → Prop} {B : Nat → Int32} (hn : n ≤ 10) (hc : c ≤ 1) (hw : w < 2 ^ n) (h0 : lc_cd T c 0) (h : ∀ b, lc_nr (lc_cd T c) w (2 ^ n) b → post (nI b)) : wpX_nearestWord post (lc_X n T B) (nI c) (nI w) := by
  have hW := lc_W hn
  unfold wpX_nearestWord
  refine lc_xw (by omega) ?_
  have q := pk_loop (fun k i b => wX_nearestWord_11 post (nI c) (nI w) (nI n) (nI (2 ^ n)) (lc_em T) B k (nI b) (nI (lc_wt (b ^^^ w))) (nI i)) (fun i b => lc_nr (lc_cd T c) w i b) (2 ^ n) 1 0 (Nat.two_pow_pos n) (lc_nr_1 h0 w) ?_ ?_
  · rw [Nat.zero_xor] at q
    exact q
  · intro k b e
    exact br_t (nI_le (Nat.le_refl _) (by omega)) (h b e)
  · intro k i b hi e ih
    refine br_f (nI_ge hi (by omega)) (lc_xholds hn hc hi (lc_bb (fun p => ?_) (fun p => ?_)))
    · rw [nx_xor]
      have hl := lc_xl hi hw
      have w1 := lc_wt_le (i ^^^ w)
      have w2 := lc_wt_le (b ^^^ w)
      refine lc_xw (by omega) (pk_le (lc_wt (b ^^^ w)) (lc_wt (i ^^^ w)) (fun q => ?_) (fun q => ?_))
      · exact nm_r (nI_1 i) (ih b (lc_nr_keep e (fun _ => q)))
      · exact nm_r (nI_1 i) (ih i (lc_nr_new e p q))
    · exact nm_r (nI_1 i) (ih b (lc_nr_keep e (fun z => absurd z p)))
theorem lc_xdist {post : Int32 → Prop} {n c w : Nat} {T : Nat → Prop} {B : Nat → Int32} (hn : n ≤ 10) (hc : c ≤ 1) (hw : w < 2 ^ n) (h0 : lc_cd T c 0) (h : post (nI (lc_ds n (lc_cd T c) w))) : wpX_distanceFromCode post (lc_X n T B) (nI c) (nI w) := by
  have hW := lc_W hn
  unfold wpX_distanceFromCode
  refine lc_xnear hn hc hw h0 (fun b hb => ?_)
  have hl := lc_xl hb.1 hw
  rw [nx_xor]
  refine lc_xw (by omega) ?_
  rw [← lc_ds_u (lc_nr_D hb)]
  exact h
theorem lc_xexch {post : Int32 → Prop} {n x i j : Nat} (hn : n ≤ 10) (hx : x < 2 ^ n) (hi : i < n) (hj : j < n) (h : post (nI (lc_sw i j x))) : wpX_withExchangedBits post (nI x) (nI i) (nI j) := by
  have hW := lc_W hn
  unfold wpX_withExchangedBits wpX_bitAt
  rw [lc_bit (by omega) (by omega), lc_bit (by omega) (by omega), lc_shl (by omega), lc_shl (by omega), nx_xor, nx_xor]
  unfold lc_sw at h
  have b1 := lc_b_le (x.testBit i = true)
  have b2 := lc_b_le (x.testBit j = true)
  refine pk_eq (lc_b (x.testBit i = true)) (lc_b (x.testBit j = true)) (fun q => ?_) (fun q => ?_)
  · rw [if_pos] at h
    · exact h
    · revert q
      cases x.testBit i <;> cases x.testBit j
      · intro _; rfl
      · rw [lc_b_f (by decide), lc_b_t rfl]; omega
      · rw [lc_b_f (P := false = true) (by decide), lc_b_t rfl]; omega
      · intro _; rfl
  · rw [if_neg] at h
    · exact h
    · intro z
      rw [z] at q
      exact q rfl

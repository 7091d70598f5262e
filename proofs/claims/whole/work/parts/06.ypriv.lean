def lc_isL (n : Nat) (f : Nat → Prop) (L : Nat → Int32) : Prop := ∀ x, x < 2 ^ n → f x → L (lc_cnt f x) = nI x
theorem lc_ytake {post : SY → Prop} {n c : Nat} {T : Nat → Prop} {ct : Int32} {M L S D : Nat → Int32} (hn : n ≤ 10) (hc : c ≤ 1)
    (h : ∀ L', lc_isL n (lc_cd T c) L' → post (lc_Y n T (nI (lc_cnt (lc_cd T c) (2 ^ n))) M L' S D)) : wpY_take post (lc_Y n T ct M L S D) (nI c) := by
  have hW := lc_W hn
  unfold wpY_take
  refine loop_0 (σ := Int32 × (Nat → Int32)) (fun k i s => wY_take_7 post (nI c) (nI n) (nI (2 ^ n)) k (nI i) s.1 (lc_em T) M s.2 S D) (fun i s => s.1 = nI (lc_cnt (lc_cd T c) i) ∧ ∀ x, x < i → lc_cd T c x → s.2 (lc_cnt (lc_cd T c) x) = nI x) (2 ^ n) (0, L) ⟨rfl, fun x hx => by omega⟩ ?_ ?_
  · intro k s e
    obtain ⟨a, b⟩ := s
    obtain ⟨e1, e2⟩ := e
    dsimp only at e1 e2
    subst e1
    exact br_t (nI_le (Nat.le_refl _) (by omega)) (h b e2)
  · intro k i s hi e ih
    obtain ⟨a, b⟩ := s
    obtain ⟨e1, e2⟩ := e
    dsimp only at e1 e2
    subst e1
    have hcn := lc_cnt_le (lc_cd T c) i
    refine br_f (nI_ge hi (by omega)) ⟨by rw [lc_ix']; exact vp_in_nI (by omega) (by omega), ?_⟩
    refine lc_bbv (P := lc_cd T c i) (by rw [lc_ix', nI_clamp (by omega)]; rfl) (fun p => ?_) (fun p => ?_)
    · refine ⟨vp_in_nI (by omega) (by omega), ?_⟩
      refine nm_r (e' := upd b (lc_cnt (lc_cd T c) i) (nI i)) (by rw [nI_clamp (by omega)]) (nm_r (nI_1 _) (nm_r (nI_1 i) (ih (nI (lc_cnt (lc_cd T c) i + 1), upd b (lc_cnt (lc_cd T c) i) (nI i)) ⟨?_, fun x hx fx => ?_⟩)))
      · dsimp only
        rw [lc_cnt_t p]
      · dsimp only
        by_cases z : x = i
        · subst z
          rw [pk_us]
        · have := lc_cnt_lt (f := lc_cd T c) (x := x) (m := i) (by omega) fx
          rw [pk_un (by omega)]
          exact e2 x (by omega) fx
    · refine nm_r (nI_1 i) (ih (nI (lc_cnt (lc_cd T c) i), b) ⟨?_, fun x hx fx => ?_⟩)
      · dsimp only
        rw [lc_cnt_f p]
      · dsimp only
        by_cases z : x = i
        · subst z
          exact absurd fx p
        · exact e2 x (by omega) fx
theorem lc_ybegin {post : SY → Prop} {n : Nat} {T : Nat → Prop} {ct : Int32} {M L S D : Nat → Int32} (hn : n ≤ 10) (h : ∀ M', (∀ v, v < 2 ^ n → M' v = nI 0) → post (lc_Y n T ct M' L S D)) : wpY_begin post (lc_Y n T ct M L S D) := by
  have hW := lc_W hn
  unfold wpY_begin
  refine loop_0 (fun k i s => wY_begin_2 post (nI n) (nI (2 ^ n)) ct k (nI i) (lc_em T) s L S D) (fun i s => ∀ v, v < i → s v = nI 0) (2 ^ n) M (fun v hv => by omega) ?_ ?_
  · intro k s e
    exact br_t (nI_le (Nat.le_refl _) (by omega)) (h s e)
  · intro k i s hi e ih
    refine br_f (nI_ge hi (by omega)) ⟨vp_in_nI (by omega) (by omega), ?_⟩
    refine nm_r (e' := upd s i (nI 0)) ?_ (nm_r (nI_1 i) (ih _ ?_))
    · rw [nI_clamp (by omega), lc_nar0]
    · intro v hv
      by_cases q : v = i
      · rw [q, pk_us]
      · rw [pk_un q]
        exact e v (by omega)
theorem lc_ydim {post : Int32 → SY → Prop} {n c : Nat} {T : Nat → Prop} {ct : Int32} {M L S D : Nat → Int32} (hn : n ≤ 10) (hc : c ≤ 1)
    (h : ∀ ct' L', post (nI (lc_dm (lc_cnt (lc_cd T c) (2 ^ n)))) (lc_Y n T ct' M L' S D)) : wpY_dimension post (lc_Y n T ct M L S D) (nI c) := by
  have hW := lc_W hn
  unfold wpY_dimension
  refine lc_yc hc (br_t rfl (lc_ytake hn hc (fun L' _ => ?_)))
  have hm := lc_cnt_le (lc_cd T c) (2 ^ n)
  have h' := h (nI (lc_cnt (lc_cd T c) (2 ^ n))) L'
  revert h' hm
  generalize lc_cnt (lc_cd T c) (2 ^ n) = m
  intro hm h'
  have hd := lc_dm_le hm
  have h1 := lc_dm_1 m
  refine loop_0 (fun k i (_ : Unit) => wY_dimension_17 post (nI n) (nI (2 ^ n)) (nI m) (lc_em T) M L' S D k (nI i)) (fun i _ => i ≤ lc_dm m) (lc_dm m) () (Nat.zero_le _) ?_ ?_
  · intro k _ _
    refine br_t ?_ h'
    rw [lc_shl (by omega)]
    have := lc_p2 (a := lc_dm m) (b := 10) (by omega)
    exact nI_le h1 (by omega)
  · intro k i _ hi _ ih
    refine br_f ?_ (nm_r (nI_1 i) (ih () (by omega)))
    rw [lc_shl (by omega)]
    exact nI_ge (Nat.lt_of_not_le (lc_dm_2 hi)) (by omega)
theorem lc_ykeep {post : Int32 → SY → Prop} {n c : Nat} {T : Nat → Prop} {ct : Int32} {M L S D : Nat → Int32} (g : Nat → Prop) (hn : n ≤ 10) (hc : c ≤ 1) (hM : ∀ v, v < 2 ^ n → M v = nI (lc_b (g v)))
    (h : ∀ ct' L', post (nI (lc_dm (lc_cnt (lc_cd (lc_put T c g (2 ^ n)) c) (2 ^ n)))) (lc_Y n (lc_put T c g (2 ^ n)) ct' M L' S D)) : wpY_keep post (lc_Y n T ct M L S D) (nI c) := by
  have hW := lc_W hn
  unfold wpY_keep
  refine loop_0 (fun k i s => wY_keep_2 post (nI c) (nI n) (nI (2 ^ n)) ct k (nI i) s M L S D) (fun i s => s = lc_em (lc_put T c g i)) (2 ^ n) (lc_em T) (by rw [lc_put_0]) ?_ ?_
  · intro k s e
    subst e
    exact br_t (nI_le (Nat.le_refl _) (by omega)) (lc_ydim hn hc (fun ct' L' => h ct' L'))
  · intro k i s hi e ih
    subst e
    refine br_f (nI_ge hi (by omega)) ⟨vp_in_nI (by omega) (by omega), by rw [lc_ix']; exact vp_in_nI (by omega) (by omega), ?_⟩
    refine nm_r (e' := lc_em (lc_put T c g (i + 1))) ?_ (nm_r (nI_1 i) (ih _ rfl))
    rw [lc_ix', nI_clamp (by omega), nI_clamp (by omega), hM i hi, lc_nar, lc_put_s]
theorem lc_cb {n : Nat} {f : Nat → Prop} (hn : n ≤ 10) {x : Nat} (hx : x < 2 ^ n) (fx : f x) : lc_cnt f x < lc_cnt f (2 ^ n) ∧ lc_cnt f (2 ^ n) ≤ 1024 := by
  have hW := lc_W hn
  have := lc_cnt_le f (2 ^ n)
  exact ⟨lc_cnt_lt hx fx, by omega⟩
theorem lc_cW {n : Nat} (f : Nat → Prop) (hn : n ≤ 10) : lc_cnt f (2 ^ n) ≤ 1024 := Nat.le_trans (lc_cnt_le f _) (lc_W hn)
theorem lc_ydual {post : Int32 → Prop} {n w : Nat} {T f : Nat → Prop} {M L S D : Nat → Int32} (hn : n ≤ 10) (hw : w < 2 ^ n) (hL : lc_isL n f L) (h : post (nI (lc_b (lc_dual n f w)))) : wpY_isDual post (lc_Y n T (nI (lc_cnt f (2 ^ n))) M L S D) (nI w) := by
  have hW := lc_W hn
  have hC := lc_cW f hn
  unfold wpY_isDual
  refine lc_yl (fun k i (_ : Unit) => wY_isDual_2 post (nI w) (nI n) (nI (2 ^ n)) (nI (lc_cnt f (2 ^ n))) (lc_em T) M L S D k (nI i)) (fun i _ => ∀ x, x < i → f x → ¬ lc_od x w) f (2 ^ n) 0 0 () rfl (Nat.zero_le _) (fun x hx => by omega) ?_ ?_ ?_
  · intro k _ e
    exact br_t (nI_le (Nat.le_refl _) (by omega)) (lc_p1 h e)
  · intro i _ hi p e x hx fx
    by_cases z : x = i
    · subst z; exact absurd fx p
    · exact e x (by omega) fx
  · intro k i _ hi p e ih
    have hcb := lc_cb hn hi p
    refine br_f (nI_ge hcb.1 (by omega)) ⟨vp_in_nI (by omega) (by omega), ?_⟩
    rw [nI_clamp (by omega), hL i hi p, nx_and]
    have hwt := lc_wt_le (w &&& i)
    refine lc_yw hn (lc_al hw) ⟨by decide, pk_eq (lc_wt (w &&& i) % 2) 1 (fun q => ?_) (fun q => ?_) (lc_mod2 (by omega))⟩
    · refine lc_p0 h (fun d => d i hi p ?_)
      rw [lc_od_comm]
      exact q
    · refine nm_r (nI_1 _) (ih () (fun x hx fx => ?_))
      by_cases z : x = i
      · subst z
        rw [lc_od_comm]
        exact q
      · exact e x (by omega) fx
theorem lc_yinf {post : Int32 → Prop} {n w : Nat} {T f : Nat → Prop} {M L S D : Nat → Int32} (hn : n ≤ 10) (hw : w < 2 ^ n) (f0 : f 0) (hL : lc_isL n f L) (h : post (nI (lc_b (lc_cnt f (2 ^ n) = 2 ^ lc_wt w ∧ lc_apart n f w)))) : wpY_informs post (lc_Y n T (nI (lc_cnt f (2 ^ n))) M L S D) (nI w) := by
  have hW := lc_W hn
  have hC := lc_cW f hn
  have hwt := lc_wt_le w
  have hp := lc_p2 hwt
  unfold wpY_informs
  refine lc_yw hn hw (pk_eq (lc_cnt f (2 ^ n)) (2 ^ lc_wt w) (fun q => ?_) (fun q => ?_) rfl (lc_shl (by omega)))
  · refine lc_yl (fun k i (_ : Unit) => wY_informs_18 post (nI w) (nI n) (nI (2 ^ n)) (nI (lc_cnt f (2 ^ n))) (lc_em T) M L S D k (nI i)) (fun i _ => 1 ≤ i ∧ ∀ x, 1 ≤ x → x < i → f x → ¬ x &&& w = 0) f (2 ^ n) 1 1 () (lc_cnt_t (m := 0) f0) (Nat.two_pow_pos n) ⟨Nat.le_refl 1, fun x hx hy => by omega⟩ ?_ ?_ ?_
    · intro k _ e
      exact br_t (nI_le (Nat.le_refl _) (by omega)) (lc_p1 h ⟨q, e.2⟩)
    · intro i _ hi p e
      refine ⟨by omega, fun x hx hx2 fx => ?_⟩
      by_cases z : x = i
      · subst z; exact absurd fx p
      · exact e.2 x hx (by omega) fx
    · intro k i _ hi p e ih
      have hcb := lc_cb hn hi p
      refine br_f (nI_ge hcb.1 (by omega)) ⟨vp_in_nI (by omega) (by omega), ?_⟩
      have hl := lc_al (y := w) hi
      refine pk_eq (i &&& w) 0 (fun q2 => ?_) (fun q2 => ?_) (by rw [nI_clamp (by omega), hL i hi p, nx_and])
      · exact lc_p0 h (fun d => d.2 i e.1 hi p q2)
      · refine nm_r (nI_1 _) (ih () ⟨by omega, fun x hx hx2 fx => ?_⟩)
        by_cases z : x = i
        · subst z; exact q2
        · exact e.2 x hx (by omega) fx
  · exact lc_p0 h (fun d => q d.1)
theorem lc_yinner {post : SY → Prop} {J : Int32 → (Nat → Int32) → (Nat → Int32) → (Nat → Int32) → (Nat → Int32) → (Nat → Int32) → Prop} {n x : Nat} {T f P : Nat → Prop} {M L S D : Nat → Int32} (hn : n ≤ 10) (hx : x < 2 ^ n) (f0 : f 0) (hL : lc_isL n f L)
    (hS : ∀ y, y < 2 ^ n → S y = nI (lc_b (P y)))
    (h : ∀ S' d, d ≤ 10 → lc_isD n f x d → (∀ y, y < 2 ^ n → S' y = nI (lc_b (P y ∨ f (x ^^^ y)))) → J (nI (x + 1)) (lc_em T) M L S' (upd D d (D d + 1))) :
    ∃ k, wY_findLeaders_68 post J (nI x) (nI n) (nI (2 ^ n)) (nI (lc_cnt f (2 ^ n))) k 11 0 (lc_em T) M L S D := by
  have hW := lc_W hn
  have hC := lc_cW f hn
  refine lc_yl (σ := Nat × (Nat → Int32)) (fun k i s => wY_findLeaders_68 post J (nI x) (nI n) (nI (2 ^ n)) (nI (lc_cnt f (2 ^ n))) k (nI s.1) (nI i) (lc_em T) M L s.2 D)
    (fun v s => s.1 ≤ 11 ∧ (∀ u, u < v → f u → s.1 ≤ lc_wt (u ^^^ x)) ∧ (s.1 = 11 ∨ ∃ u, u < v ∧ f u ∧ lc_wt (u ^^^ x) = s.1) ∧ ∀ y, y < 2 ^ n → s.2 y = nI (lc_b (P y ∨ ∃ u, u < v ∧ f u ∧ y = x ^^^ u))) f (2 ^ n) 0 0 (11, S) rfl (Nat.zero_le _) ?_ ?_ ?_ ?_
  · refine ⟨Nat.le_refl 11, fun u hu => by omega, Or.inl rfl, fun y hy => ?_⟩
    dsimp only
    rw [hS y hy]
    refine congrArg nI (lc_b_c ⟨Or.inl, ?_⟩)
    rintro (k | ⟨u, hu, _⟩)
    · exact k
    · omega
  · intro k s e
    obtain ⟨d, S'⟩ := s
    obtain ⟨e1, e2, e3, e4⟩ := e
    dsimp only at e1 e2 e3 e4 ⊢
    have q0 := e2 0 (Nat.two_pow_pos n) f0
    have q1 := lc_wt_le (0 ^^^ x)
    have hd : d ≤ 10 := by omega
    refine br_t (nI_le (Nat.le_refl _) (by omega)) ⟨vp_in_nI (by omega) (by omega), vp_in_nI (by omega) (by omega), ?_⟩
    refine nm_r (e' := upd D d (D d + 1)) (by rw [nI_clamp (by omega)]) (nm_r (nI_1 x) (h S' d hd ⟨e3.resolve_left (by omega), e2⟩ (fun y hy => ?_)))
    rw [e4 y hy]
    refine congrArg nI (lc_b_c (or_congr Iff.rfl ⟨?_, fun fy => ?_⟩))
    · rintro ⟨u, hu, fu, rfl⟩
      rw [← Nat.xor_assoc, Nat.xor_self, Nat.zero_xor]
      exact fu
    · refine ⟨x ^^^ y, lc_xl hx hy, fy, ?_⟩
      rw [← Nat.xor_assoc, Nat.xor_self, Nat.zero_xor]
  · intro v s hv p e
    obtain ⟨e1, e2, e3, e4⟩ := e
    refine ⟨e1, fun u hu fu => ?_, ?_, fun y hy => ?_⟩
    · by_cases z : u = v
      · subst z; exact absurd fu p
      · exact e2 u (by omega) fu
    · rcases e3 with q | ⟨u, hu, q⟩
      · exact Or.inl q
      · exact Or.inr ⟨u, by omega, q⟩
    · rw [e4 y hy]
      refine congrArg nI (lc_b_c (or_congr Iff.rfl ⟨?_, ?_⟩))
      · rintro ⟨u, hu, q⟩
        exact ⟨u, by omega, q⟩
      · rintro ⟨u, hu, fu, q⟩
        refine ⟨u, ?_, fu, q⟩
        by_cases z : u = v
        · subst z; exact absurd fu p
        · omega
  · intro k v s hv p e ih
    obtain ⟨d, S'⟩ := s
    obtain ⟨e1, e2, e3, e4⟩ := e
    dsimp only at e1 e2 e3 e4 ⊢
    have hcb := lc_cb hn hv p
    have hl := lc_xl hx hv
    have hwt := lc_wt_le (x ^^^ v)
    have hS' : ∀ y, y < 2 ^ n → upd S' (x ^^^ v) (nI 1) y = nI (lc_b (P y ∨ ∃ u, u < v + 1 ∧ f u ∧ y = x ^^^ u)) := by
      intro y hy
      by_cases z : y = x ^^^ v
      · subst z
        rw [pk_us, lc_b_t (Or.inr ⟨v, by omega, p, rfl⟩)]
      · rw [pk_un z, e4 y hy]
        refine congrArg nI (lc_b_c (or_congr Iff.rfl ⟨?_, ?_⟩))
        · rintro ⟨u, hu, q⟩
          exact ⟨u, by omega, q⟩
        · rintro ⟨u, hu, fu, q⟩
          refine ⟨u, ?_, fu, q⟩
          by_cases z2 : u = v
          · subst z2; exact absurd q z
          · omega
    refine br_f (nI_ge hcb.1 (by omega)) ⟨vp_in_nI (by omega) (by omega), ?_⟩
    refine nm_r (e' := nI (x ^^^ v)) (by rw [nI_clamp (by omega), hL v hv p, nx_xor]) ?_
    refine lc_yw hn hl ⟨vp_in_nI (by omega) (by omega), ?_⟩
    refine nm_r (e' := upd S' (x ^^^ v) (nI 1)) (by rw [nI_clamp (by omega), lc_nar1]) ?_
    refine pk_le d (lc_wt (x ^^^ v)) (fun q => ?_) (fun q => ?_)
    · refine nm_r (nI_1 _) (ih (d, upd S' (x ^^^ v) (nI 1)) ⟨e1, fun u hu fu => ?_, ?_, hS'⟩)
      · by_cases z : u = v
        · subst z
          dsimp only
          rw [Nat.xor_comm u x]
          exact q
        · exact e2 u (by omega) fu
      · rcases e3 with q | ⟨u, hu, q⟩
        · exact Or.inl q
        · exact Or.inr ⟨u, by omega, q⟩
    · refine nm_r (nI_1 _) (ih (lc_wt (x ^^^ v), upd S' (x ^^^ v) (nI 1)) ⟨by dsimp only; omega, fun u hu fu => ?_, Or.inr ⟨v, by omega, p, by rw [Nat.xor_comm]⟩, hS'⟩)
      dsimp only
      by_cases z : u = v
      · subst z
        rw [Nat.xor_comm]
        exact Nat.le_refl _
      · have := e2 u (by omega) fu
        omega
theorem lc_yfind {post : SY → Prop} {n : Nat} {T f : Nat → Prop} {M L S D : Nat → Int32} (hn : n ≤ 10) (hf : lc_LC n f) (hL : lc_isL n f L)
    (h : ∀ S' D', (∀ d, d ≤ 10 → D' d = nI (lc_cnt (fun v => lc_ldr f v ∧ lc_ds n f v = d) (2 ^ n))) → post (lc_Y n T (nI (lc_cnt f (2 ^ n))) M L S' D')) :
    wpY_findLeaders post (lc_Y n T (nI (lc_cnt f (2 ^ n))) M L S D) := by
  have hW := lc_W hn
  have hC := lc_cW f hn
  unfold wpY_findLeaders
  refine loop_0 (fun k i s => wY_findLeaders_2 post (nI n) (nI (2 ^ n)) (nI (lc_cnt f (2 ^ n))) k (nI i) (lc_em T) M L S s) (fun i s => ∀ d, d < i → s d = nI 0) 11 D (fun d hd => by omega) ?_ ?_
  · intro k D1 hD1
    refine br_t (nI_lt (a := 10) (by omega) (by omega)) ?_
    refine loop_0 (fun k i s => wY_findLeaders_23 post (nI n) (nI (2 ^ n)) (nI (lc_cnt f (2 ^ n))) k (nI i) (lc_em T) M L s D1) (fun i s => ∀ y, y < i → s y = nI 0) (2 ^ n) S (fun d hd => by omega) ?_ ?_
    · intro k S1 hS1
      refine br_t (nI_le (Nat.le_refl _) (by omega)) ?_
      refine loop_0 (σ := (Nat → Int32) × (Nat → Int32)) (fun k i s => wY_findLeaders_46 post (nI n) (nI (2 ^ n)) (nI (lc_cnt f (2 ^ n))) k (nI i) (lc_em T) M L s.1 s.2)
        (fun x s => (∀ y, y < 2 ^ n → s.1 y = nI (lc_b (∃ z, z < x ∧ lc_ldr f z ∧ f (z ^^^ y)))) ∧ ∀ d, d ≤ 10 → s.2 d = nI (lc_cnt (fun v => lc_ldr f v ∧ lc_ds n f v = d) x)) (2 ^ n) (S1, D1) ⟨fun y hy => ?_, fun d hd => ?_⟩ ?_ ?_
      · dsimp only
        rw [hS1 y hy, lc_b_f]
        rintro ⟨z, hz, _⟩
        omega
      · exact hD1 d (by omega)
      · intro k s e
        exact br_t (nI_le (Nat.le_refl _) (by omega)) (h s.1 s.2 e.2)
      · intro k x s hx e ih
        obtain ⟨S2, D2⟩ := s
        obtain ⟨e1, e2⟩ := e
        dsimp only at e1 e2 ⊢
        refine br_f (nI_ge hx (by omega)) ⟨vp_in_nI (by omega) (by omega), ?_⟩
        refine lc_bbv (P := ∃ z, z < x ∧ lc_ldr f z ∧ f (z ^^^ x)) (by rw [nI_clamp (by omega)]; exact e1 x hx) (fun p => ?_) (fun p => ?_)
        · have nl : ¬ lc_ldr f x := by
            obtain ⟨z, hz, _, fz⟩ := p
            exact fun l => l z hz fz
          refine nm_r (nI_1 x) (ih (S2, D2) ⟨fun y hy => ?_, fun d hd => ?_⟩)
          · dsimp only
            rw [e1 y hy]
            refine congrArg nI (lc_b_c ⟨?_, ?_⟩)
            · rintro ⟨z, hz, q⟩
              exact ⟨z, by omega, q⟩
            · rintro ⟨z, hz, lz, q⟩
              refine ⟨z, ?_, lz, q⟩
              by_cases zz : z = x
              · subst zz; exact absurd lz nl
              · omega
          · dsimp only
            rw [e2 d hd, lc_cnt_f (fun q => nl q.1)]
        · have l : lc_ldr f x := by
            by_cases l : lc_ldr f x
            · exact l
            · exact absurd (lc_ldr_ex hf hx l) p
          refine lc_yinner hn hx hf.1 hL e1 (fun S' d hd hD hS' => ih (S', upd D2 d (D2 d + 1)) ⟨fun y hy => ?_, fun d' hd' => ?_⟩)
          · dsimp only
            rw [hS' y hy]
            refine congrArg nI (lc_b_c ⟨?_, ?_⟩)
            · rintro (⟨z, hz, q⟩ | q)
              · exact ⟨z, by omega, q⟩
              · exact ⟨x, by omega, l, q⟩
            · rintro ⟨z, hz, lz, q⟩
              by_cases zz : z = x
              · subst zz; exact Or.inr q
              · exact Or.inl ⟨z, by omega, lz, q⟩
          · dsimp only
            have ed := lc_ds_u hD
            by_cases zz : d' = d
            · subst zz
              rw [pk_us, e2 d' hd', lc_cnt_t ⟨l, ed⟩, nI_1]
            · rw [pk_un zz, e2 d' hd', lc_cnt_f (fun q => zz (q.2.symm.trans ed))]
    · intro k i s hi e ih
      refine br_f (nI_ge hi (by omega)) ⟨vp_in_nI (by omega) (by omega), ?_⟩
      refine nm_r (e' := upd s i (nI 0)) ?_ (nm_r (nI_1 i) (ih _ ?_))
      · rw [nI_clamp (by omega), lc_nar0]
      · intro v hv
        by_cases q : v = i
        · rw [q, pk_us]
        · rw [pk_un q]
          exact e v (by omega)
  · intro k i s hi e ih
    refine br_f ?_ ⟨vp_in_nI (by omega) (by omega), ?_⟩
    · exact nI_nlt (a := 10) (b := i) (by omega) (by omega)
    refine nm_r (e' := upd s i (nI 0)) ?_ (nm_r (nI_1 i) (ih _ ?_))
    · rw [nI_clamp (by omega)]
      rfl
    · intro v hv
      by_cases q : v = i
      · rw [q, pk_us]
      · rw [pk_un q]
        exact e v (by omega)

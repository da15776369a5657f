/-! deliver -/
theorem cn_blk_x {D : pd_D} {st dl av cw wk : pd_F} {blocks ar tp b : Nat} (hb32 : blocks ≤ 32) (B : cn_blk D st dl av cw wk blocks ar tp 99) (e : av b = -1) : cn_blk D st dl av cw wk blocks ar tp b := by
  obtain ⟨B1, B2, B3, B4, B5, ⟨T1, T2, T3, T4⟩, B7, B8⟩ := B
  refine ⟨fun c hc _ => B1 c hc (by omega), B2, B3, B4, B5, ⟨T1, fun z => ?_, T3, T4⟩, B7, B8⟩
  rw [z, e] at T3; exact pd_m1 T3
theorem cn_dlv {D : pd_D} {st dl av cw wk : pd_F} {blocks ar tp b : Nat} (hb32 : blocks ≤ 32) (B : cn_blk D st dl av cw wk blocks ar tp 99) (hb : b < blocks) (e : dl b = 0) : cn_blk D (upd st b 1) (upd dl b 1) av cw wk blocks ar tp 99 := by
  obtain ⟨B1, B2, B3, B4, B5, B6, B7, B8⟩ := B
  refine ⟨fun c hc hx => ?_, B2, B3, fun c h1 h2 => ?_, B5, B6, B7, B8⟩
  · by_cases q : c = b
    · subst q
      rcases B1 c hc hx with h | ⟨h, _⟩ | ⟨h, _⟩
      · exact Or.inr (Or.inl ⟨pk_us, h.2.1, pk_us⟩)
      · rw [e] at h; exact absurd h (by decide)
      · rw [e] at h; exact absurd h (by decide)
    · unfold cn_one
      rw [pk_un q, pk_un q]
      exact B1 c hc hx
  · rw [pk_un (by omega), pk_un (by omega)]
    exact B4 c h1 h2
/-- no block below b waits for nothing -/
def cn_rdb (D : pd_D) (dl av : pd_F) (b : Nat) : Prop := ∀ c, 0 < c → c < b → dl c = 1 → av c = -1 → av (pd_pa D c).toNatClampNeg < 0
theorem cn_rdb_arr {D : pd_D} {made blocks b ar : Nat} {dl av : pd_F} (w : pd_wf D made blocks) (har : ar < 2 ^ 31) (hb : b < blocks) (h : cn_rdb D dl av b) : cn_rdb D dl (upd av b (nI ar)) (b + 1) := by
  have hbk := w.2.1
  intro c c0 hc e1 e2
  by_cases q : c = b
  · subst q
    rw [pk_us] at e2
    have := nI_pos' har
    rw [e2] at this
    exact (pd_m1 this).elim
  · rw [pk_un q] at e2
    obtain ⟨_, _, _, hp⟩ := w.2.2.2.2.2 c (by omega)
    obtain ⟨p, p1, p2, _⟩ := hp c0
    have hpc := pd_cl p2 (by omega)
    have := h c c0 (by omega) e1 e2
    rw [hpc] at this ⊢
    rw [pk_un (by omega)]
    exact this
section
variable {g_made g_blocks g_arrivals g_tip g_pooled g_chainLength : Int32} {b_op b_arg b_length b_ins b_inCoin b_inA b_inB b_outs b_amount b_lock b_parent b_work b_rewardLock b_height b_many b_holds b_delivered b_arrived b_pool b_chain b_from b_worth b_within b_spent b_stack b_again b_chosen gfe grw : Nat → Int32}
theorem ym_scanN {made blocks : Nat} {x1 : Int32} (w : pd_wf (b_length, b_op, b_arg, b_ins, b_inCoin, b_inA, b_inB, b_outs, b_amount, b_lock, b_parent, b_height, b_rewardLock, b_many, b_holds, gfe, grw) made blocks) (eb : g_blocks = nI blocks) (h01 : ∀ c, c < blocks → (b_delivered c = 0 ∨ b_delivered c = 1) ∧ (b_arrived c = -1 ∨ 0 ≤ b_arrived c)) {post : Int32 → SY → Prop} {J : Int32 → Int32 → Int32 → Int32 → Int32 → Int32 → Int32 → Int32 → (Nat → Int32) → (Nat → Int32) → (Nat → Int32) → (Nat → Int32) → (Nat → Int32) → (Nat → Int32) → (Nat → Int32) → (Nat → Int32) → (Nat → Int32) → (Nat → Int32) → (Nat → Int32) → (Nat → Int32) → (Nat → Int32) → (Nat → Int32) → (Nat → Int32) → (Nat → Int32) → (Nat → Int32) → (Nat → Int32) → (Nat → Int32) → (Nat → Int32) → (Nat → Int32) → (Nat → Int32) → (Nat → Int32) → (Nat → Int32) → (Nat → Int32) → (Nat → Int32) → (Nat → Int32) → Prop} (HJ : J x1 0 g_made g_blocks g_arrivals g_tip g_pooled g_chainLength b_op b_arg b_length b_ins b_inCoin b_inA b_inB b_outs b_amount b_lock b_parent b_work b_rewardLock b_height b_many b_holds b_delivered b_arrived b_pool b_chain b_from b_worth b_within b_spent b_stack b_again b_chosen) :
    ∀ (d i fuel : Nat), i + d = blocks → 1 ≤ i → d < fuel → (∀ c, i ≤ c → c < blocks → b_delivered c = 1 → b_arrived c = -1 → b_arrived (b_parent c).toNatClampNeg < 0) → wY_arrive_12 post J fuel x1 0 (nI i) g_made g_blocks g_arrivals g_tip g_pooled g_chainLength b_op b_arg b_length b_ins b_inCoin b_inA b_inB b_outs b_amount b_lock b_parent b_work b_rewardLock b_height b_many b_holds b_delivered b_arrived b_pool b_chain b_from b_worth b_within b_spent b_stack b_again b_chosen := by
  have hbk := w.2.1
  subst eb
  intro d
  induction d with
  | zero =>
    intro i fuel hi h1 hf hno
    obtain ⟨fuel, rfl⟩ : ∃ q, fuel = q + 1 := ⟨fuel - 1, by omega⟩
    exact br_t (nI_le (by omega) (by omega)) HJ
  | succ d ih =>
    intro i fuel hi h1 hf hno
    obtain ⟨fuel, rfl⟩ : ∃ q, fuel = q + 1 := ⟨fuel - 1, by omega⟩
    have nx := ih (i + 1) fuel (by omega) (by omega) (by omega) (fun c hc => hno c (by omega))
    obtain ⟨_, _, _, hp⟩ := w.2.2.2.2.2 i (by omega)
    obtain ⟨p, p1, p2, _⟩ := hp (by omega)
    have p2' : b_parent i = nI p := p2
    have eic : (nI i).toNatClampNeg = i := pk_cl i
    have epc : b_parent (nI i).toNatClampNeg = nI p := by rw [eic]; exact p2'
    refine pk_le blocks i (fun z => by omega) (fun z => br_t rfl ⟨pk_in i 32 (by omega), ?_⟩)
    rw [eic]
    refine br_c (fun z1 => nm_r (nI_1 i) nx) (fun z1 => ⟨pk_in i 32 (by omega), br_c (fun z2 => nm_r (nI_1 i) nx) (fun z2 => ⟨pk_in i 33 (by omega), pk_in p 32 (by omega) p2', ?_⟩)⟩)
    have hno' := hno i (Nat.le_refl _) (by omega) ((h01 i (by omega)).1.resolve_left z1) ((h01 i (by omega)).2.resolve_right z2)
    exact br_f (Int32.not_le.mpr hno') (nm_r (nI_1 i) nx)
theorem ym_scanF {made blocks b ar : Nat} {x1 : Int32} (w : pd_wf (b_length, b_op, b_arg, b_ins, b_inCoin, b_inA, b_inB, b_outs, b_amount, b_lock, b_parent, b_height, b_rewardLock, b_many, b_holds, gfe, grw) made blocks) (eb : g_blocks = nI blocks) (ea : g_arrivals = nI ar) (hb : b < blocks) (hb0 : 0 < b) (h01 : ∀ c, c < blocks → (b_delivered c = 0 ∨ b_delivered c = 1) ∧ (b_arrived c = -1 ∨ 0 ≤ b_arrived c)) (r1 : b_delivered b = 1) (r2 : b_arrived b = -1) (r3 : 0 ≤ b_arrived (b_parent b).toNatClampNeg) {post : Int32 → SY → Prop} {J : Int32 → Int32 → Int32 → Int32 → Int32 → Int32 → Int32 → Int32 → (Nat → Int32) → (Nat → Int32) → (Nat → Int32) → (Nat → Int32) → (Nat → Int32) → (Nat → Int32) → (Nat → Int32) → (Nat → Int32) → (Nat → Int32) → (Nat → Int32) → (Nat → Int32) → (Nat → Int32) → (Nat → Int32) → (Nat → Int32) → (Nat → Int32) → (Nat → Int32) → (Nat → Int32) → (Nat → Int32) → (Nat → Int32) → (Nat → Int32) → (Nat → Int32) → (Nat → Int32) → (Nat → Int32) → (Nat → Int32) → (Nat → Int32) → (Nat → Int32) → (Nat → Int32) → Prop} {Q : SY → Prop}
    (HF : ∀ post' : SY → Prop, (∀ u, Q u → post' u) → wpY_findTip post' (g_made, g_blocks, nI (ar + 1), g_tip, g_pooled, g_chainLength, b_op, b_arg, b_length, b_ins, b_inCoin, b_inA, b_inB, b_outs, b_amount, b_lock, b_parent, b_work, b_rewardLock, b_height, b_many, b_holds, b_delivered, upd b_arrived b (nI ar), b_pool, b_chain, b_from, b_worth, b_within, b_spent, b_stack, b_again, b_chosen)) (HJ : ∀ u, Q u → (match u with | (g_madeq, g_blocksq, g_arrivalsq, g_tipq, g_pooledq, g_chainLengthq, b_opq, b_argq, b_lengthq, b_insq, b_inCoinq, b_inAq, b_inBq, b_outsq, b_amountq, b_lockq, b_parentq, b_workq, b_rewardLockq, b_heightq, b_manyq, b_holdsq, b_deliveredq, b_arrivedq, b_poolq, b_chainq, b_fromq, b_worthq, b_withinq, b_spentq, b_stackq, b_againq, b_chosenq) => J (x1 + 1) 1 g_madeq g_blocksq g_arrivalsq g_tipq g_pooledq g_chainLengthq b_opq b_argq b_lengthq b_insq b_inCoinq b_inAq b_inBq b_outsq b_amountq b_lockq b_parentq b_workq b_rewardLockq b_heightq b_manyq b_holdsq b_deliveredq b_arrivedq b_poolq b_chainq b_fromq b_worthq b_withinq b_spentq b_stackq b_againq b_chosenq)) :
    ∀ (d i fuel : Nat), i + d = b → 1 ≤ i → d + 1 < fuel → (∀ c, i ≤ c → c < b → b_delivered c = 1 → b_arrived c = -1 → b_arrived (b_parent c).toNatClampNeg < 0) → wY_arrive_12 post J fuel x1 0 (nI i) g_made g_blocks g_arrivals g_tip g_pooled g_chainLength b_op b_arg b_length b_ins b_inCoin b_inA b_inB b_outs b_amount b_lock b_parent b_work b_rewardLock b_height b_many b_holds b_delivered b_arrived b_pool b_chain b_from b_worth b_within b_spent b_stack b_again b_chosen := by
  have hbk := w.2.1
  subst eb ea
  intro d
  induction d with
  | zero =>
    intro i fuel hi h1 hf hno
    obtain ⟨fuel, rfl⟩ : ∃ q, fuel = q + 2 := ⟨fuel - 2, by omega⟩
    obtain rfl : i = b := by omega
    have eic : (nI i).toNatClampNeg = i := pk_cl i
    obtain ⟨_, _, _, hp⟩ := w.2.2.2.2.2 i (by omega)
    obtain ⟨p, p1, p2, _⟩ := hp (by omega)
    have p2' : b_parent i = nI p := p2
    refine pk_le blocks i (fun z => by omega) (fun z => br_t rfl ⟨pk_in i 32 (by omega), ?_⟩)
    rw [eic]
    refine br_f (by rw [r1]; decide) ⟨pk_in i 32 (by omega), br_f (by rw [r2]; exact pd_m1) ⟨pk_in i 33 (by omega), pk_in p 32 (by omega) p2', br_t r3 ⟨pk_in i 32 (by omega), nm_e (nm_r (nI_1 ar) (HF _ fun u hu => ?_))⟩⟩⟩
    obtain ⟨g_madeq, g_blocksq, g_arrivalsq, g_tipq, g_pooledq, g_chainLengthq, b_opq, b_argq, b_lengthq, b_insq, b_inCoinq, b_inAq, b_inBq, b_outsq, b_amountq, b_lockq, b_parentq, b_workq, b_rewardLockq, b_heightq, b_manyq, b_holdsq, b_deliveredq, b_arrivedq, b_poolq, b_chainq, b_fromq, b_worthq, b_withinq, b_spentq, b_stackq, b_againq, b_chosenq⟩ := u
    exact nm_e (nm_e (br_c (fun _ => HJ _ hu) (fun _ => br_f (by decide) (HJ _ hu))))
  | succ d ih =>
    intro i fuel hi h1 hf hno
    obtain ⟨fuel, rfl⟩ : ∃ q, fuel = q + 1 := ⟨fuel - 1, by omega⟩
    have nx := ih (i + 1) fuel (by omega) (by omega) (by omega) (fun c hc => hno c (by omega))
    obtain ⟨_, _, _, hp⟩ := w.2.2.2.2.2 i (by omega)
    obtain ⟨p, p1, p2, _⟩ := hp (by omega)
    have p2' : b_parent i = nI p := p2
    have eic : (nI i).toNatClampNeg = i := pk_cl i
    refine pk_le blocks i (fun z => by omega) (fun z => br_t rfl ⟨pk_in i 32 (by omega), ?_⟩)
    rw [eic]
    refine br_c (fun z1 => nm_r (nI_1 i) nx) (fun z1 => ⟨pk_in i 32 (by omega), br_c (fun z2 => nm_r (nI_1 i) nx) (fun z2 => ⟨pk_in i 33 (by omega), pk_in p 32 (by omega) p2', ?_⟩)⟩)
    have hno' := hno i (Nat.le_refl _) (by omega) ((h01 i (by omega)).1.resolve_left z1) ((h01 i (by omega)).2.resolve_right z2)
    exact br_f (Int32.not_le.mpr hno') (nm_r (nI_1 i) nx)
end
theorem cn_h01 {D : pd_D} {st dl av cw wk : pd_F} {blocks ar tp : Nat} (hb32 : blocks ≤ 32) (B : cn_blk D st dl av cw wk blocks ar tp 99) : ∀ c, c < blocks → (dl c = 0 ∨ dl c = 1) ∧ (av c = -1 ∨ 0 ≤ av c) := by
  have har : ar ≤ 32 := by rw [B.2.2.1]; exact pd_cnt_le _ _
  intro c hc
  rcases B.1 c hc (by omega) with ⟨h1, h2, _⟩ | ⟨h1, h2, _⟩ | ⟨h1, ⟨a, a1, a2⟩, _⟩
  · exact ⟨Or.inl h1, Or.inl h2⟩
  · exact ⟨Or.inr h1, Or.inl h2⟩
  · exact ⟨Or.inr h1, Or.inr (by rw [a2]; exact nI_pos' (by omega))⟩

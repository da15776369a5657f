/-! how the relation outlives a change of what is not made yet -/
theorem pd_used_ag {D E : pd_D} {made blocks s : Nat} (a : pd_ag D E made blocks) : pd_used E made blocks s ↔ pd_used D made blocks s := by
  unfold pd_used
  refine or_congr (exists_congr fun b => and_congr_right fun hb => ?_) (exists_congr fun t => exists_congr fun o => and_congr_right fun ht => ?_)
  · rw [(a.2.1 b hb).2.1]
  · obtain ⟨_, e2, _, _, e5⟩ := a.1 t ht
    rw [e2]
    refine and_congr_right fun ho => ?_
    rw [(e5 o ho).2]
theorem cn_one_ag {D E : pd_D} {made blocks ar b : Nat} {st dl av : pd_F} (w : pd_wf D made blocks) (a : pd_ag D E made blocks) (hb : b < blocks) (h : cn_one D st dl av ar b) : cn_one E st dl av ar b := by
  rcases h with h | h | ⟨h1, h2, h3, h4⟩
  · exact Or.inl h
  · exact Or.inr (Or.inl h)
  · refine Or.inr (Or.inr ⟨h1, h2, fun h0 => ?_, ?_⟩)
    · rw [(a.2.1 b hb).2.2.2.2.1 h0]; exact h3 h0
    · rw [pd_ag_va w a hb]; exact h4
theorem cn_blk_ag {D E : pd_D} {made blocks ar tp x : Nat} {st dl av cw wk : pd_F} (w : pd_wf D made blocks) (a : pd_ag D E made blocks) (B : cn_blk D st dl av cw wk blocks ar tp x) : cn_blk E st dl av cw wk blocks ar tp x := by
  obtain ⟨B1, B2, B3, B4, B5, ⟨T1, T2, T3, T4⟩, B7, B8⟩ := B
  exact ⟨fun b hb hx => cn_one_ag w a hb (B1 b hb hx), B2, B3, B4, cn_wrk_ag a B5, ⟨T1, T2, T3, (pd_ag_va w a T1).mpr T4⟩, fun b hb hT b0 vb => B7 b hb hT b0 ((pd_ag_va w a hb).mp vb), B8⟩
theorem cn_rdy_ag {D E : pd_D} {made blocks : Nat} {dl av : pd_F} (a : pd_ag D E made blocks) (h : cn_rdy D dl av blocks) : cn_rdy E dl av blocks := by
  intro b h0 hb e1 e2
  rw [(a.2.1 b hb).2.2.2.2.1 h0]
  exact h b h0 hb e1 e2
theorem pd_pool_ag {D E : pd_D} {made blocks np : Nat} {S : pd_S} {pl : pd_F} (a : pd_ag D E made blocks) (P : pd_pool D S made pl np) : pd_pool E S made pl np := by
  refine ⟨P.1, fun k hk => ?_⟩
  obtain ⟨t, h1, h2, h3, h4, h5⟩ := P.2 k hk
  obtain ⟨e1, _, _, e4, _⟩ := a.1 t h1
  refine ⟨t, h1, h2, h3, fun i hi => ?_, h5⟩
  rw [e1] at hi
  rw [(e4 i hi).1]
  exact h4 i hi
theorem pd_pool_mono {D : pd_D} {made made' np : Nat} {S : pd_S} {pl : pd_F} (h : made ≤ made') (P : pd_pool D S made pl np) : pd_pool D S made' pl np := by
  refine ⟨P.1, fun k hk => ?_⟩
  obtain ⟨t, h1, h2⟩ := P.2 k hk
  exact ⟨t, by omega, h2⟩
theorem cn_used_ag {D E : pd_D} {made blocks : Nat} {use : pd_F} (a : pd_ag D E made blocks) (h : cn_used D use made blocks) : cn_used E use made blocks := by
  intro s hs
  rw [pd_used_ag a]
  exact h s hs
section
variable {f_stackSize f_transactions f_putCount f_blocks f_tip f_poolCount f_queueCount : Int32} {a_tokenCount a_tokenOp a_tokenValue a_scriptInUse a_stack a_inputCount a_inputCoin a_inputA a_inputB a_outputCount a_outputAmount a_outputScript a_feeOf a_putRow a_parentOf a_heightOf a_chainWork a_blockState a_rewardAmount a_rewardScript a_blockSize a_blockTransaction a_laidBlock a_coinHeight a_coinSpent a_transactionHeight a_poolRow a_marked a_queue : Nat → Int32}
variable {g_made g_blocks g_arrivals g_tip g_pooled g_chainLength : Int32} {b_op b_arg b_length b_ins b_inCoin b_inA b_inB b_outs b_amount b_lock b_parent b_work b_rewardLock b_height b_many b_holds b_delivered b_arrived b_pool b_chain b_from b_worth b_within b_spent b_stack b_again b_chosen gfe grw : Nat → Int32}
/-- the relation anew: D is the old data, the made and the blocks are as before -/
theorem rl_mk {D : pd_D} {k made blocks tp n np pc ar : Nat} (w : pd_wf D made blocks) (a : pd_ag D (a_tokenCount, a_tokenOp, a_tokenValue, a_inputCount, a_inputCoin, a_inputA, a_inputB, a_outputCount, a_outputAmount, a_outputScript, a_parentOf, a_heightOf, a_rewardScript, a_blockSize, a_blockTransaction, a_feeOf, a_rewardAmount) made blocks)
    (tk : fx_tok a_tokenCount a_tokenOp a_tokenValue) (aE : pd_ag (a_tokenCount, a_tokenOp, a_tokenValue, a_inputCount, a_inputCoin, a_inputA, a_inputB, a_outputCount, a_outputAmount, a_outputScript, a_parentOf, a_heightOf, a_rewardScript, a_blockSize, a_blockTransaction, a_feeOf, a_rewardAmount) (a_tokenCount, a_tokenOp, a_tokenValue, b_ins, b_inCoin, b_inA, b_inB, b_outs, b_amount, b_lock, b_parent, b_height, b_rewardLock, b_many, b_holds, a_feeOf, a_rewardAmount) made blocks) (fq : pd_feq D made) (rq : pd_req D blocks) (hp0 : b_parent 0 = -1) (us : cn_used D a_scriptInUse made blocks)
    (df : cn_drf (a_tokenCount, a_tokenOp, a_tokenValue, a_inputCount, a_inputCoin, a_inputA, a_inputB, a_outputCount, a_outputAmount, a_outputScript, a_parentOf, a_heightOf, a_rewardScript, a_blockSize, a_blockTransaction, a_feeOf, a_rewardAmount) (a_tokenCount, a_tokenOp, a_tokenValue, b_ins, b_inCoin, b_inA, b_inB, b_outs, b_amount, b_lock, b_parent, b_height, b_rewardLock, b_many, b_holds, a_feeOf, a_rewardAmount) made blocks) (pu : cn_put (a_tokenCount, a_tokenOp, a_tokenValue, a_inputCount, a_inputCoin, a_inputA, a_inputB, a_outputCount, a_outputAmount, a_outputScript, a_parentOf, a_heightOf, a_rewardScript, a_blockSize, a_blockTransaction, a_feeOf, a_rewardAmount) (a_tokenCount, a_tokenOp, a_tokenValue, b_ins, b_inCoin, b_inA, b_inB, b_outs, b_amount, b_lock, b_parent, b_height, b_rewardLock, b_many, b_holds, a_feeOf, a_rewardAmount) a_putRow made pc) (fr : cn_fre (a_tokenCount, a_tokenOp, a_tokenValue, a_inputCount, a_inputCoin, a_inputA, a_inputB, a_outputCount, a_outputAmount, a_outputScript, a_parentOf, a_heightOf, a_rewardScript, a_blockSize, a_blockTransaction, a_feeOf, a_rewardAmount) blocks)
    (B : cn_blk D a_blockState b_delivered b_arrived a_chainWork b_work blocks ar tp 99) (RD : cn_rdy D b_delivered b_arrived blocks) (eh : pd_he D tp = nI n) (hn : n < 32) (hl : ∀ h, h ≤ n → a_laidBlock h = nI (pd_anc D tp (n - h))) (P : pd_pool D (pd_lay D n tp) made a_poolRow np) (hS : pd_out (b_from, b_spent, b_within)) :
    i_Rel k (f_stackSize, nI made, nI pc, nI blocks, nI tp, nI np, f_queueCount, a_tokenCount, a_tokenOp, a_tokenValue, a_scriptInUse, a_stack, a_inputCount, a_inputCoin, a_inputA, a_inputB, a_outputCount, a_outputAmount, a_outputScript, a_feeOf, a_putRow, a_parentOf, a_heightOf, a_chainWork, a_blockState, a_rewardAmount, a_rewardScript, a_blockSize, a_blockTransaction, a_laidBlock, (pd_lay D n tp).1, (pd_lay D n tp).2.1, (pd_lay D n tp).2.2, a_poolRow, a_marked, a_queue) (nI made, nI blocks, nI ar, nI tp, nI np, g_chainLength, a_tokenOp, a_tokenValue, a_tokenCount, b_ins, b_inCoin, b_inA, b_inB, b_outs, b_amount, b_lock, b_parent, b_work, b_rewardLock, b_height, b_many, b_holds, b_delivered, b_arrived, a_poolRow, b_chain, b_from, b_worth, b_within, b_spent, b_stack, b_again, b_chosen) := by
  have htp := B.2.2.2.2.2.1.1
  have el := pd_ag_lay w a n tp htp eh hn
  refine ⟨made, blocks, tp, n, np, pc, ar, ⟨rfl, rfl, rfl, rfl, rfl⟩, ⟨rfl, rfl, rfl, rfl, rfl⟩, ⟨rfl, rfl, rfl, rfl⟩, ⟨by rw [el], by rw [el], by rw [el]⟩, ⟨tk, pd_wf_ag w a, aE, pd_feq_ag w a fq, pd_req_ag w a rq, hp0, cn_used_ag a us, df, pu, fr⟩, cn_blk_ag w a B, cn_rdy_ag a RD, ⟨((a.2.1 tp htp).1).trans eh, hn⟩, fun h hh => ?_, ?_, hS⟩
  · rw [hl h hh, (pd_ag_anc w a htp eh hn (n - h) (by omega)).1]
  · rw [el]; exact pd_pool_ag a P
end
/-! ### Y: is a script in use -/
section
variable {g_made g_blocks g_arrivals g_tip g_pooled g_chainLength : Int32} {b_op b_arg b_length b_ins b_inCoin b_inA b_inB b_outs b_amount b_lock b_parent b_work b_rewardLock b_height b_many b_holds b_delivered b_arrived b_pool b_chain b_from b_worth b_within b_spent b_stack b_again b_chosen gfe grw : Nat → Int32}
theorem yq_used {made blocks : Nat} (w : pd_wf (b_length, b_op, b_arg, b_ins, b_inCoin, b_inA, b_inB, b_outs, b_amount, b_lock, b_parent, b_height, b_rewardLock, b_many, b_holds, gfe, grw) made blocks) (em : g_made = nI made) (eb : g_blocks = nI blocks) {s : Nat} (hs : s < 8) {post : Int32 → Prop} (H1 : pd_used (b_length, b_op, b_arg, b_ins, b_inCoin, b_inA, b_inB, b_outs, b_amount, b_lock, b_parent, b_height, b_rewardLock, b_many, b_holds, gfe, grw) made blocks s → post 1) (H0 : ¬ pd_used (b_length, b_op, b_arg, b_ins, b_inCoin, b_inA, b_inB, b_outs, b_amount, b_lock, b_parent, b_height, b_rewardLock, b_many, b_holds, gfe, grw) made blocks s → post 0) : wpY_isUsed post (g_made, g_blocks, g_arrivals, g_tip, g_pooled, g_chainLength, b_op, b_arg, b_length, b_ins, b_inCoin, b_inA, b_inB, b_outs, b_amount, b_lock, b_parent, b_work, b_rewardLock, b_height, b_many, b_holds, b_delivered, b_arrived, b_pool, b_chain, b_from, b_worth, b_within, b_spent, b_stack, b_again, b_chosen) (nI s) := by
  have hm := w.2.2.1
  have hbk := w.2.1
  subst em eb
  have L42 : ∀ (J : Int32 → Prop) (t m : Nat), t < made → b_outs t = nI m → m ≤ 3 → ((∀ o, o < m → b_lock (3 * t + o) ≠ nI s) → J (nI (t + 1))) → ∀ (d i fuel : Nat), i + d = m → d < fuel → (∀ o, o < i → b_lock (3 * t + o) ≠ nI s) → wY_isUsed_42 post J (nI s) (nI t) (nI made) (nI blocks) g_arrivals g_tip g_pooled g_chainLength b_op b_arg b_length b_ins b_inCoin b_inA b_inB b_outs b_amount b_lock b_parent b_work b_rewardLock b_height b_many b_holds b_delivered b_arrived b_pool b_chain b_from b_worth b_within b_spent b_stack b_again b_chosen fuel (nI (3 * t + i)) := by
    intro J t m ht em hm3 HJ d
    have e3 : 3 * nI t + b_outs (nI t).toNatClampNeg = nI (3 * t + m) := by rw [pk_cl t, em]; exact yb_3 t m
    have emc : (b_outs t).toNatClampNeg = m := pd_cl em (by omega)
    induction d with
    | zero =>
      intro i fuel hi hf hno
      obtain ⟨fuel, rfl⟩ : ∃ q, fuel = q + 1 := ⟨fuel - 1, by omega⟩
      obtain rfl : i = m := by omega
      exact ⟨pk_in t 41 (by omega), br_t (by rw [e3]; exact nI_le (Nat.le_refl _) (by omega)) (nm_r (nI_1 t) (HJ hno))⟩
    | succ d ih =>
      intro i fuel hi hf hno
      obtain ⟨fuel, rfl⟩ : ∃ q, fuel = q + 1 := ⟨fuel - 1, by omega⟩
      refine ⟨pk_in t 41 (by omega), pk_le (3 * t + m) (3 * t + i) (fun z => by omega) (fun z => ⟨pk_in (3 * t + i) 123 (by omega), ?_⟩) e3⟩
      rw [pk_cl (x := nI (3 * t + i)) (3 * t + i)]
      refine br_c (fun q => H1 (Or.inr ⟨t, i, ht, by show i < (b_outs t).toNatClampNeg; omega, q⟩)) (fun q => nm_r (nI_1 (3 * t + i)) (ih (i + 1) fuel (by omega) (by omega) fun o ho => ?_))
      by_cases e : o = i
      · rw [e]; exact q
      · exact hno o (by omega)
  have L30 : ∀ (d t fuel : Nat), t + d = made → d < fuel → (¬ ∃ b, b < blocks ∧ b_rewardLock b = nI s) → (∀ t', t' < t → ∀ o, o < (b_outs t').toNatClampNeg → b_lock (3 * t' + o) ≠ nI s) → wY_isUsed_30 post (nI s) (nI made) (nI blocks) g_arrivals g_tip g_pooled g_chainLength b_op b_arg b_length b_ins b_inCoin b_inA b_inB b_outs b_amount b_lock b_parent b_work b_rewardLock b_height b_many b_holds b_delivered b_arrived b_pool b_chain b_from b_worth b_within b_spent b_stack b_again b_chosen fuel (nI t) := by
    intro d
    induction d with
    | zero =>
      intro t fuel ht hf hb hno
      obtain ⟨fuel, rfl⟩ : ∃ q, fuel = q + 1 := ⟨fuel - 1, by omega⟩
      obtain rfl : t = made := by omega
      refine br_t (nI_le (Nat.le_refl _) (by omega)) (H0 fun q => ?_)
      rcases q with q | ⟨t', o, h1, h2, h3⟩
      · exact hb q
      · exact hno t' h1 o h2 h3
    | succ d ih =>
      intro t fuel ht hf hb hno
      obtain ⟨fuel, rfl⟩ : ∃ q, fuel = q + 1 := ⟨fuel - 1, by omega⟩
      obtain ⟨_, m, _, _, _, hm3, _, em, _⟩ := w.2.2.2.2.1 t (by omega)
      have em' : b_outs t = nI m := em
      have emc : (b_outs t).toNatClampNeg = m := pd_cl em' (by omega)
      refine pk_le made t (fun z => by omega) (fun z => nm_r (yb_30 t) ⟨m + 1, L42 _ t m (by omega) em' hm3 (fun q => ih (t + 1) fuel (by omega) (by omega) hb fun t' ht' o ho => ?_) m 0 (m + 1) (by omega) (by omega) (fun o ho => by omega)⟩)
      by_cases e : t' = t
      · subst e; exact q o (by omega)
      · exact hno t' (by omega) o ho
  have L2 : ∀ (d b fuel : Nat), b + d = blocks → d < fuel → (∀ b', b' < b → b_rewardLock b' ≠ nI s) → wY_isUsed_2 post (nI s) (nI made) (nI blocks) g_arrivals g_tip g_pooled g_chainLength b_op b_arg b_length b_ins b_inCoin b_inA b_inB b_outs b_amount b_lock b_parent b_work b_rewardLock b_height b_many b_holds b_delivered b_arrived b_pool b_chain b_from b_worth b_within b_spent b_stack b_again b_chosen fuel (nI b) := by
    intro d
    induction d with
    | zero =>
      intro b fuel hb hf hno
      obtain ⟨fuel, rfl⟩ : ∃ q, fuel = q + 1 := ⟨fuel - 1, by omega⟩
      obtain rfl : b = blocks := by omega
      exact br_t (nI_le (Nat.le_refl _) (by omega)) ⟨made + 1, L30 made 0 (made + 1) (by omega) (by omega) (fun ⟨b', h1, h2⟩ => hno b' h1 h2) (fun t' h => by omega)⟩
    | succ d ih =>
      intro b fuel hb hf hno
      obtain ⟨fuel, rfl⟩ : ∃ q, fuel = q + 1 := ⟨fuel - 1, by omega⟩
      refine pk_le blocks b (fun z => by omega) (fun z => ⟨pk_in b 33 (by omega), ?_⟩)
      rw [pk_cl b]
      refine br_c (fun q => H1 (Or.inl ⟨b, by omega, q⟩)) (fun q => nm_r (nI_1 b) (ih (b + 1) fuel (by omega) (by omega) fun b' hb' => ?_))
      by_cases e : b' = b
      · rw [e]; exact q
      · exact hno b' (by omega)
  exact ⟨blocks + 1, L2 blocks 0 (blocks + 1) (by omega) (by omega) (fun b' h => by omega)⟩
end

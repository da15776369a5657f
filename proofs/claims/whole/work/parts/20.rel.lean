/-! the relation -/
def cn_used (D : pd_D) (use : pd_F) (made blocks : Nat) : Prop := ∀ s, s < 8 → (use s = 0 ∧ ¬ pd_used D made blocks s) ∨ (use s = 1 ∧ pd_used D made blocks s)
def cn_drf (D E : pd_D) (made blocks : Nat) : Prop := ∃ di od, di ≤ 3 ∧ od ≤ 3 ∧ pd_ic D made = nI di ∧ pd_ic E 40 = nI di ∧ pd_oc D made = nI od ∧ pd_oc E 40 = nI od
    ∧ (∀ i, i < di → pd_co D (3 * made + i) = pd_co E (120 + i) ∧ pd_ia D (3 * made + i) = pd_ia E (120 + i) ∧ pd_ib D (3 * made + i) = pd_ib E (120 + i) ∧ ∃ c, c < 152 ∧ pd_co D (3 * made + i) = nI c ∧ pd_coin D made blocks c)
    ∧ (∀ i j, i < di → j < di → pd_co D (3 * made + i) = pd_co D (3 * made + j) → i = j)
    ∧ (∀ o, o < od → pd_oa D (3 * made + o) = pd_oa E (120 + o) ∧ pd_os D (3 * made + o) = pd_os E (120 + o) ∧ ∃ s, s < 8 ∧ pd_os D (3 * made + o) = nI s)
    ∧ (∀ t, made < t → t ≤ 40 → pd_ic D t = 0 ∧ pd_oc D t = 0)
def cn_put (D E : pd_D) (pr : pd_F) (made pc : Nat) : Prop := pc ≤ 4 ∧ pd_bs E 32 = nI pc ∧ ∀ i, i < pc → pr i = pd_bt E (128 + i) ∧ ∃ t, t < made ∧ pr i = nI t
def cn_fre (D : pd_D) (blocks : Nat) : Prop := ∀ b, blocks ≤ b → b < 32 → pd_bs D b = 0
def cn_rdy (D : pd_D) (dl av : pd_F) (blocks : Nat) : Prop := ∀ b, 0 < b → b < blocks → dl b = 1 → av b = -1 → av (pd_pa D b).toNatClampNeg < 0
/-- what does not speak of the tip, of states or of scratch -/
def cn_stat (D E : pd_D) (use pr : pd_F) (made blocks pc : Nat) : Prop := fx_tok (pd_tc D) (pd_op D) (pd_tv D) ∧ pd_wf D made blocks ∧ pd_ag D E made blocks ∧ pd_feq D made ∧ pd_req D blocks ∧ pd_pa E 0 = -1
    ∧ cn_used D use made blocks ∧ cn_drf D E made blocks ∧ cn_put D E pr made pc ∧ cn_fre D blocks
def i_Rel (k : Nat) (u : SX) (v : SY) : Prop := match u, v with
  | (f_stackSize, f_transactions, f_putCount, f_blocks, f_tip, f_poolCount, f_queueCount, a_tokenCount, a_tokenOp, a_tokenValue, a_scriptInUse, a_stack, a_inputCount, a_inputCoin, a_inputA, a_inputB, a_outputCount, a_outputAmount, a_outputScript, a_feeOf, a_putRow, a_parentOf, a_heightOf, a_chainWork, a_blockState, a_rewardAmount, a_rewardScript, a_blockSize, a_blockTransaction, a_laidBlock, a_coinHeight, a_coinSpent, a_transactionHeight, a_poolRow, a_marked, a_queue), (g_made, g_blocks, g_arrivals, g_tip, g_pooled, g_chainLength, b_op, b_arg, b_length, b_ins, b_inCoin, b_inA, b_inB, b_outs, b_amount, b_lock, b_parent, b_work, b_rewardLock, b_height, b_many, b_holds, b_delivered, b_arrived, b_pool, b_chain, b_from, b_worth, b_within, b_spent, b_stack, b_again, b_chosen) => ∃ made blocks tp n np pc ar : Nat,
    (f_transactions = nI made ∧ f_blocks = nI blocks ∧ f_tip = nI tp ∧ f_poolCount = nI np ∧ f_putCount = nI pc)
    ∧ (g_made = nI made ∧ g_blocks = nI blocks ∧ g_tip = nI tp ∧ g_pooled = nI np ∧ g_arrivals = nI ar)
    ∧ (a_tokenCount = b_length ∧ a_tokenOp = b_op ∧ a_tokenValue = b_arg ∧ a_poolRow = b_pool)
    ∧ (a_coinHeight = (pd_lay (a_tokenCount, a_tokenOp, a_tokenValue, a_inputCount, a_inputCoin, a_inputA, a_inputB, a_outputCount, a_outputAmount, a_outputScript, a_parentOf, a_heightOf, a_rewardScript, a_blockSize, a_blockTransaction, a_feeOf, a_rewardAmount) n tp).1 ∧ a_coinSpent = (pd_lay (a_tokenCount, a_tokenOp, a_tokenValue, a_inputCount, a_inputCoin, a_inputA, a_inputB, a_outputCount, a_outputAmount, a_outputScript, a_parentOf, a_heightOf, a_rewardScript, a_blockSize, a_blockTransaction, a_feeOf, a_rewardAmount) n tp).2.1 ∧ a_transactionHeight = (pd_lay (a_tokenCount, a_tokenOp, a_tokenValue, a_inputCount, a_inputCoin, a_inputA, a_inputB, a_outputCount, a_outputAmount, a_outputScript, a_parentOf, a_heightOf, a_rewardScript, a_blockSize, a_blockTransaction, a_feeOf, a_rewardAmount) n tp).2.2)
    ∧ cn_stat (a_tokenCount, a_tokenOp, a_tokenValue, a_inputCount, a_inputCoin, a_inputA, a_inputB, a_outputCount, a_outputAmount, a_outputScript, a_parentOf, a_heightOf, a_rewardScript, a_blockSize, a_blockTransaction, a_feeOf, a_rewardAmount) (a_tokenCount, a_tokenOp, a_tokenValue, b_ins, b_inCoin, b_inA, b_inB, b_outs, b_amount, b_lock, b_parent, b_height, b_rewardLock, b_many, b_holds, a_feeOf, a_rewardAmount) a_scriptInUse a_putRow made blocks pc
    ∧ cn_blk (a_tokenCount, a_tokenOp, a_tokenValue, a_inputCount, a_inputCoin, a_inputA, a_inputB, a_outputCount, a_outputAmount, a_outputScript, a_parentOf, a_heightOf, a_rewardScript, a_blockSize, a_blockTransaction, a_feeOf, a_rewardAmount) a_blockState b_delivered b_arrived a_chainWork b_work blocks ar tp 99
    ∧ cn_rdy (a_tokenCount, a_tokenOp, a_tokenValue, a_inputCount, a_inputCoin, a_inputA, a_inputB, a_outputCount, a_outputAmount, a_outputScript, a_parentOf, a_heightOf, a_rewardScript, a_blockSize, a_blockTransaction, a_feeOf, a_rewardAmount) b_delivered b_arrived blocks
    ∧ (a_heightOf tp = nI n ∧ n < 32) ∧ (∀ h, h ≤ n → a_laidBlock h = nI (pd_anc (a_tokenCount, a_tokenOp, a_tokenValue, a_inputCount, a_inputCoin, a_inputA, a_inputB, a_outputCount, a_outputAmount, a_outputScript, a_parentOf, a_heightOf, a_rewardScript, a_blockSize, a_blockTransaction, a_feeOf, a_rewardAmount) tp (n - h)))
    ∧ pd_pool (a_tokenCount, a_tokenOp, a_tokenValue, a_inputCount, a_inputCoin, a_inputA, a_inputB, a_outputCount, a_outputAmount, a_outputScript, a_parentOf, a_heightOf, a_rewardScript, a_blockSize, a_blockTransaction, a_feeOf, a_rewardAmount) (pd_lay (a_tokenCount, a_tokenOp, a_tokenValue, a_inputCount, a_inputCoin, a_inputA, a_inputB, a_outputCount, a_outputAmount, a_outputScript, a_parentOf, a_heightOf, a_rewardScript, a_blockSize, a_blockTransaction, a_feeOf, a_rewardAmount) n tp) made a_poolRow np ∧ pd_out (b_from, b_spent, b_within)
theorem i_up {k : Nat} {u : SX} {v : SY} (h : i_Rel k u v) : i_Rel (k + 4) u v := h
section
variable {f_stackSize f_transactions f_putCount f_blocks f_tip f_poolCount f_queueCount : Int32} {a_tokenCount a_tokenOp a_tokenValue a_scriptInUse a_stack a_inputCount a_inputCoin a_inputA a_inputB a_outputCount a_outputAmount a_outputScript a_feeOf a_putRow a_parentOf a_heightOf a_chainWork a_blockState a_rewardAmount a_rewardScript a_blockSize a_blockTransaction a_laidBlock a_coinHeight a_coinSpent a_transactionHeight a_poolRow a_marked a_queue : Nat → Int32}
variable {g_made g_blocks g_arrivals g_tip g_pooled g_chainLength : Int32} {b_op b_arg b_length b_ins b_inCoin b_inA b_inB b_outs b_amount b_lock b_parent b_work b_rewardLock b_height b_many b_holds b_delivered b_arrived b_pool b_chain b_from b_worth b_within b_spent b_stack b_again b_chosen gfe grw : Nat → Int32}
theorem rl_scr {k j : Nat} (I : i_Rel k (f_stackSize, f_transactions, f_putCount, f_blocks, f_tip, f_poolCount, f_queueCount, a_tokenCount, a_tokenOp, a_tokenValue, a_scriptInUse, a_stack, a_inputCount, a_inputCoin, a_inputA, a_inputB, a_outputCount, a_outputAmount, a_outputScript, a_feeOf, a_putRow, a_parentOf, a_heightOf, a_chainWork, a_blockState, a_rewardAmount, a_rewardScript, a_blockSize, a_blockTransaction, a_laidBlock, a_coinHeight, a_coinSpent, a_transactionHeight, a_poolRow, a_marked, a_queue) (g_made, g_blocks, g_arrivals, g_tip, g_pooled, g_chainLength, b_op, b_arg, b_length, b_ins, b_inCoin, b_inA, b_inB, b_outs, b_amount, b_lock, b_parent, b_work, b_rewardLock, b_height, b_many, b_holds, b_delivered, b_arrived, b_pool, b_chain, b_from, b_worth, b_within, b_spent, b_stack, b_again, b_chosen)) (S : pd_S) (hS : pd_out S) (wo ch st ag co : Nat → Int32) (cl : Int32) : i_Rel j (f_stackSize, f_transactions, f_putCount, f_blocks, f_tip, f_poolCount, f_queueCount, a_tokenCount, a_tokenOp, a_tokenValue, a_scriptInUse, a_stack, a_inputCount, a_inputCoin, a_inputA, a_inputB, a_outputCount, a_outputAmount, a_outputScript, a_feeOf, a_putRow, a_parentOf, a_heightOf, a_chainWork, a_blockState, a_rewardAmount, a_rewardScript, a_blockSize, a_blockTransaction, a_laidBlock, a_coinHeight, a_coinSpent, a_transactionHeight, a_poolRow, a_marked, a_queue) (g_made, g_blocks, g_arrivals, g_tip, g_pooled, cl, b_op, b_arg, b_length, b_ins, b_inCoin, b_inA, b_inB, b_outs, b_amount, b_lock, b_parent, b_work, b_rewardLock, b_height, b_many, b_holds, b_delivered, b_arrived, b_pool, ch, S.1, wo, S.2.2, S.2.1, st, ag, co) := by
  obtain ⟨made, blocks, tp, n, np, pc, ar, h1, h2, h3, h4, h5, h6, h7, h8, h9, h10, h11⟩ := I
  exact ⟨made, blocks, tp, n, np, pc, ar, h1, h2, h3, h4, h5, h6, h7, h8, h9, h10, hS⟩
theorem ry_tip {made blocks tp n : Nat} (w : pd_wf (a_tokenCount, a_tokenOp, a_tokenValue, a_inputCount, a_inputCoin, a_inputA, a_inputB, a_outputCount, a_outputAmount, a_outputScript, a_parentOf, a_heightOf, a_rewardScript, a_blockSize, a_blockTransaction, a_feeOf, a_rewardAmount) made blocks) (ag : pd_ag (a_tokenCount, a_tokenOp, a_tokenValue, a_inputCount, a_inputCoin, a_inputA, a_inputB, a_outputCount, a_outputAmount, a_outputScript, a_parentOf, a_heightOf, a_rewardScript, a_blockSize, a_blockTransaction, a_feeOf, a_rewardAmount) (b_length, b_op, b_arg, b_ins, b_inCoin, b_inA, b_inB, b_outs, b_amount, b_lock, b_parent, b_height, b_rewardLock, b_many, b_holds, gfe, grw) made blocks) (tkE : fx_tok b_length b_op b_arg) (fq : pd_feq (a_tokenCount, a_tokenOp, a_tokenValue, a_inputCount, a_inputCoin, a_inputA, a_inputB, a_outputCount, a_outputAmount, a_outputScript, a_parentOf, a_heightOf, a_rewardScript, a_blockSize, a_blockTransaction, a_feeOf, a_rewardAmount) made) (rq : pd_req (a_tokenCount, a_tokenOp, a_tokenValue, a_inputCount, a_inputCoin, a_inputA, a_inputB, a_outputCount, a_outputAmount, a_outputScript, a_parentOf, a_heightOf, a_rewardScript, a_blockSize, a_blockTransaction, a_feeOf, a_rewardAmount) blocks) (htp : tp < blocks) (eh : a_heightOf tp = nI n) (hn : n < 32) (vtp : pd_va (a_tokenCount, a_tokenOp, a_tokenValue, a_inputCount, a_inputCoin, a_inputA, a_inputB, a_outputCount, a_outputAmount, a_outputScript, a_parentOf, a_heightOf, a_rewardScript, a_blockSize, a_blockTransaction, a_feeOf, a_rewardAmount) tp) (S : pd_S) (hS : pd_out S) {post : Int32 → SY → Prop}
    (H : ∀ wo st ch, pd_wor (b_length, b_op, b_arg, b_ins, b_inCoin, b_inA, b_inB, b_outs, b_amount, b_lock, b_parent, b_height, b_rewardLock, b_many, b_holds, gfe, grw) (pd_lay (a_tokenCount, a_tokenOp, a_tokenValue, a_inputCount, a_inputCoin, a_inputA, a_inputB, a_outputCount, a_outputAmount, a_outputScript, a_parentOf, a_heightOf, a_rewardScript, a_blockSize, a_blockTransaction, a_feeOf, a_rewardAmount) n tp).1 wo → (∀ h, h ≤ n → ch h = nI (pd_anc (a_tokenCount, a_tokenOp, a_tokenValue, a_inputCount, a_inputCoin, a_inputA, a_inputB, a_outputCount, a_outputAmount, a_outputScript, a_parentOf, a_heightOf, a_rewardScript, a_blockSize, a_blockTransaction, a_feeOf, a_rewardAmount) tp (n - h))) → post 1 (g_made, g_blocks, g_arrivals, g_tip, g_pooled, nI (n + 1), b_op, b_arg, b_length, b_ins, b_inCoin, b_inA, b_inB, b_outs, b_amount, b_lock, b_parent, b_work, b_rewardLock, b_height, b_many, b_holds, b_delivered, b_arrived, b_pool, ch, (pd_lay (a_tokenCount, a_tokenOp, a_tokenValue, a_inputCount, a_inputCoin, a_inputA, a_inputB, a_outputCount, a_outputAmount, a_outputScript, a_parentOf, a_heightOf, a_rewardScript, a_blockSize, a_blockTransaction, a_feeOf, a_rewardAmount) n tp).1, wo, (pd_lay (a_tokenCount, a_tokenOp, a_tokenValue, a_inputCount, a_inputCoin, a_inputA, a_inputB, a_outputCount, a_outputAmount, a_outputScript, a_parentOf, a_heightOf, a_rewardScript, a_blockSize, a_blockTransaction, a_feeOf, a_rewardAmount) n tp).2.2, (pd_lay (a_tokenCount, a_tokenOp, a_tokenValue, a_inputCount, a_inputCoin, a_inputA, a_inputB, a_outputCount, a_outputAmount, a_outputScript, a_parentOf, a_heightOf, a_rewardScript, a_blockSize, a_blockTransaction, a_feeOf, a_rewardAmount) n tp).2.1, st, b_again, b_chosen)) :
    wpY_walk post (g_made, g_blocks, g_arrivals, g_tip, g_pooled, g_chainLength, b_op, b_arg, b_length, b_ins, b_inCoin, b_inA, b_inB, b_outs, b_amount, b_lock, b_parent, b_work, b_rewardLock, b_height, b_many, b_holds, b_delivered, b_arrived, b_pool, b_chain, S.1, b_worth, S.2.2, S.2.1, b_stack, b_again, b_chosen) (nI tp) := by
  have wE := pd_wf_ag w ag
  have ehE : b_height tp = nI n := ((ag.2.1 tp htp).1).trans eh
  refine ym_walk wE tkE (pd_feq_ag w ag fq) (pd_req_ag w ag rq) htp ehE hn S hS (fun _ wo st ch hw hc => ?_) (fun q => (q ((pd_ag_valid w ag n tp htp eh hn).mpr ((pd_va_n eh hn).mp vtp))).elim)
  rw [pd_ag_lay w ag n tp htp eh hn] at hw ⊢
  exact H wo st ch hw fun h hh => by rw [hc h hh, (pd_ag_anc w ag htp eh hn (n - h) (by omega)).1]
end
theorem rl_in {x : Int32} {n : Nat} (hn : n < 2 ^ 31) {post : Int32 → Prop} (H0 : (x < 0 ∨ nI n ≤ x) → post 0) (H1 : ∀ j, j < n → x = nI j → post 1) : ((x < 0 → (post 0)) ∧ (¬ x < 0 → (((nI n ≤ x → (post 0)) ∧ (¬ nI n ≤ x → (post 1)))))) := by
  rcases pk_ix x hn with h | h | ⟨j, hj, rfl⟩
  · exact br_t h (H0 (Or.inl h))
  · exact br_f (Int32.not_lt.mpr (Int32.le_trans (nI_pos' hn) h)) (br_t h (H0 (Or.inr h)))
  · exact br_f (nI_pos (by omega)) (br_f (nI_ge hj hn) (H1 j hj rfl))
/-! ### readers -/
theorem i_vc_pool {k : Nat} {u : SX} {v : SY} (I : i_Rel k u v) (hk : k + 4 ≤ 2048) (v1 : Int32) : wpX_pool (fun r => wpY_pool (fun r' => r' = r ∧ i_Rel (k + 4) u v) v v1) u v1 := by
  obtain ⟨f_stackSize, f_transactions, f_putCount, f_blocks, f_tip, f_poolCount, f_queueCount, a_tokenCount, a_tokenOp, a_tokenValue, a_scriptInUse, a_stack, a_inputCount, a_inputCoin, a_inputA, a_inputB, a_outputCount, a_outputAmount, a_outputScript, a_feeOf, a_putRow, a_parentOf, a_heightOf, a_chainWork, a_blockState, a_rewardAmount, a_rewardScript, a_blockSize, a_blockTransaction, a_laidBlock, a_coinHeight, a_coinSpent, a_transactionHeight, a_poolRow, a_marked, a_queue⟩ := u
  obtain ⟨g_made, g_blocks, g_arrivals, g_tip, g_pooled, g_chainLength, b_op, b_arg, b_length, b_ins, b_inCoin, b_inA, b_inB, b_outs, b_amount, b_lock, b_parent, b_work, b_rewardLock, b_height, b_many, b_holds, b_delivered, b_arrived, b_pool, b_chain, b_from, b_worth, b_within, b_spent, b_stack, b_again, b_chosen⟩ := v
  have I' := I
  obtain ⟨made, blocks, tp, n, np, pc, ar, ⟨rfl, rfl, rfl, rfl, rfl⟩, ⟨rfl, rfl, rfl, rfl, rfl⟩, ⟨rfl, rfl, rfl, rfl⟩, ⟨rfl, rfl, rfl⟩, ST, B, RD, ⟨eh, hn⟩, hl, P, hS⟩ := I
  have hnp := P.1
  rcases pk_ix v1 (n := np) (by omega) with h | h | ⟨j, hj, rfl⟩
  · exact br_t h (br_t h (br_t rfl ⟨rfl, I'⟩))
  · have h0 : ¬ v1 < 0 := Int32.not_lt.mpr (Int32.le_trans (nI_pos' (by omega)) h)
    exact br_f h0 (br_t h (br_f h0 (br_t h (br_t rfl ⟨rfl, I'⟩))))
  · have h0 : ¬ nI j < 0 := nI_pos (by omega)
    have h1 : ¬ nI np ≤ nI j := nI_ge hj (by omega)
    exact br_f h0 (br_f h1 ⟨pk_in j 12 (by omega), br_f h0 (br_f h1 (br_f (by decide) ⟨pk_in j 12 (by omega), rfl, I'⟩))⟩)
theorem i_vc_at {k : Nat} {u : SX} {v : SY} (I : i_Rel k u v) (hk : k + 4 ≤ 2048) (v1 : Int32) : wpX_at (fun r => wpY_at (fun r' v' => r' = r ∧ i_Rel (k + 4) u v') v v1) u v1 := by
  obtain ⟨f_stackSize, f_transactions, f_putCount, f_blocks, f_tip, f_poolCount, f_queueCount, a_tokenCount, a_tokenOp, a_tokenValue, a_scriptInUse, a_stack, a_inputCount, a_inputCoin, a_inputA, a_inputB, a_outputCount, a_outputAmount, a_outputScript, a_feeOf, a_putRow, a_parentOf, a_heightOf, a_chainWork, a_blockState, a_rewardAmount, a_rewardScript, a_blockSize, a_blockTransaction, a_laidBlock, a_coinHeight, a_coinSpent, a_transactionHeight, a_poolRow, a_marked, a_queue⟩ := u
  obtain ⟨g_made, g_blocks, g_arrivals, g_tip, g_pooled, g_chainLength, b_op, b_arg, b_length, b_ins, b_inCoin, b_inA, b_inB, b_outs, b_amount, b_lock, b_parent, b_work, b_rewardLock, b_height, b_many, b_holds, b_delivered, b_arrived, b_pool, b_chain, b_from, b_worth, b_within, b_spent, b_stack, b_again, b_chosen⟩ := v
  have I' := I
  obtain ⟨made, blocks, tp, n, np, pc, ar, ⟨rfl, rfl, rfl, rfl, rfl⟩, ⟨rfl, rfl, rfl, rfl, rfl⟩, ⟨rfl, rfl, rfl, rfl⟩, ⟨rfl, rfl, rfl⟩, ST, B, RD, ⟨eh, hn⟩, hl, P, hS⟩ := I
  obtain ⟨tk, w, ag, fq, rq, hp0, us, df, pu, fr⟩ := ST
  have hm := w.2.2.1
  rcases pk_ix v1 (n := made) (by omega) with h | h | ⟨j, hj, rfl⟩
  · exact br_t h (br_t rfl (br_t h (br_t rfl ⟨rfl, I'⟩)))
  · have h0 : ¬ v1 < 0 := Int32.not_lt.mpr (Int32.le_trans (nI_pos' (by omega)) h)
    exact br_f h0 (br_t h (br_t rfl (br_f h0 (br_t h (br_t rfl ⟨rfl, I'⟩)))))
  · have h0 : ¬ nI j < 0 := nI_pos (by omega)
    have h1 : ¬ nI made ≤ nI j := nI_ge hj (by omega)
    refine br_f h0 (br_f h1 (br_f (by decide) ⟨pk_in j 40 (by omega), br_f h0 (br_f h1 (br_f (by decide) ?_))⟩))
    exact ry_tip w ag tk fq rq B.2.2.2.2.2.1.1 eh hn B.2.2.2.2.2.1.2.2.2 _ hS fun wo st ch hw hc => ⟨pk_in j 40 (by omega), rfl, rl_scr I' _ (pd_inv_out (pd_inv_lay w n tp B.2.2.2.2.2.1.1 eh hn)) wo ch st _ _ _⟩
theorem i_vc_coin {k : Nat} {u : SX} {v : SY} (I : i_Rel k u v) (hk : k + 4 ≤ 2048) (v1 : Int32) : wpX_coin (fun r => wpY_coin (fun r' v' => r' = r ∧ i_Rel (k + 4) u v') v v1) u v1 := by
  obtain ⟨f_stackSize, f_transactions, f_putCount, f_blocks, f_tip, f_poolCount, f_queueCount, a_tokenCount, a_tokenOp, a_tokenValue, a_scriptInUse, a_stack, a_inputCount, a_inputCoin, a_inputA, a_inputB, a_outputCount, a_outputAmount, a_outputScript, a_feeOf, a_putRow, a_parentOf, a_heightOf, a_chainWork, a_blockState, a_rewardAmount, a_rewardScript, a_blockSize, a_blockTransaction, a_laidBlock, a_coinHeight, a_coinSpent, a_transactionHeight, a_poolRow, a_marked, a_queue⟩ := u
  obtain ⟨g_made, g_blocks, g_arrivals, g_tip, g_pooled, g_chainLength, b_op, b_arg, b_length, b_ins, b_inCoin, b_inA, b_inB, b_outs, b_amount, b_lock, b_parent, b_work, b_rewardLock, b_height, b_many, b_holds, b_delivered, b_arrived, b_pool, b_chain, b_from, b_worth, b_within, b_spent, b_stack, b_again, b_chosen⟩ := v
  have I' := I
  obtain ⟨made, blocks, tp, n, np, pc, ar, ⟨rfl, rfl, rfl, rfl, rfl⟩, ⟨rfl, rfl, rfl, rfl, rfl⟩, ⟨rfl, rfl, rfl, rfl⟩, ⟨rfl, rfl, rfl⟩, ST, B, RD, ⟨eh, hn⟩, hl, P, hS⟩ := I
  obtain ⟨tk, w, ag, fq, rq, hp0, us, df, pu, fr⟩ := ST
  have hO := pd_inv_out (pd_inv_lay w n tp B.2.2.2.2.2.1.1 eh hn)
  rcases pk_ix v1 (n := 152) (by omega) with h | h | ⟨j, hj, rfl⟩
  · exact br_t h (br_t h (br_t rfl ⟨rfl, I'⟩))
  · have h0 : ¬ v1 < 0 := Int32.not_lt.mpr (Int32.le_trans (nI_pos' (by omega)) h)
    exact br_f h0 (br_t h (br_f h0 (br_t h (br_t rfl ⟨rfl, I'⟩))))
  · have h0 : ¬ nI j < 0 := nI_pos (by omega)
    have h1 : ¬ (152 : Int32) ≤ nI j := nI_ge (b := 152) hj (by omega)
    refine br_f h0 (br_f h1 ⟨pk_in j 152 hj, ?_⟩)
    have ec : (nI j).toNatClampNeg = j := pk_cl j
    rw [ec]
    have goY : ∀ post : Int32 → SY → Prop, (∀ wo st ch, post (if 0 ≤ (pd_lay (a_tokenCount, a_tokenOp, a_tokenValue, a_inputCount, a_inputCoin, a_inputA, a_inputB, a_outputCount, a_outputAmount, a_outputScript, a_parentOf, a_heightOf, a_rewardScript, a_blockSize, a_blockTransaction, a_feeOf, a_rewardAmount) n tp).1 j then (if (pd_lay (a_tokenCount, a_tokenOp, a_tokenValue, a_inputCount, a_inputCoin, a_inputA, a_inputB, a_outputCount, a_outputAmount, a_outputScript, a_parentOf, a_heightOf, a_rewardScript, a_blockSize, a_blockTransaction, a_feeOf, a_rewardAmount) n tp).2.1 j = 0 then 2 else 1) else 0) (nI made, nI blocks, nI ar, nI tp, nI np, nI (n + 1), a_tokenOp, a_tokenValue, a_tokenCount, b_ins, b_inCoin, b_inA, b_inB, b_outs, b_amount, b_lock, b_parent, b_work, b_rewardLock, b_height, b_many, b_holds, b_delivered, b_arrived, a_poolRow, ch, (pd_lay (a_tokenCount, a_tokenOp, a_tokenValue, a_inputCount, a_inputCoin, a_inputA, a_inputB, a_outputCount, a_outputAmount, a_outputScript, a_parentOf, a_heightOf, a_rewardScript, a_blockSize, a_blockTransaction, a_feeOf, a_rewardAmount) n tp).1, wo, (pd_lay (a_tokenCount, a_tokenOp, a_tokenValue, a_inputCount, a_inputCoin, a_inputA, a_inputB, a_outputCount, a_outputAmount, a_outputScript, a_parentOf, a_heightOf, a_rewardScript, a_blockSize, a_blockTransaction, a_feeOf, a_rewardAmount) n tp).2.2, (pd_lay (a_tokenCount, a_tokenOp, a_tokenValue, a_inputCount, a_inputCoin, a_inputA, a_inputB, a_outputCount, a_outputAmount, a_outputScript, a_parentOf, a_heightOf, a_rewardScript, a_blockSize, a_blockTransaction, a_feeOf, a_rewardAmount) n tp).2.1, st, b_again, b_chosen)) → wpY_coin post (nI made, nI blocks, nI ar, nI tp, nI np, g_chainLength, a_tokenOp, a_tokenValue, a_tokenCount, b_ins, b_inCoin, b_inA, b_inB, b_outs, b_amount, b_lock, b_parent, b_work, b_rewardLock, b_height, b_many, b_holds, b_delivered, b_arrived, a_poolRow, b_chain, b_from, b_worth, b_within, b_spent, b_stack, b_again, b_chosen) (nI j) := by
      intro post H
      refine br_f h0 (br_f h1 (br_f (by decide) ?_))
      refine ry_tip w ag tk fq rq B.2.2.2.2.2.1.1 eh hn B.2.2.2.2.2.1.2.2.2 _ hS fun wo st ch hw hc => ⟨pk_in j 152 hj, ?_⟩
      have H' := H wo st ch
      rw [ec]
      refine br_c (fun z => ⟨pk_in j 152 hj, ?_⟩) (fun z => ?_)
      · rw [if_pos z] at H'
        refine br_c (fun z2 => ?_) (fun z2 => ?_)
        · rw [if_pos z2] at H'; exact H'
        · rw [if_neg z2] at H'; exact H'
      · rw [if_neg z] at H'; exact H'
    refine br_c (fun z => ⟨pk_in j 152 hj, br_c (fun z2 => goY _ fun wo st ch => ?_) (fun z2 => goY _ fun wo st ch => ?_)⟩) (fun z => goY _ fun wo st ch => ?_)
    · rw [if_pos z, if_pos z2]; exact ⟨rfl, rl_scr I' _ hO wo ch st _ _ _⟩
    · rw [if_pos z, if_neg z2]; exact ⟨rfl, rl_scr I' _ hO wo ch st _ _ _⟩
    · rw [if_neg z]; exact ⟨rfl, rl_scr I' _ hO wo ch st _ _ _⟩
theorem i_vc_active {k : Nat} {u : SX} {v : SY} (I : i_Rel k u v) (hk : k + 4 ≤ 2048) (v1 : Int32) : wpX_active (fun r => wpY_active (fun r' v' => r' = r ∧ i_Rel (k + 4) u v') v v1) u v1 := by
  obtain ⟨f_stackSize, f_transactions, f_putCount, f_blocks, f_tip, f_poolCount, f_queueCount, a_tokenCount, a_tokenOp, a_tokenValue, a_scriptInUse, a_stack, a_inputCount, a_inputCoin, a_inputA, a_inputB, a_outputCount, a_outputAmount, a_outputScript, a_feeOf, a_putRow, a_parentOf, a_heightOf, a_chainWork, a_blockState, a_rewardAmount, a_rewardScript, a_blockSize, a_blockTransaction, a_laidBlock, a_coinHeight, a_coinSpent, a_transactionHeight, a_poolRow, a_marked, a_queue⟩ := u
  obtain ⟨g_made, g_blocks, g_arrivals, g_tip, g_pooled, g_chainLength, b_op, b_arg, b_length, b_ins, b_inCoin, b_inA, b_inB, b_outs, b_amount, b_lock, b_parent, b_work, b_rewardLock, b_height, b_many, b_holds, b_delivered, b_arrived, b_pool, b_chain, b_from, b_worth, b_within, b_spent, b_stack, b_again, b_chosen⟩ := v
  have I' := I
  obtain ⟨made, blocks, tp, n, np, pc, ar, ⟨rfl, rfl, rfl, rfl, rfl⟩, ⟨rfl, rfl, rfl, rfl, rfl⟩, ⟨rfl, rfl, rfl, rfl⟩, ⟨rfl, rfl, rfl⟩, ST, B, RD, ⟨eh, hn⟩, hl, P, hS⟩ := I
  obtain ⟨tk, w, ag, fq, rq, hp0, us, df, pu, fr⟩ := ST
  have hbk := w.2.1
  have htp := B.2.2.2.2.2.1.1
  have hO := pd_inv_out (pd_inv_lay w n tp htp eh hn)
  have ehc : a_heightOf (nI tp).toNatClampNeg = nI n := by rw [pk_cl tp]; exact eh
  rcases pk_ix v1 (n := n + 1) (by omega) with h | h | ⟨j, hj, rfl⟩
  · exact br_t h (ry_tip w ag tk fq rq htp eh hn B.2.2.2.2.2.1.2.2.2 _ hS fun wo st ch hw hc => br_t h (br_t rfl ⟨rfl, rl_scr I' _ hO wo ch st _ _ _⟩))
  · have h0 : ¬ v1 < 0 := Int32.not_lt.mpr (Int32.le_trans (nI_pos' (by omega)) h)
    have h1 : ¬ v1 ≤ nI n := fun q => absurd (Int32.le_trans h q) (nI_ge (by omega) (by omega))
    refine br_f h0 ⟨pk_in tp 32 (by omega), ?_⟩
    rw [ehc]
    exact br_f h1 (ry_tip w ag tk fq rq htp eh hn B.2.2.2.2.2.1.2.2.2 _ hS fun wo st ch hw hc => br_f h0 (br_t h (br_t rfl ⟨rfl, rl_scr I' _ hO wo ch st _ _ _⟩)))
  · have h0 : ¬ nI j < 0 := nI_pos (by omega)
    refine br_f h0 ⟨pk_in tp 32 (by omega), ?_⟩
    rw [ehc]
    refine br_t (nI_le (by omega) (by omega)) ⟨pk_in j 32 (by omega), ry_tip w ag tk fq rq htp eh hn B.2.2.2.2.2.1.2.2.2 _ hS fun wo st ch hw hc => br_f h0 (br_f (nI_ge hj (by omega)) (br_f (by decide) ⟨pk_in j 32 (by omega), ?_, rl_scr I' _ hO wo ch st _ _ _⟩))⟩
    rw [pk_cl (x := nI j) j, hc j (by omega), hl j (by omega)]
theorem i_vc_fee {k : Nat} {u : SX} {v : SY} (I : i_Rel k u v) (hk : k + 4 ≤ 2048) (v1 : Int32) : wpX_fee (fun r => wpY_fee (fun r' v' => r' = r ∧ i_Rel (k + 4) u v') v v1) u v1 := by
  obtain ⟨f_stackSize, f_transactions, f_putCount, f_blocks, f_tip, f_poolCount, f_queueCount, a_tokenCount, a_tokenOp, a_tokenValue, a_scriptInUse, a_stack, a_inputCount, a_inputCoin, a_inputA, a_inputB, a_outputCount, a_outputAmount, a_outputScript, a_feeOf, a_putRow, a_parentOf, a_heightOf, a_chainWork, a_blockState, a_rewardAmount, a_rewardScript, a_blockSize, a_blockTransaction, a_laidBlock, a_coinHeight, a_coinSpent, a_transactionHeight, a_poolRow, a_marked, a_queue⟩ := u
  obtain ⟨g_made, g_blocks, g_arrivals, g_tip, g_pooled, g_chainLength, b_op, b_arg, b_length, b_ins, b_inCoin, b_inA, b_inB, b_outs, b_amount, b_lock, b_parent, b_work, b_rewardLock, b_height, b_many, b_holds, b_delivered, b_arrived, b_pool, b_chain, b_from, b_worth, b_within, b_spent, b_stack, b_again, b_chosen⟩ := v
  have I' := I
  obtain ⟨made, blocks, tp, n, np, pc, ar, ⟨rfl, rfl, rfl, rfl, rfl⟩, ⟨rfl, rfl, rfl, rfl, rfl⟩, ⟨rfl, rfl, rfl, rfl⟩, ⟨rfl, rfl, rfl⟩, ST, B, RD, ⟨eh, hn⟩, hl, P, hS⟩ := I
  obtain ⟨tk, w, ag, fq, rq, hp0, us, df, pu, fr⟩ := ST
  have hm := w.2.2.1
  have hnp := P.1
  have htp := B.2.2.2.2.2.1.1
  have hO := pd_inv_out (pd_inv_lay w n tp htp eh hn)
  rcases pk_ix v1 (n := np) (by omega) with h | h | ⟨j, hj, rfl⟩
  · exact br_t h (br_t h (br_t rfl ⟨rfl, I'⟩))
  · have h0 : ¬ v1 < 0 := Int32.not_lt.mpr (Int32.le_trans (nI_pos' (by omega)) h)
    exact br_f h0 (br_t h (br_f h0 (br_t h (br_t rfl ⟨rfl, I'⟩))))
  · have h0 : ¬ nI j < 0 := nI_pos (by omega)
    have h1 : ¬ nI np ≤ nI j := nI_ge hj (by omega)
    obtain ⟨t, ht, et, _, hin, _⟩ := P.2 j hj
    have ejc : a_poolRow (nI j).toNatClampNeg = nI t := by rw [pk_cl j]; exact et
    refine br_f h0 (br_f h1 ⟨pk_in j 12 (by omega), pk_in t 40 (by omega) ejc, br_f h0 (br_f h1 (br_f (by decide) ?_))⟩)
    refine ry_tip w ag tk fq rq htp eh hn B.2.2.2.2.2.1.2.2.2 _ hS fun wo st ch hw hc => ⟨pk_in j 12 (by omega), ?_⟩
    rw [ejc, pk_cl t]
    have agt := ag.1 t ht
    refine yq_fee (gfe := a_feeOf) (grw := a_rewardAmount) (pd_wf_ag w ag) (pd_feq_ag w ag fq) ht (fun i hi h120 => ?_) ⟨rfl, rl_scr I' _ hO wo ch st _ _ _⟩
    rw [agt.1] at hi
    have eco : b_inCoin (3 * t + i) = a_inputCoin (3 * t + i) := (agt.2.2.2.1 i hi).1
    obtain ⟨c, hc1, _, ecc, _⟩ := pd_wf_co w ht hi
    have ecc' : (a_inputCoin (3 * t + i)).toNatClampNeg = c := ecc
    have q := hin i hi
    rw [ecc] at q
    rw [eco, ecc'] at h120 ⊢
    rcases q with q | q
    · rw [hw c hc1 q.1]; exact if_neg (by omega)
    · omega

/-! balance -/
def bl_t (D : pd_D) (S : pd_S) (x : Int32) (c : Nat) (acc : Int64) : Int64 := if 0 ≤ S.1 c ∧ S.2.1 c = 0 ∧ nI (pd_sc D c) = x then acc + (pd_amt D c).toInt64 else acc
def bl_s (D : pd_D) (S : pd_S) (x : Int32) : Nat → Int64
  | 0 => 0
  | c + 1 => bl_t D S x c (bl_s D S x c)
theorem bl_0 {D : pd_D} {made blocks : Nat} {S : pd_S} {x : Int32} (w : pd_wf D made blocks) (I : pd_inv D made blocks S) (hx : x < 0 ∨ nI 8 ≤ x) : ∀ c, c ≤ 152 → bl_s D S x c = 0 := by
  intro c
  induction c with
  | zero => intro _; rfl
  | succ c ih =>
    intro hc
    rw [bl_s, ih (by omega), bl_t, if_neg]
    intro ⟨q1, _, q3⟩
    have h8 := (pd_sc_eq w (I.2.2.2.1 c (by omega) q1)).1
    rcases hx with h | h
    · rw [← q3] at h; exact nI_pos (by omega) h
    · rw [← q3] at h; exact nI_ge h8 (by omega) h
section
variable {f_stackSize f_transactions f_putCount f_blocks f_tip f_poolCount f_queueCount : Int32} {a_tokenCount a_tokenOp a_tokenValue a_scriptInUse a_stack a_inputCount a_inputCoin a_inputA a_inputB a_outputCount a_outputAmount a_outputScript a_feeOf a_putRow a_parentOf a_heightOf a_chainWork a_blockState a_rewardAmount a_rewardScript a_blockSize a_blockTransaction a_laidBlock a_coinHeight a_coinSpent a_transactionHeight a_poolRow a_marked a_queue : Nat → Int32}
theorem xm_balance {made blocks : Nat} {S : pd_S} {x : Int32} (w : pd_wf (a_tokenCount, a_tokenOp, a_tokenValue, a_inputCount, a_inputCoin, a_inputA, a_inputB, a_outputCount, a_outputAmount, a_outputScript, a_parentOf, a_heightOf, a_rewardScript, a_blockSize, a_blockTransaction, a_feeOf, a_rewardAmount) made blocks) (I : pd_inv (a_tokenCount, a_tokenOp, a_tokenValue, a_inputCount, a_inputCoin, a_inputA, a_inputB, a_outputCount, a_outputAmount, a_outputScript, a_parentOf, a_heightOf, a_rewardScript, a_blockSize, a_blockTransaction, a_feeOf, a_rewardAmount) made blocks S) {post : Int64 → Prop} (H : post (bl_s (a_tokenCount, a_tokenOp, a_tokenValue, a_inputCount, a_inputCoin, a_inputA, a_inputB, a_outputCount, a_outputAmount, a_outputScript, a_parentOf, a_heightOf, a_rewardScript, a_blockSize, a_blockTransaction, a_feeOf, a_rewardAmount) S x 152)) : wpX_balance post (f_stackSize, f_transactions, f_putCount, f_blocks, f_tip, f_poolCount, f_queueCount, a_tokenCount, a_tokenOp, a_tokenValue, a_scriptInUse, a_stack, a_inputCount, a_inputCoin, a_inputA, a_inputB, a_outputCount, a_outputAmount, a_outputScript, a_feeOf, a_putRow, a_parentOf, a_heightOf, a_chainWork, a_blockState, a_rewardAmount, a_rewardScript, a_blockSize, a_blockTransaction, a_laidBlock, S.1, S.2.1, S.2.2, a_poolRow, a_marked, a_queue) x := by
  have key : ∀ (d c fuel : Nat), c + d = 152 → d < fuel → wX_balance_5 post x f_stackSize f_transactions f_putCount f_blocks f_tip f_poolCount f_queueCount a_tokenCount a_tokenOp a_tokenValue a_scriptInUse a_stack a_inputCount a_inputCoin a_inputA a_inputB a_outputCount a_outputAmount a_outputScript a_feeOf a_putRow a_parentOf a_heightOf a_chainWork a_blockState a_rewardAmount a_rewardScript a_blockSize a_blockTransaction a_laidBlock S.1 S.2.1 S.2.2 a_poolRow a_marked a_queue fuel (bl_s (a_tokenCount, a_tokenOp, a_tokenValue, a_inputCount, a_inputCoin, a_inputA, a_inputB, a_outputCount, a_outputAmount, a_outputScript, a_parentOf, a_heightOf, a_rewardScript, a_blockSize, a_blockTransaction, a_feeOf, a_rewardAmount) S x c) (nI c) := by
    intro d
    induction d with
    | zero =>
      intro c fuel hc hf
      obtain ⟨fuel, rfl⟩ : ∃ q, fuel = q + 1 := ⟨fuel - 1, by omega⟩
      obtain rfl : c = 152 := by omega
      exact br_t (by decide) H
    | succ d ih =>
      intro c fuel hc hf
      obtain ⟨fuel, rfl⟩ : ∃ q, fuel = q + 1 := ⟨fuel - 1, by omega⟩
      have hnx := ih (c + 1) fuel (by omega) (by omega)
      rw [bl_s, bl_t] at hnx
      have ecc : (nI c).toNatClampNeg = c := pk_cl c
      refine pk_le 152 c (fun z => by omega) (fun z => ⟨pk_in c 152 (by omega), ?_⟩)
      rw [ecc]
      refine br_c (fun z1 => nm_r (nI_1 c) ?_) (fun z1 => ⟨pk_in c 152 (by omega), br_c (fun z2 => ?_) (fun z2 => nm_r (nI_1 c) ?_)⟩)
      · rw [if_neg (fun q => absurd q.1 (Int32.not_le.mpr z1))] at hnx; exact hnx
      · have z1' : 0 ≤ S.1 c := Int32.not_lt.mp z1
        obtain ⟨_, so, sr⟩ := pd_sc_eq w (I.2.2.2.1 c (by omega) z1')
        have es : (if c < 120 then a_outputScript c else a_rewardScript (c - 120)) = nI (pd_sc (a_tokenCount, a_tokenOp, a_tokenValue, a_inputCount, a_inputCoin, a_inputA, a_inputB, a_outputCount, a_outputAmount, a_outputScript, a_parentOf, a_heightOf, a_rewardScript, a_blockSize, a_blockTransaction, a_feeOf, a_rewardAmount) c) := by
          by_cases z : c < 120
          · rw [if_pos z]; exact so z
          · rw [if_neg z]; exact sr (by omega)
        refine xm_scriptOf (by omega) ?_
        rw [es]
        refine br_c (fun z3 => xm_amountOf (by omega) (nm_e (nm_r (nI_1 c) ?_))) (fun z3 => nm_r (nI_1 c) ?_)
        · rw [if_pos ⟨z1', z2, z3⟩] at hnx; exact hnx
        · rw [if_neg (fun q => z3 q.2.2)] at hnx; exact hnx
      · rw [if_neg (fun q => z2 q.2.1)] at hnx; exact hnx
  exact ⟨153, key 152 0 153 (by omega) (by omega)⟩
end
section
variable {f_stackSize f_transactions f_putCount f_blocks f_tip f_poolCount f_queueCount : Int32} {a_tokenCount a_tokenOp a_tokenValue a_scriptInUse a_stack a_inputCount a_inputCoin a_inputA a_inputB a_outputCount a_outputAmount a_outputScript a_feeOf a_putRow a_parentOf a_heightOf a_chainWork a_blockState a_rewardAmount a_rewardScript a_blockSize a_blockTransaction a_laidBlock a_coinHeight a_coinSpent a_transactionHeight a_poolRow a_marked a_queue : Nat → Int32}
variable {g_made g_blocks g_arrivals g_tip g_pooled g_chainLength : Int32} {b_op b_arg b_length b_ins b_inCoin b_inA b_inB b_outs b_amount b_lock b_parent b_work b_rewardLock b_height b_many b_holds b_delivered b_arrived b_pool b_chain b_from b_worth b_within b_spent b_stack b_again b_chosen gfe grw : Nat → Int32}
theorem ym_balance {made blocks : Nat} {S : pd_S} {x : Int32} (w : pd_wf (a_tokenCount, a_tokenOp, a_tokenValue, a_inputCount, a_inputCoin, a_inputA, a_inputB, a_outputCount, a_outputAmount, a_outputScript, a_parentOf, a_heightOf, a_rewardScript, a_blockSize, a_blockTransaction, a_feeOf, a_rewardAmount) made blocks) (ag : pd_ag (a_tokenCount, a_tokenOp, a_tokenValue, a_inputCount, a_inputCoin, a_inputA, a_inputB, a_outputCount, a_outputAmount, a_outputScript, a_parentOf, a_heightOf, a_rewardScript, a_blockSize, a_blockTransaction, a_feeOf, a_rewardAmount) (b_length, b_op, b_arg, b_ins, b_inCoin, b_inA, b_inB, b_outs, b_amount, b_lock, b_parent, b_height, b_rewardLock, b_many, b_holds, gfe, grw) made blocks) (I : pd_inv (a_tokenCount, a_tokenOp, a_tokenValue, a_inputCount, a_inputCoin, a_inputA, a_inputB, a_outputCount, a_outputAmount, a_outputScript, a_parentOf, a_heightOf, a_rewardScript, a_blockSize, a_blockTransaction, a_feeOf, a_rewardAmount) made blocks S) (wr : pd_wor (b_length, b_op, b_arg, b_ins, b_inCoin, b_inA, b_inB, b_outs, b_amount, b_lock, b_parent, b_height, b_rewardLock, b_many, b_holds, gfe, grw) S.1 b_worth) {post : Int64 → SY → Prop} (H : post (bl_s (a_tokenCount, a_tokenOp, a_tokenValue, a_inputCount, a_inputCoin, a_inputA, a_inputB, a_outputCount, a_outputAmount, a_outputScript, a_parentOf, a_heightOf, a_rewardScript, a_blockSize, a_blockTransaction, a_feeOf, a_rewardAmount) S x 152) (g_made, g_blocks, g_arrivals, g_tip, g_pooled, g_chainLength, b_op, b_arg, b_length, b_ins, b_inCoin, b_inA, b_inB, b_outs, b_amount, b_lock, b_parent, b_work, b_rewardLock, b_height, b_many, b_holds, b_delivered, b_arrived, b_pool, b_chain, S.1, b_worth, S.2.2, S.2.1, b_stack, b_again, b_chosen)) : ∃ fuel, wY_balance_25 post x g_made g_blocks g_arrivals g_tip g_pooled g_chainLength b_op b_arg b_length b_ins b_inCoin b_inA b_inB b_outs b_amount b_lock b_parent b_work b_rewardLock b_height b_many b_holds b_delivered b_arrived b_pool b_chain S.1 b_worth S.2.2 S.2.1 b_stack b_again b_chosen fuel 0 0 := by
  have wE := pd_wf_ag w ag
  have key : ∀ (d c fuel : Nat), c + d = 152 → d < fuel → wY_balance_25 post x g_made g_blocks g_arrivals g_tip g_pooled g_chainLength b_op b_arg b_length b_ins b_inCoin b_inA b_inB b_outs b_amount b_lock b_parent b_work b_rewardLock b_height b_many b_holds b_delivered b_arrived b_pool b_chain S.1 b_worth S.2.2 S.2.1 b_stack b_again b_chosen fuel (bl_s (a_tokenCount, a_tokenOp, a_tokenValue, a_inputCount, a_inputCoin, a_inputA, a_inputB, a_outputCount, a_outputAmount, a_outputScript, a_parentOf, a_heightOf, a_rewardScript, a_blockSize, a_blockTransaction, a_feeOf, a_rewardAmount) S x c) (nI c) := by
    intro d
    induction d with
    | zero =>
      intro c fuel hc hf
      obtain ⟨fuel, rfl⟩ : ∃ q, fuel = q + 1 := ⟨fuel - 1, by omega⟩
      obtain rfl : c = 152 := by omega
      exact br_t (by decide) H
    | succ d ih =>
      intro c fuel hc hf
      obtain ⟨fuel, rfl⟩ : ∃ q, fuel = q + 1 := ⟨fuel - 1, by omega⟩
      have hnx := ih (c + 1) fuel (by omega) (by omega)
      rw [bl_s, bl_t] at hnx
      have ecc : (nI c).toNatClampNeg = c := pk_cl c
      have m60 : ∀ z0 : Int32, (0 ≤ S.1 c → z0 = nI (pd_sc (a_tokenCount, a_tokenOp, a_tokenValue, a_inputCount, a_inputCoin, a_inputA, a_inputB, a_outputCount, a_outputAmount, a_outputScript, a_parentOf, a_heightOf, a_rewardScript, a_blockSize, a_blockTransaction, a_feeOf, a_rewardAmount) c)) → wY_balance_60 post (wY_balance_25 post x g_made g_blocks g_arrivals g_tip g_pooled g_chainLength b_op b_arg b_length b_ins b_inCoin b_inA b_inB b_outs b_amount b_lock b_parent b_work b_rewardLock b_height b_many b_holds b_delivered b_arrived b_pool b_chain S.1 b_worth S.2.2 S.2.1 b_stack b_again b_chosen fuel) x (bl_s (a_tokenCount, a_tokenOp, a_tokenValue, a_inputCount, a_inputCoin, a_inputA, a_inputB, a_outputCount, a_outputAmount, a_outputScript, a_parentOf, a_heightOf, a_rewardScript, a_blockSize, a_blockTransaction, a_feeOf, a_rewardAmount) S x c) (nI c) z0 g_made g_blocks g_arrivals g_tip g_pooled g_chainLength b_op b_arg b_length b_ins b_inCoin b_inA b_inB b_outs b_amount b_lock b_parent b_work b_rewardLock b_height b_many b_holds b_delivered b_arrived b_pool b_chain S.1 b_worth S.2.2 S.2.1 b_stack b_again b_chosen := by
        intro z0 hz0
        refine ⟨pk_in c 152 (by omega), ?_⟩
        rw [ecc]
        refine br_c (fun z1 => nm_r (nI_1 c) ?_) (fun z1 => ⟨pk_in c 152 (by omega), br_c (fun z2 => br_c (fun z3 => ⟨pk_in c 152 (by omega), nm_e (nm_r (nI_1 c) ?_)⟩) (fun z3 => nm_r (nI_1 c) ?_)) (fun z2 => nm_r (nI_1 c) ?_)⟩)
        · rw [if_neg (fun q => absurd q.1 (Int32.not_le.mpr z1))] at hnx; exact hnx
        · have z1' : 0 ≤ S.1 c := Int32.not_lt.mp z1
          rw [hz0 z1'] at z3
          rw [if_pos ⟨z1', z2, z3⟩] at hnx
          rw [wr c (by omega) z1', pd_ag_amt ag (I.2.2.2.1 c (by omega) z1')]
          exact hnx
        · have z1' : 0 ≤ S.1 c := Int32.not_lt.mp z1
          rw [hz0 z1'] at z3
          rw [if_neg (fun q => z3 q.2.2)] at hnx; exact hnx
        · rw [if_neg (fun q => z2 q.2.1)] at hnx; exact hnx
      have hsc : 0 ≤ S.1 c → pd_sc (a_tokenCount, a_tokenOp, a_tokenValue, a_inputCount, a_inputCoin, a_inputA, a_inputB, a_outputCount, a_outputAmount, a_outputScript, a_parentOf, a_heightOf, a_rewardScript, a_blockSize, a_blockTransaction, a_feeOf, a_rewardAmount) c < 8 ∧ (c < 120 → b_lock c = nI (pd_sc (a_tokenCount, a_tokenOp, a_tokenValue, a_inputCount, a_inputCoin, a_inputA, a_inputB, a_outputCount, a_outputAmount, a_outputScript, a_parentOf, a_heightOf, a_rewardScript, a_blockSize, a_blockTransaction, a_feeOf, a_rewardAmount) c)) ∧ (120 ≤ c → b_rewardLock (c - 120) = nI (pd_sc (a_tokenCount, a_tokenOp, a_tokenValue, a_inputCount, a_inputCoin, a_inputA, a_inputB, a_outputCount, a_outputAmount, a_outputScript, a_parentOf, a_heightOf, a_rewardScript, a_blockSize, a_blockTransaction, a_feeOf, a_rewardAmount) c)) := by
        intro z1
        have hq := I.2.2.2.1 c (by omega) z1
        have := pd_sc_eq wE ((pd_ag_coin ag (Nat.le_refl _)).mpr hq)
        rw [pd_ag_sc w ag hq] at this
        exact this
      refine pk_le 152 c (fun z => by omega) (fun z => pk_le 120 c (fun z1 => ?_) (fun z1 => ⟨pk_in c 123 (by omega), ?_⟩))
      · have ex : nI c - 120 = nI (c - 120) := pk_sub (b := 120) z1
        refine ⟨pk_in (c - 120) 33 (by omega) ex, ?_⟩
        rw [pk_cl (c - 120) ex]
        exact m60 _ fun q => (hsc q).2.2 z1
      · rw [ecc]
        exact m60 _ fun q => (hsc q).2.1 z1
  exact ⟨153, key 152 0 153 (by omega) (by omega)⟩
end
theorem i_vc_balance {k : Nat} {u : SX} {v : SY} (I : i_Rel k u v) (hk : k + 4 ≤ 2048) (v1 : Int32) : wpX_balance (fun r => wpY_balance (fun r' v' => r' = r ∧ i_Rel (k + 4) u v') v v1) u v1 := by
  obtain ⟨f_stackSize, f_transactions, f_putCount, f_blocks, f_tip, f_poolCount, f_queueCount, a_tokenCount, a_tokenOp, a_tokenValue, a_scriptInUse, a_stack, a_inputCount, a_inputCoin, a_inputA, a_inputB, a_outputCount, a_outputAmount, a_outputScript, a_feeOf, a_putRow, a_parentOf, a_heightOf, a_chainWork, a_blockState, a_rewardAmount, a_rewardScript, a_blockSize, a_blockTransaction, a_laidBlock, a_coinHeight, a_coinSpent, a_transactionHeight, a_poolRow, a_marked, a_queue⟩ := u
  obtain ⟨g_made, g_blocks, g_arrivals, g_tip, g_pooled, g_chainLength, b_op, b_arg, b_length, b_ins, b_inCoin, b_inA, b_inB, b_outs, b_amount, b_lock, b_parent, b_work, b_rewardLock, b_height, b_many, b_holds, b_delivered, b_arrived, b_pool, b_chain, b_from, b_worth, b_within, b_spent, b_stack, b_again, b_chosen⟩ := v
  have I' := I
  obtain ⟨made, blocks, tp, n, np, pc, ar, ⟨rfl, rfl, rfl, rfl, rfl⟩, ⟨rfl, rfl, rfl, rfl, rfl⟩, ⟨rfl, rfl, rfl, rfl⟩, ⟨rfl, rfl, rfl⟩, ST, B, RD, ⟨eh, hn⟩, hl, P, hS⟩ := I
  obtain ⟨tk, w, ag, fq, rq, hp0, us, df, pu, fr⟩ := ST
  have htp := B.2.2.2.2.2.1.1
  have hI := pd_inv_lay w n tp htp eh hn
  refine xm_balance w hI ?_
  have bad : (v1 < 0 ∨ nI 8 ≤ v1) → bl_s (a_tokenCount, a_tokenOp, a_tokenValue, a_inputCount, a_inputCoin, a_inputA, a_inputB, a_outputCount, a_outputAmount, a_outputScript, a_parentOf, a_heightOf, a_rewardScript, a_blockSize, a_blockTransaction, a_feeOf, a_rewardAmount) (pd_lay (a_tokenCount, a_tokenOp, a_tokenValue, a_inputCount, a_inputCoin, a_inputA, a_inputB, a_outputCount, a_outputAmount, a_outputScript, a_parentOf, a_heightOf, a_rewardScript, a_blockSize, a_blockTransaction, a_feeOf, a_rewardAmount) n tp) v1 152 = 0 := fun h => bl_0 w hI h 152 (Nat.le_refl _)
  rcases pk_ix v1 (n := 8) (by omega) with h | h | ⟨j, hj, rfl⟩
  · rw [bad (Or.inl h)]
    exact br_t h (br_t rfl ⟨rfl, I'⟩)
  · have h0 : ¬ v1 < 0 := Int32.not_lt.mpr (Int32.le_trans (by decide) h)
    rw [bad (Or.inr h)]
    exact br_f h0 (br_t h (br_t rfl ⟨rfl, I'⟩))
  · refine br_f (nI_pos (by omega)) (br_f (nI_ge (b := 8) hj (by omega)) (br_f (by decide) ?_))
    refine ry_tip (gfe := a_feeOf) (grw := a_rewardAmount) w ag tk fq rq htp eh hn B.2.2.2.2.2.1.2.2.2 _ hS fun wo st ch hw hc => ?_
    exact ym_balance w ag hI hw ⟨rfl, rl_scr I' _ (pd_inv_out hI) wo ch st _ _ _⟩

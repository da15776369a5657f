/-! X: the script machine -/
theorem fx_e1 {n : Nat} (h : 1 ≤ n) : nI n - 1 = nI (n - 1) := pk_sub (b := 1) h
theorem fx_e2 {n : Nat} (h : 2 ≤ n) : nI n - 2 = nI (n - 2) := pk_sub (b := 2) h
section
variable {f_stackSize f_transactions f_putCount f_blocks f_tip f_poolCount f_queueCount : Int32} {a_tokenCount a_tokenOp a_tokenValue a_scriptInUse a_stack a_inputCount a_inputCoin a_inputA a_inputB a_outputCount a_outputAmount a_outputScript a_feeOf a_putRow a_parentOf a_heightOf a_chainWork a_blockState a_rewardAmount a_rewardScript a_blockSize a_blockTransaction a_laidBlock a_coinHeight a_coinSpent a_transactionHeight a_poolRow a_marked a_queue : Nat → Int32}
theorem xm_need {k : Nat} (hk : k ≤ 12) (post : Int32 → Prop) (h : post (nI (fx_need k))) : wpX_intsNeeded post (f_stackSize, f_transactions, f_putCount, f_blocks, f_tip, f_poolCount, f_queueCount, a_tokenCount, a_tokenOp, a_tokenValue, a_scriptInUse, a_stack, a_inputCount, a_inputCoin, a_inputA, a_inputB, a_outputCount, a_outputAmount, a_outputScript, a_feeOf, a_putRow, a_parentOf, a_heightOf, a_chainWork, a_blockState, a_rewardAmount, a_rewardScript, a_blockSize, a_blockTransaction, a_laidBlock, a_coinHeight, a_coinSpent, a_transactionHeight, a_poolRow, a_marked, a_queue) (nI k) := by
  rcases (by omega : k = 0 ∨ k = 1 ∨ k = 2 ∨ k = 3 ∨ k = 4 ∨ k = 5 ∨ k = 6 ∨ k = 7 ∨ k = 8 ∨ k = 9 ∨ k = 10 ∨ k = 11 ∨ k = 12) with rfl | rfl | rfl | rfl | rfl | rfl | rfl | rfl | rfl | rfl | rfl | rfl | rfl <;>
  · unfold wpX_intsNeeded
    dsimp only
    repeat (first | refine br_f (by decide) ?_ | refine br_t (by decide) ?_)
    exact h
theorem xm_more {k : Nat} (hk : k ≤ 12) (post : Int32 → Prop) (h : post (nI (fx_more k))) : wpX_intsAdded post (f_stackSize, f_transactions, f_putCount, f_blocks, f_tip, f_poolCount, f_queueCount, a_tokenCount, a_tokenOp, a_tokenValue, a_scriptInUse, a_stack, a_inputCount, a_inputCoin, a_inputA, a_inputB, a_outputCount, a_outputAmount, a_outputScript, a_feeOf, a_putRow, a_parentOf, a_heightOf, a_chainWork, a_blockState, a_rewardAmount, a_rewardScript, a_blockSize, a_blockTransaction, a_laidBlock, a_coinHeight, a_coinSpent, a_transactionHeight, a_poolRow, a_marked, a_queue) (nI k) := by
  rcases (by omega : k = 0 ∨ k = 1 ∨ k = 2 ∨ k = 3 ∨ k = 4 ∨ k = 5 ∨ k = 6 ∨ k = 7 ∨ k = 8 ∨ k = 9 ∨ k = 10 ∨ k = 11 ∨ k = 12) with rfl | rfl | rfl | rfl | rfl | rfl | rfl | rfl | rfl | rfl | rfl | rfl | rfl <;>
  · unfold wpX_intsAdded
    dsimp only
    repeat (first | refine br_f (by decide) ?_ | refine br_t (by decide) ?_)
    exact h
theorem xm_join86 {n : Nat} (hn : 2 ≤ n) (h6 : n ≤ 6) {x : Int32} {post : SX → Prop} (h : post (nI (n - 1), f_transactions, f_putCount, f_blocks, f_tip, f_poolCount, f_queueCount, a_tokenCount, a_tokenOp, a_tokenValue, a_scriptInUse, upd a_stack (n - 2) x, a_inputCount, a_inputCoin, a_inputA, a_inputB, a_outputCount, a_outputAmount, a_outputScript, a_feeOf, a_putRow, a_parentOf, a_heightOf, a_chainWork, a_blockState, a_rewardAmount, a_rewardScript, a_blockSize, a_blockTransaction, a_laidBlock, a_coinHeight, a_coinSpent, a_transactionHeight, a_poolRow, a_marked, a_queue)) : wX_joinTop_86 post x (nI n) f_transactions f_putCount f_blocks f_tip f_poolCount f_queueCount a_tokenCount a_tokenOp a_tokenValue a_scriptInUse a_stack a_inputCount a_inputCoin a_inputA a_inputB a_outputCount a_outputAmount a_outputScript a_feeOf a_putRow a_parentOf a_heightOf a_chainWork a_blockState a_rewardAmount a_rewardScript a_blockSize a_blockTransaction a_laidBlock a_coinHeight a_coinSpent a_transactionHeight a_poolRow a_marked a_queue := by
  have e1 : nI n - 1 = nI (n - 1) := fx_e1 (by omega)
  have e3 : nI (n - 1) - 1 = nI (n - 2) := (fx_e1 (by omega)).trans (congrArg nI (by omega))
  exact nm_r e1 ⟨pk_in (n - 2) 6 (by omega) e3, nm_r (by rw [pk_cl (n - 2) e3]) h⟩
theorem xm_join {k n : Nat} (hk : 4 ≤ k) (hk7 : k ≤ 7) (hn : 2 ≤ n) (h6 : n ≤ 6) (v w : Int32) {post : SX → Prop} (h : post (nI (fx_do a_stack n k v w).2, f_transactions, f_putCount, f_blocks, f_tip, f_poolCount, f_queueCount, a_tokenCount, a_tokenOp, a_tokenValue, a_scriptInUse, (fx_do a_stack n k v w).1, a_inputCount, a_inputCoin, a_inputA, a_inputB, a_outputCount, a_outputAmount, a_outputScript, a_feeOf, a_putRow, a_parentOf, a_heightOf, a_chainWork, a_blockState, a_rewardAmount, a_rewardScript, a_blockSize, a_blockTransaction, a_laidBlock, a_coinHeight, a_coinSpent, a_transactionHeight, a_poolRow, a_marked, a_queue)) : wpX_joinTop post (nI n, f_transactions, f_putCount, f_blocks, f_tip, f_poolCount, f_queueCount, a_tokenCount, a_tokenOp, a_tokenValue, a_scriptInUse, a_stack, a_inputCount, a_inputCoin, a_inputA, a_inputB, a_outputCount, a_outputAmount, a_outputScript, a_feeOf, a_putRow, a_parentOf, a_heightOf, a_chainWork, a_blockState, a_rewardAmount, a_rewardScript, a_blockSize, a_blockTransaction, a_laidBlock, a_coinHeight, a_coinSpent, a_transactionHeight, a_poolRow, a_marked, a_queue) (nI k) := by
  have e1 : nI n - 1 = nI (n - 1) := fx_e1 (by omega)
  have e2 : nI n - 2 = nI (n - 2) := fx_e2 (by omega)
  refine ⟨pk_in (n - 1) 6 (by omega) e1, nm_r (congrArg a_stack (pk_cl (n - 1) e1)) ⟨pk_in (n - 2) 6 (by omega) e2, nm_r (congrArg a_stack (pk_cl (n - 2) e2)) ?_⟩⟩
  rcases (by omega : k = 4 ∨ k = 5 ∨ k = 6 ∨ k = 7) with rfl | rfl | rfl | rfl
  · exact br_t (by decide) (nm_e (xm_join86 hn h6 h))
  · exact br_f (by decide) (br_t (by decide) (nm_e (xm_join86 hn h6 h)))
  · refine br_f (by decide) (br_f (by decide) (br_t (by decide) (br_c (fun z => ?_) (fun z => ?_))))
    · refine xm_join86 hn h6 ?_
      have e : (fx_do a_stack n 6 v w).1 = upd a_stack (n - 2) 1 := by show upd _ _ _ = _; rw [if_pos z]
      rw [e] at h; exact h
    · refine xm_join86 hn h6 ?_
      have e : (fx_do a_stack n 6 v w).1 = upd a_stack (n - 2) 0 := by show upd _ _ _ = _; rw [if_neg z]
      rw [e] at h; exact h
  · refine br_f (by decide) (br_f (by decide) (br_f (by decide) (br_c (fun z => ?_) (fun z => ?_))))
    · refine xm_join86 hn h6 ?_
      have e : (fx_do a_stack n 7 v w).1 = upd a_stack (n - 2) 0 := by show upd _ _ _ = _; rw [if_pos z]
      rw [e] at h; exact h
    · refine xm_join86 hn h6 ?_
      have e : (fx_do a_stack n 7 v w).1 = upd a_stack (n - 2) 1 := by show upd _ _ _ = _; rw [if_neg z]
      rw [e] at h; exact h
theorem xm_push {n : Nat} (hn : n < 6) {x : Int32} {post : SX → Prop} (h : post (nI (n + 1), f_transactions, f_putCount, f_blocks, f_tip, f_poolCount, f_queueCount, a_tokenCount, a_tokenOp, a_tokenValue, a_scriptInUse, upd a_stack n x, a_inputCount, a_inputCoin, a_inputA, a_inputB, a_outputCount, a_outputAmount, a_outputScript, a_feeOf, a_putRow, a_parentOf, a_heightOf, a_chainWork, a_blockState, a_rewardAmount, a_rewardScript, a_blockSize, a_blockTransaction, a_laidBlock, a_coinHeight, a_coinSpent, a_transactionHeight, a_poolRow, a_marked, a_queue)) : wX_changeTop_76 post x (nI n) f_transactions f_putCount f_blocks f_tip f_poolCount f_queueCount a_tokenCount a_tokenOp a_tokenValue a_scriptInUse a_stack a_inputCount a_inputCoin a_inputA a_inputB a_outputCount a_outputAmount a_outputScript a_feeOf a_putRow a_parentOf a_heightOf a_chainWork a_blockState a_rewardAmount a_rewardScript a_blockSize a_blockTransaction a_laidBlock a_coinHeight a_coinSpent a_transactionHeight a_poolRow a_marked a_queue :=
  ⟨pk_in n 6 hn, nm_r (by rw [pk_cl n]) (nm_r (nI_1 n) h)⟩
theorem xm_pop {n : Nat} (hn : 1 ≤ n) {post : SX → Prop} (h : post (nI (n - 1), f_transactions, f_putCount, f_blocks, f_tip, f_poolCount, f_queueCount, a_tokenCount, a_tokenOp, a_tokenValue, a_scriptInUse, a_stack, a_inputCount, a_inputCoin, a_inputA, a_inputB, a_outputCount, a_outputAmount, a_outputScript, a_feeOf, a_putRow, a_parentOf, a_heightOf, a_chainWork, a_blockState, a_rewardAmount, a_rewardScript, a_blockSize, a_blockTransaction, a_laidBlock, a_coinHeight, a_coinSpent, a_transactionHeight, a_poolRow, a_marked, a_queue)) : wX_changeTop_211 post (nI n) f_transactions f_putCount f_blocks f_tip f_poolCount f_queueCount a_tokenCount a_tokenOp a_tokenValue a_scriptInUse a_stack a_inputCount a_inputCoin a_inputA a_inputB a_outputCount a_outputAmount a_outputScript a_feeOf a_putRow a_parentOf a_heightOf a_chainWork a_blockState a_rewardAmount a_rewardScript a_blockSize a_blockTransaction a_laidBlock a_coinHeight a_coinSpent a_transactionHeight a_poolRow a_marked a_queue :=
  nm_r (fx_e1 hn) h
theorem xm_change {k n : Nat} (hk : k < 4 ∨ 7 < k) (hk12 : k ≤ 12) (hn : fx_need k ≤ n) (h6 : n + fx_more k ≤ 6) (v w z : Int32) (hz : (k = 11 → z = w) ∧ (k ≠ 11 → z = v)) {post : SX → Prop} (h : post (nI (fx_do a_stack n k v w).2, f_transactions, f_putCount, f_blocks, f_tip, f_poolCount, f_queueCount, a_tokenCount, a_tokenOp, a_tokenValue, a_scriptInUse, (fx_do a_stack n k v w).1, a_inputCount, a_inputCoin, a_inputA, a_inputB, a_outputCount, a_outputAmount, a_outputScript, a_feeOf, a_putRow, a_parentOf, a_heightOf, a_chainWork, a_blockState, a_rewardAmount, a_rewardScript, a_blockSize, a_blockTransaction, a_laidBlock, a_coinHeight, a_coinSpent, a_transactionHeight, a_poolRow, a_marked, a_queue)) : wpX_changeTop post (nI n, f_transactions, f_putCount, f_blocks, f_tip, f_poolCount, f_queueCount, a_tokenCount, a_tokenOp, a_tokenValue, a_scriptInUse, a_stack, a_inputCount, a_inputCoin, a_inputA, a_inputB, a_outputCount, a_outputAmount, a_outputScript, a_feeOf, a_putRow, a_parentOf, a_heightOf, a_chainWork, a_blockState, a_rewardAmount, a_rewardScript, a_blockSize, a_blockTransaction, a_laidBlock, a_coinHeight, a_coinSpent, a_transactionHeight, a_poolRow, a_marked, a_queue) (nI k) z := by
  unfold wpX_changeTop
  dsimp only
  refine nm_e ?_
  rcases (by omega : k = 0 ∨ k = 1 ∨ k = 2 ∨ k = 3 ∨ k = 8 ∨ k = 9 ∨ k = 10 ∨ k = 11 ∨ k = 12) with rfl | rfl | rfl | rfl | rfl | rfl | rfl | rfl | rfl
  · obtain rfl := hz.2 (by decide)
    repeat (first | refine br_f (by decide) ?_ | refine br_t (by decide) ?_)
    exact xm_push (by have : fx_more 0 = 1 := rfl; omega) h
  · have e1 : nI n - 1 = nI (n - 1) := fx_e1 (by have : fx_need 1 = 1 := rfl; omega)
    have h5 : n < 6 := by have : fx_more 1 = 1 := rfl; omega
    have h0 : 1 ≤ n := by have : fx_need 1 = 1 := rfl; omega
    repeat (first | refine br_f (by decide) ?_ | refine br_t (by decide) ?_)
    exact ⟨pk_in (n - 1) 6 (by omega) e1, pk_in n 6 h5, nm_r (by rw [pk_cl n, pk_cl (n - 1) e1] <;> rfl) (nm_r (nI_1 n) h)⟩
  · repeat (first | refine br_f (by decide) ?_ | refine br_t (by decide) ?_)
    exact xm_pop (by have : fx_need 2 = 1 := rfl; omega) h
  · have h0 : 2 ≤ n := by have : fx_need 3 = 2 := rfl; omega
    have h5 : n ≤ 6 := by have : fx_more 3 = 0 := rfl; omega
    have e1 : nI n - 1 = nI (n - 1) := fx_e1 (by omega)
    have e2 : nI n - 1 - 1 = nI (n - 2) := by rw [e1, fx_e1 (by omega)]; exact congrArg nI (by omega)
    repeat (first | refine br_f (by decide) ?_ | refine br_t (by decide) ?_)
    refine ⟨pk_in (n - 1) 6 (by omega) e1, nm_r (congrArg a_stack (pk_cl (n - 1) e1)) ⟨pk_in (n - 2) 6 (by omega) e2, pk_in (n - 1) 6 (by omega) e1, nm_r (by rw [pk_cl (n - 1) e1, pk_cl (n - 2) e2]) ⟨pk_in (n - 2) 6 (by omega) e2, nm_r (by rw [pk_cl (n - 2) e2] <;> rfl) h⟩⟩⟩
  · repeat (first | refine br_f (by decide) ?_ | refine br_t (by decide) ?_)
    exact xm_pop (by have : fx_need 8 = 1 := rfl; omega) h
  · have h0 : 1 ≤ n := by have : fx_need 9 = 1 := rfl; omega
    have h5 : n ≤ 6 := by have : fx_more 9 = 0 := rfl; omega
    have e1 : nI n - 1 = nI (n - 1) := fx_e1 (by omega)
    have ec := pk_cl (n - 1) e1
    repeat (first | refine br_f (by decide) ?_ | refine br_t (by decide) ?_)
    refine ⟨pk_in (n - 1) 6 (by omega) e1, by decide, nm_r (by rw [ec]) (br_c (fun z => ⟨pk_in (n - 1) 6 (by omega) e1, nm_r (by rw [ec]) ?_⟩) (fun z => ⟨pk_in (n - 1) 6 (by omega) e1, nm_r (by rw [ec]) ?_⟩))⟩
    · have e : (fx_do a_stack n 9 v w).1 = upd a_stack (n - 1) (fx_hash (a_stack (n - 1))) := rfl
      rw [e, fx_hash, if_pos z] at h; exact h
    · have e : (fx_do a_stack n 9 v w).1 = upd a_stack (n - 1) (fx_hash (a_stack (n - 1))) := rfl
      rw [e, fx_hash, if_neg z] at h; exact h
  · repeat (first | refine br_f (by decide) ?_ | refine br_t (by decide) ?_)
    exact h
  · obtain rfl := hz.1 rfl
    repeat (first | refine br_f (by decide) ?_ | refine br_t (by decide) ?_)
    exact xm_push (by have : fx_more 11 = 1 := rfl; omega) h
  · repeat (first | refine br_f (by decide) ?_ | refine br_t (by decide) ?_)
    exact xm_pop (by have : fx_need 12 = 1 := rfl; omega) h
theorem xm_fits177 {k n : Nat} (hk : k ≤ 12) (hn : fx_need k ≤ n) (h6 : n + fx_more k ≤ 6) (v w g x1 nx i : Int32) {post : Int32 → SX → Prop} {J : Int32 → Int32 → Int32 → Int32 → Int32 → Int32 → Int32 → Int32 → Int32 → (Nat → Int32) → (Nat → Int32) → (Nat → Int32) → (Nat → Int32) → (Nat → Int32) → (Nat → Int32) → (Nat → Int32) → (Nat → Int32) → (Nat → Int32) → (Nat → Int32) → (Nat → Int32) → (Nat → Int32) → (Nat → Int32) → (Nat → Int32) → (Nat → Int32) → (Nat → Int32) → (Nat → Int32) → (Nat → Int32) → (Nat → Int32) → (Nat → Int32) → (Nat → Int32) → (Nat → Int32) → (Nat → Int32) → (Nat → Int32) → (Nat → Int32) → (Nat → Int32) → (Nat → Int32) → (Nat → Int32) → (Nat → Int32) → Prop} (h : J nx (i + 1) (nI (fx_do a_stack n k v w).2) f_transactions f_putCount f_blocks f_tip f_poolCount f_queueCount a_tokenCount a_tokenOp a_tokenValue a_scriptInUse ((fx_do a_stack n k v w).1) a_inputCount a_inputCoin a_inputA a_inputB a_outputCount a_outputAmount a_outputScript a_feeOf a_putRow a_parentOf a_heightOf a_chainWork a_blockState a_rewardAmount a_rewardScript a_blockSize a_blockTransaction a_laidBlock a_coinHeight a_coinSpent a_transactionHeight a_poolRow a_marked a_queue) : wX_fits_177 post J x1 w g nx i (nI k) v (nI n) f_transactions f_putCount f_blocks f_tip f_poolCount f_queueCount a_tokenCount a_tokenOp a_tokenValue a_scriptInUse a_stack a_inputCount a_inputCoin a_inputA a_inputB a_outputCount a_outputAmount a_outputScript a_feeOf a_putRow a_parentOf a_heightOf a_chainWork a_blockState a_rewardAmount a_rewardScript a_blockSize a_blockTransaction a_laidBlock a_coinHeight a_coinSpent a_transactionHeight a_poolRow a_marked a_queue := by
  by_cases h4 : k < 4
  · refine br_t (nI_lt (b := 4) h4 (by decide)) (pk_eq k 11 (fun e => by omega) (fun e => ?_))
    exact xm_change (Or.inl h4) hk hn h6 v w _ ⟨fun e => by omega, fun _ => rfl⟩ (nm_e h)
  · by_cases h7 : 7 < k
    · refine br_f (nI_nlt (b := 4) (Nat.le_of_not_lt h4) (by omega)) (br_t (nI_lt (a := 7) h7 (by omega)) (pk_eq k 11 (fun e => ?_) (fun e => ?_)))
      · exact xm_change (Or.inr h7) hk hn h6 v w _ ⟨fun _ => rfl, fun e' => (e' e).elim⟩ (nm_e h)
      · exact xm_change (Or.inr h7) hk hn h6 v w _ ⟨fun e' => (e e').elim, fun _ => rfl⟩ (nm_e h)
    · refine br_f (nI_nlt (b := 4) (Nat.le_of_not_lt h4) (by omega)) (br_f (nI_nlt (a := 7) (Nat.le_of_not_lt h7) (by decide)) ?_)
      have hn2 : fx_need k = 2 := by rcases (by omega : k = 4 ∨ k = 5 ∨ k = 6 ∨ k = 7) with rfl | rfl | rfl | rfl <;> rfl
      exact xm_join (by omega) (by omega) (by omega) (by omega) v w (nm_e h)
theorem xm_fits124 {k n : Nat} (hk : k ≤ 12) (hn : fx_need k ≤ n) (h6 : n + fx_more k ≤ 6) (v w g x1 nx i : Int32) {post : Int32 → SX → Prop} {J : Int32 → Int32 → Int32 → Int32 → Int32 → Int32 → Int32 → Int32 → Int32 → (Nat → Int32) → (Nat → Int32) → (Nat → Int32) → (Nat → Int32) → (Nat → Int32) → (Nat → Int32) → (Nat → Int32) → (Nat → Int32) → (Nat → Int32) → (Nat → Int32) → (Nat → Int32) → (Nat → Int32) → (Nat → Int32) → (Nat → Int32) → (Nat → Int32) → (Nat → Int32) → (Nat → Int32) → (Nat → Int32) → (Nat → Int32) → (Nat → Int32) → (Nat → Int32) → (Nat → Int32) → (Nat → Int32) → (Nat → Int32) → (Nat → Int32) → (Nat → Int32) → (Nat → Int32) → (Nat → Int32) → (Nat → Int32) → Prop}
    (h8 : k = 8 → a_stack (n - 1) = 0 → post 0 (nI n, f_transactions, f_putCount, f_blocks, f_tip, f_poolCount, f_queueCount, a_tokenCount, a_tokenOp, a_tokenValue, a_scriptInUse, a_stack, a_inputCount, a_inputCoin, a_inputA, a_inputB, a_outputCount, a_outputAmount, a_outputScript, a_feeOf, a_putRow, a_parentOf, a_heightOf, a_chainWork, a_blockState, a_rewardAmount, a_rewardScript, a_blockSize, a_blockTransaction, a_laidBlock, a_coinHeight, a_coinSpent, a_transactionHeight, a_poolRow, a_marked, a_queue))
    (h1 : k = 12 → a_stack (n - 1) = 0 → J ((i + 1) + v) (i + 1) (nI (fx_do a_stack n k v w).2) f_transactions f_putCount f_blocks f_tip f_poolCount f_queueCount a_tokenCount a_tokenOp a_tokenValue a_scriptInUse ((fx_do a_stack n k v w).1) a_inputCount a_inputCoin a_inputA a_inputB a_outputCount a_outputAmount a_outputScript a_feeOf a_putRow a_parentOf a_heightOf a_chainWork a_blockState a_rewardAmount a_rewardScript a_blockSize a_blockTransaction a_laidBlock a_coinHeight a_coinSpent a_transactionHeight a_poolRow a_marked a_queue)
    (h2 : ¬ (k = 12 ∧ a_stack (n - 1) = 0) → ¬ (k = 8 ∧ a_stack (n - 1) = 0) → J nx (i + 1) (nI (fx_do a_stack n k v w).2) f_transactions f_putCount f_blocks f_tip f_poolCount f_queueCount a_tokenCount a_tokenOp a_tokenValue a_scriptInUse ((fx_do a_stack n k v w).1) a_inputCount a_inputCoin a_inputA a_inputB a_outputCount a_outputAmount a_outputScript a_feeOf a_putRow a_parentOf a_heightOf a_chainWork a_blockState a_rewardAmount a_rewardScript a_blockSize a_blockTransaction a_laidBlock a_coinHeight a_coinSpent a_transactionHeight a_poolRow a_marked a_queue) :
    wX_fits_124 post J x1 w g nx i (nI k) v (nI n) f_transactions f_putCount f_blocks f_tip f_poolCount f_queueCount a_tokenCount a_tokenOp a_tokenValue a_scriptInUse a_stack a_inputCount a_inputCoin a_inputA a_inputB a_outputCount a_outputAmount a_outputScript a_feeOf a_putRow a_parentOf a_heightOf a_chainWork a_blockState a_rewardAmount a_rewardScript a_blockSize a_blockTransaction a_laidBlock a_coinHeight a_coinSpent a_transactionHeight a_poolRow a_marked a_queue := by
  refine pk_eq k 8 (fun e => ?_) (fun e => ?_)
  · subst e
    have hn1 : 1 ≤ n := hn
    have h5 : n ≤ 6 := h6
    have e1 : nI n - 1 = nI (n - 1) := fx_e1 (by omega)
    have ec := congrArg a_stack (pk_cl (n - 1) e1)
    refine ⟨pk_in (n - 1) 6 (by omega) e1, br_c (fun z => h8 rfl (ec ▸ z)) (fun z => br_f (by decide) (xm_fits177 hk hn h6 v w g x1 nx i (h2 (fun q => by omega) (fun q => z (ec.trans q.2)))))⟩
  · refine pk_eq k 12 (fun e => ?_) (fun e2 => ?_)
    · subst e
      have hn1 : 1 ≤ n := hn
      have h5 : n ≤ 6 := h6
      have e1 : nI n - 1 = nI (n - 1) := fx_e1 (by omega)
      have ec := congrArg a_stack (pk_cl (n - 1) e1)
      refine ⟨pk_in (n - 1) 6 (by omega) e1, br_c (fun z => nm_e (xm_fits177 hk hn h6 v w g x1 _ i (h1 rfl (ec ▸ z)))) (fun z => xm_fits177 hk hn h6 v w g x1 nx i (h2 (fun q => z (ec.trans q.2)) (fun q => by omega)))⟩
    · exact xm_fits177 hk hn h6 v w g x1 nx i (h2 (fun q => e2 q.1) (fun q => e q.1))
theorem xm_fits25 {s L : Nat} {h g : Int32} (hs : s < 8) (hL : L ≤ 8) (eL : a_tokenCount s = nI L) (hop : ∀ i, i < L → ∃ k, k ≤ 12 ∧ a_tokenOp (8 * s + i) = nI k ∧ (k = 12 → ∃ v, v ≤ 8 ∧ a_tokenValue (8 * s + i) = nI v)) {post : Int32 → SX → Prop} : ∀ (r i nx n fuel : Nat) (a : Nat → Int32), i + r = L → r < fuel → nx ≤ 20 → n ≤ 6 →
    (fx_run a_tokenOp a_tokenValue h g r (8 * s + i) (nx - i) a n → ∀ ss st, post 1 (ss, f_transactions, f_putCount, f_blocks, f_tip, f_poolCount, f_queueCount, a_tokenCount, a_tokenOp, a_tokenValue, a_scriptInUse, st, a_inputCount, a_inputCoin, a_inputA, a_inputB, a_outputCount, a_outputAmount, a_outputScript, a_feeOf, a_putRow, a_parentOf, a_heightOf, a_chainWork, a_blockState, a_rewardAmount, a_rewardScript, a_blockSize, a_blockTransaction, a_laidBlock, a_coinHeight, a_coinSpent, a_transactionHeight, a_poolRow, a_marked, a_queue)) →
    (¬ fx_run a_tokenOp a_tokenValue h g r (8 * s + i) (nx - i) a n → ∀ ss st, post 0 (ss, f_transactions, f_putCount, f_blocks, f_tip, f_poolCount, f_queueCount, a_tokenCount, a_tokenOp, a_tokenValue, a_scriptInUse, st, a_inputCount, a_inputCoin, a_inputA, a_inputB, a_outputCount, a_outputAmount, a_outputScript, a_feeOf, a_putRow, a_parentOf, a_heightOf, a_chainWork, a_blockState, a_rewardAmount, a_rewardScript, a_blockSize, a_blockTransaction, a_laidBlock, a_coinHeight, a_coinSpent, a_transactionHeight, a_poolRow, a_marked, a_queue)) →
    wX_fits_25 post (nI s) h g fuel (nI nx) (nI i) (nI n) f_transactions f_putCount f_blocks f_tip f_poolCount f_queueCount a_tokenCount a_tokenOp a_tokenValue a_scriptInUse a a_inputCount a_inputCoin a_inputA a_inputB a_outputCount a_outputAmount a_outputScript a_feeOf a_putRow a_parentOf a_heightOf a_chainWork a_blockState a_rewardAmount a_rewardScript a_blockSize a_blockTransaction a_laidBlock a_coinHeight a_coinSpent a_transactionHeight a_poolRow a_marked a_queue := by
  have ec : a_tokenCount (nI s).toNatClampNeg = nI L := by rw [nI_clamp (by omega)]; exact eL
  intro r
  induction r with
  | zero =>
    intro i nx n fuel a hi hf hx h6 H1 H0
    obtain ⟨fuel, rfl⟩ : ∃ q, fuel = q + 1 := ⟨fuel - 1, by omega⟩
    rw [fx_run] at H1 H0
    refine ⟨vp_in_nI hs (by omega), pk_le L i (fun _ => pk_le n 0 (fun hn => H0 (fun z => by omega) _ _) (fun hn => ?_)) (fun z => by omega) ec⟩
    have e1 : nI n - 1 = nI (n - 1) := fx_e1 (by omega)
    have ea := congrArg a (pk_cl (n - 1) e1)
    exact ⟨pk_in (n - 1) 6 (by omega) e1, br_c (fun z => H0 (fun q => q.2 (ea ▸ z)) _ _) (fun z => H1 ⟨hn, fun q => z (ea.trans q)⟩ _ _)⟩
  | succ r ih =>
    intro i nx n fuel a hi hf hx h6 H1 H0
    obtain ⟨fuel, rfl⟩ : ∃ q, fuel = q + 1 := ⟨fuel - 1, by omega⟩
    refine ⟨vp_in_nI hs (by omega), pk_le L i (fun z => by omega) (fun _ => pk_le nx i (fun hnx => ?_) (fun hnx => ?_)) ec⟩
    · have e0 : nx - i = 0 := by omega
      rw [e0, fx_run] at H1 H0
      obtain ⟨k, hk, ek, hv⟩ := hop i (by omega)
      have e8 : nI s * 8 + nI i = nI (8 * s + i) := by rw [show (8 : Int32) = nI 8 from rfl, pk_mul, nI_add, Nat.mul_comm]
      have e8c := pk_cl (8 * s + i) e8
      have ekc : (a_tokenOp (8 * s + i)).toNatClampNeg = k := by rw [ek]; exact nI_clamp (by omega)
      rw [ekc] at H1 H0
      refine ⟨pk_in (8 * s + i) 64 (by omega) e8, nm_r ((congrArg a_tokenOp e8c).trans ek) ⟨pk_in (8 * s + i) 64 (by omega) e8, nm_r (congrArg a_tokenValue e8c) ?_⟩⟩
      have hneed : fx_need k ≤ 2 := by unfold fx_need; split <;> omega
      have hmore : fx_more k ≤ 1 := by unfold fx_more; split <;> omega
      refine xm_need hk _ (pk_lt n (fx_need k) (fun hlt => H0 (fun q => by have := q.1; omega) _ _) (fun hge => xm_more hk _ ?_))
      refine pk_le (n + fx_more k) 6 (fun hm => ?_) (fun hm => H0 (fun q => by have := q.2.1; omega) _ _) (nI_add _ _)
      have main : ((k = 10 → a_tokenValue (8 * s + i) ≤ h - g)) → wX_fits_124 post (wX_fits_25 post (nI s) h g fuel) (nI s) h g (nI nx) (nI i) (nI k) (a_tokenValue (8 * s + i)) (nI n) f_transactions f_putCount f_blocks f_tip f_poolCount f_queueCount a_tokenCount a_tokenOp a_tokenValue a_scriptInUse a a_inputCount a_inputCoin a_inputA a_inputB a_outputCount a_outputAmount a_outputScript a_feeOf a_putRow a_parentOf a_heightOf a_chainWork a_blockState a_rewardAmount a_rewardScript a_blockSize a_blockTransaction a_laidBlock a_coinHeight a_coinSpent a_transactionHeight a_poolRow a_marked a_queue := by
        intro h10
        have hdn : (fx_do a n k (a_tokenValue (8 * s + i)) h).2 ≤ 6 := by
          unfold fx_do; unfold fx_more at hm; split <;> dsimp only at hm ⊢ <;> omega
        refine xm_fits124 hk hge hm _ _ _ _ _ _ (fun e z => H0 (fun q => q.2.2.2.1 e z) _ _) (fun e z => ?_) (fun q1 q2 => ?_)
        · obtain ⟨v, hv8, ev⟩ := hv e
          have evc : (a_tokenValue (8 * s + i)).toNatClampNeg = v := by rw [ev]; exact nI_clamp (by omega)
          rw [evc] at H1 H0
          have en : nI i + 1 + a_tokenValue (8 * s + i) = nI (i + 1 + v) := by rw [ev, nI_1, nI_add]
          rw [en, nI_1 i]
          refine ih (i + 1) (i + 1 + v) _ fuel _ (by omega) (by omega) (by omega) hdn (fun hr => H1 ⟨hge, hm, h10, fun e8 => by omega, fun _ => ?_, fun q => (q ⟨e, z⟩).elim⟩) (fun hr => H0 fun q => hr ?_)
          · have : i + 1 + v - (i + 1) = v := by omega
            rw [this] at hr; exact hr
          · have : i + 1 + v - (i + 1) = v := by omega
            rw [this]; exact q.2.2.2.2.1 ⟨e, z⟩
        · rw [nI_1 i]
          have e0' : nx - (i + 1) = 0 := by omega
          refine ih (i + 1) nx _ fuel _ (by omega) (by omega) (by omega) hdn (fun hr => H1 ⟨hge, hm, h10, fun e8 z => q2 ⟨e8, z⟩, fun q => (q1 q).elim, fun _ => ?_⟩) (fun hr => H0 fun q => hr ?_)
          · rw [e0'] at hr; exact hr
          · rw [e0']; exact q.2.2.2.2.2 q1
      exact pk_eq k 10 (fun e => br_c (fun z => main fun _ => z) (fun z => H0 (fun q => z (q.2.2.1 e)) _ _)) (fun e => main fun q => (e q).elim)
    · obtain ⟨d, hd⟩ : ∃ d, nx - i = d + 1 := ⟨nx - i - 1, by omega⟩
      rw [hd, fx_run] at H1 H0
      have ed : nx - (i + 1) = d := by omega
      refine nm_r (nI_1 i) (ih (i + 1) nx n fuel a (by omega) (by omega) hx h6 ?_ ?_)
      · rw [ed]; exact H1
      · rw [ed]; exact H0
theorem xm_fits {s : Nat} {A B h g : Int32} (hs : s < 8) (ht : fx_tok a_tokenCount a_tokenOp a_tokenValue) {post : Int32 → SX → Prop}
    (H1 : fx_fits a_tokenCount a_tokenOp a_tokenValue s A B h g → ∀ ss st, post 1 (ss, f_transactions, f_putCount, f_blocks, f_tip, f_poolCount, f_queueCount, a_tokenCount, a_tokenOp, a_tokenValue, a_scriptInUse, st, a_inputCount, a_inputCoin, a_inputA, a_inputB, a_outputCount, a_outputAmount, a_outputScript, a_feeOf, a_putRow, a_parentOf, a_heightOf, a_chainWork, a_blockState, a_rewardAmount, a_rewardScript, a_blockSize, a_blockTransaction, a_laidBlock, a_coinHeight, a_coinSpent, a_transactionHeight, a_poolRow, a_marked, a_queue))
    (H0 : ¬ fx_fits a_tokenCount a_tokenOp a_tokenValue s A B h g → ∀ ss st, post 0 (ss, f_transactions, f_putCount, f_blocks, f_tip, f_poolCount, f_queueCount, a_tokenCount, a_tokenOp, a_tokenValue, a_scriptInUse, st, a_inputCount, a_inputCoin, a_inputA, a_inputB, a_outputCount, a_outputAmount, a_outputScript, a_feeOf, a_putRow, a_parentOf, a_heightOf, a_chainWork, a_blockState, a_rewardAmount, a_rewardScript, a_blockSize, a_blockTransaction, a_laidBlock, a_coinHeight, a_coinSpent, a_transactionHeight, a_poolRow, a_marked, a_queue)) :
    wpX_fits post (f_stackSize, f_transactions, f_putCount, f_blocks, f_tip, f_poolCount, f_queueCount, a_tokenCount, a_tokenOp, a_tokenValue, a_scriptInUse, a_stack, a_inputCount, a_inputCoin, a_inputA, a_inputB, a_outputCount, a_outputAmount, a_outputScript, a_feeOf, a_putRow, a_parentOf, a_heightOf, a_chainWork, a_blockState, a_rewardAmount, a_rewardScript, a_blockSize, a_blockTransaction, a_laidBlock, a_coinHeight, a_coinSpent, a_transactionHeight, a_poolRow, a_marked, a_queue) (nI s) A B h g := by
  obtain ⟨L, hL, eL, hop⟩ := ht s hs
  have eLc : (a_tokenCount s).toNatClampNeg = L := by rw [eL]; exact nI_clamp (by omega)
  rw [← fx_fits_of _ _ _ a_stack, eLc] at H1 H0
  exact nm_e (nm_e ⟨L + 1, xm_fits25 hs hL eL hop L 0 0 2 (L + 1) _ (by omega) (by omega) (by omega) (by omega) H1 H0⟩)
end

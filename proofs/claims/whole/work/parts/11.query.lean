/-! which transactions have which coins -/
def pd_needs (D : pd_D) (t u : Nat) : Prop := ∃ i, i < (pd_ic D t).toNatClampNeg ∧ (pd_co D (3 * t + i)).toNatClampNeg < 120 ∧ (pd_co D (3 * t + i)).toNatClampNeg / 3 = u
def pd_share (D : pd_D) (t u : Nat) : Prop := ∃ i j, i < (pd_ic D t).toNatClampNeg ∧ j < (pd_ic D u).toNatClampNeg ∧ pd_co D (3 * t + i) = pd_co D (3 * u + j)
theorem pd_ag_needs {D E : pd_D} {made blocks t u : Nat} (a : pd_ag D E made blocks) (ht : t < made) : pd_needs E t u ↔ pd_needs D t u := by
  obtain ⟨e1, _, _, e4, _⟩ := a.1 _ ht
  unfold pd_needs
  rw [e1]
  refine exists_congr fun i => and_congr_right fun hi => ?_
  rw [(e4 i hi).1]
theorem pd_ag_share {D E : pd_D} {made blocks t u : Nat} (a : pd_ag D E made blocks) (ht : t < made) (hu : u < made) : pd_share E t u ↔ pd_share D t u := by
  obtain ⟨e1, _, _, e4, _⟩ := a.1 _ ht
  obtain ⟨f1, _, _, f4, _⟩ := a.1 _ hu
  unfold pd_share
  rw [e1, f1]
  refine exists_congr fun i => exists_congr fun j => and_congr_right fun hi => and_congr_right fun hj => ?_
  rw [(e4 i hi).1, (f4 j hj).1]
theorem pd_view {D : pd_D} {made blocks t : Nat} (w : pd_wf D made blocks) (ht : t < made) : ∃ n, n ≤ 3 ∧ pd_ic D t = nI n ∧ (pd_ic D t).toNatClampNeg = n ∧ ∀ i, i < n → ∃ c, c < 152 ∧ pd_co D (3 * t + i) = nI c := by
  obtain ⟨n, m, _, hn, _, hm3, en, em, hc, _⟩ := w.2.2.2.2.1 _ ht
  refine ⟨n, hn, en, pd_cl en (by omega), fun i hi => ?_⟩
  obtain ⟨c, h1, h2, _⟩ := hc i hi
  exact ⟨c, h1, h2⟩
section
variable {f_stackSize f_transactions f_putCount f_blocks f_tip f_poolCount f_queueCount : Int32} {a_tokenCount a_tokenOp a_tokenValue a_scriptInUse a_stack a_inputCount a_inputCoin a_inputA a_inputB a_outputCount a_outputAmount a_outputScript a_feeOf a_putRow a_parentOf a_heightOf a_chainWork a_blockState a_rewardAmount a_rewardScript a_blockSize a_blockTransaction a_laidBlock a_coinHeight a_coinSpent a_transactionHeight a_poolRow a_marked a_queue : Nat → Int32}
theorem xq_hasInput {t n : Nat} {x : Int32} (ht : t < 41) (hn : n ≤ 3) (en : a_inputCount t = nI n) {post : Int32 → Prop} (H1 : (∃ i, i < n ∧ a_inputCoin (3 * t + i) = x) → post 1) (H0 : ¬ (∃ i, i < n ∧ a_inputCoin (3 * t + i) = x) → post 0) : wpX_hasInput post (f_stackSize, f_transactions, f_putCount, f_blocks, f_tip, f_poolCount, f_queueCount, a_tokenCount, a_tokenOp, a_tokenValue, a_scriptInUse, a_stack, a_inputCount, a_inputCoin, a_inputA, a_inputB, a_outputCount, a_outputAmount, a_outputScript, a_feeOf, a_putRow, a_parentOf, a_heightOf, a_chainWork, a_blockState, a_rewardAmount, a_rewardScript, a_blockSize, a_blockTransaction, a_laidBlock, a_coinHeight, a_coinSpent, a_transactionHeight, a_poolRow, a_marked, a_queue) (nI t) x := by
  have enc : a_inputCount (nI t).toNatClampNeg = nI n := by rw [pk_cl t]; exact en
  have key : ∀ (d i fuel : Nat), i + d = n → d < fuel → (∀ k, k < i → a_inputCoin (3 * t + k) ≠ x) → wX_hasInput_2 post (nI t) x f_stackSize f_transactions f_putCount f_blocks f_tip f_poolCount f_queueCount a_tokenCount a_tokenOp a_tokenValue a_scriptInUse a_stack a_inputCount a_inputCoin a_inputA a_inputB a_outputCount a_outputAmount a_outputScript a_feeOf a_putRow a_parentOf a_heightOf a_chainWork a_blockState a_rewardAmount a_rewardScript a_blockSize a_blockTransaction a_laidBlock a_coinHeight a_coinSpent a_transactionHeight a_poolRow a_marked a_queue fuel (nI i) := by
    intro d
    induction d with
    | zero =>
      intro i fuel hi hf hk
      obtain ⟨fuel, rfl⟩ : ∃ q, fuel = q + 1 := ⟨fuel - 1, by omega⟩
      obtain rfl : i = n := by omega
      exact ⟨pk_in t 41 ht, br_t (by rw [enc]; exact nI_le (Nat.le_refl _) (by omega)) (H0 fun ⟨k, h1, h2⟩ => hk k h1 h2)⟩
    | succ d ih =>
      intro i fuel hi hf hk
      obtain ⟨fuel, rfl⟩ : ∃ q, fuel = q + 1 := ⟨fuel - 1, by omega⟩
      refine ⟨pk_in t 41 ht, pk_le n i (fun z => by omega) (fun z => ⟨pk_in (3 * t + i) 123 (by omega) (xb_3 t i), ?_⟩) enc⟩
      rw [pk_cl (3 * t + i) (xb_3 t i)]
      refine br_c (fun q => H1 ⟨i, by omega, q⟩) (fun q => nm_r (nI_1 i) (ih (i + 1) fuel (by omega) (by omega) fun k hk' => ?_))
      by_cases e : k = i
      · rw [e]; exact q
      · exact hk k (by omega)
  exact ⟨n + 1, key n 0 (n + 1) (by omega) (by omega) (fun k hk => by omega)⟩
theorem xq_needs {made blocks t u : Nat} (w : pd_wf (a_tokenCount, a_tokenOp, a_tokenValue, a_inputCount, a_inputCoin, a_inputA, a_inputB, a_outputCount, a_outputAmount, a_outputScript, a_parentOf, a_heightOf, a_rewardScript, a_blockSize, a_blockTransaction, a_feeOf, a_rewardAmount) made blocks) (ht : t < made) (hu : u < 40) {post : Int32 → Prop} (H1 : pd_needs (a_tokenCount, a_tokenOp, a_tokenValue, a_inputCount, a_inputCoin, a_inputA, a_inputB, a_outputCount, a_outputAmount, a_outputScript, a_parentOf, a_heightOf, a_rewardScript, a_blockSize, a_blockTransaction, a_feeOf, a_rewardAmount) t u → post 1) (H0 : ¬ pd_needs (a_tokenCount, a_tokenOp, a_tokenValue, a_inputCount, a_inputCoin, a_inputA, a_inputB, a_outputCount, a_outputAmount, a_outputScript, a_parentOf, a_heightOf, a_rewardScript, a_blockSize, a_blockTransaction, a_feeOf, a_rewardAmount) t u → post 0) : wpX_hasOutputOf post (f_stackSize, f_transactions, f_putCount, f_blocks, f_tip, f_poolCount, f_queueCount, a_tokenCount, a_tokenOp, a_tokenValue, a_scriptInUse, a_stack, a_inputCount, a_inputCoin, a_inputA, a_inputB, a_outputCount, a_outputAmount, a_outputScript, a_feeOf, a_putRow, a_parentOf, a_heightOf, a_chainWork, a_blockState, a_rewardAmount, a_rewardScript, a_blockSize, a_blockTransaction, a_laidBlock, a_coinHeight, a_coinSpent, a_transactionHeight, a_poolRow, a_marked, a_queue) (nI t) (nI u) := by
  have hm := w.2.2.1
  obtain ⟨n, hn, en, enk, hc⟩ := pd_view w ht
  have enc : a_inputCount (nI t).toNatClampNeg = nI n := by rw [pk_cl t]; exact en
  unfold pd_needs at H1 H0
  rw [enk] at H1 H0
  have key : ∀ (d i fuel : Nat), i + d = n → d < fuel → (∀ k, k < i → ¬ ((pd_co (a_tokenCount, a_tokenOp, a_tokenValue, a_inputCount, a_inputCoin, a_inputA, a_inputB, a_outputCount, a_outputAmount, a_outputScript, a_parentOf, a_heightOf, a_rewardScript, a_blockSize, a_blockTransaction, a_feeOf, a_rewardAmount) (3 * t + k)).toNatClampNeg < 120 ∧ (pd_co (a_tokenCount, a_tokenOp, a_tokenValue, a_inputCount, a_inputCoin, a_inputA, a_inputB, a_outputCount, a_outputAmount, a_outputScript, a_parentOf, a_heightOf, a_rewardScript, a_blockSize, a_blockTransaction, a_feeOf, a_rewardAmount) (3 * t + k)).toNatClampNeg / 3 = u)) → wX_hasOutputOf_2 post (nI t) (nI u) f_stackSize f_transactions f_putCount f_blocks f_tip f_poolCount f_queueCount a_tokenCount a_tokenOp a_tokenValue a_scriptInUse a_stack a_inputCount a_inputCoin a_inputA a_inputB a_outputCount a_outputAmount a_outputScript a_feeOf a_putRow a_parentOf a_heightOf a_chainWork a_blockState a_rewardAmount a_rewardScript a_blockSize a_blockTransaction a_laidBlock a_coinHeight a_coinSpent a_transactionHeight a_poolRow a_marked a_queue fuel (nI i) := by
    intro d
    induction d with
    | zero =>
      intro i fuel hi hf hk
      obtain ⟨fuel, rfl⟩ : ∃ q, fuel = q + 1 := ⟨fuel - 1, by omega⟩
      obtain rfl : i = n := by omega
      exact ⟨pk_in t 41 (by omega), br_t (by rw [enc]; exact nI_le (Nat.le_refl _) (by omega)) (H0 fun ⟨k, h1, h2⟩ => hk k h1 h2)⟩
    | succ d ih =>
      intro i fuel hi hf hk
      obtain ⟨fuel, rfl⟩ : ∃ q, fuel = q + 1 := ⟨fuel - 1, by omega⟩
      obtain ⟨c, hc1, hc2⟩ := hc i (by omega)
      have ecc : (pd_co (a_tokenCount, a_tokenOp, a_tokenValue, a_inputCount, a_inputCoin, a_inputA, a_inputB, a_outputCount, a_outputAmount, a_outputScript, a_parentOf, a_heightOf, a_rewardScript, a_blockSize, a_blockTransaction, a_feeOf, a_rewardAmount) (3 * t + i)).toNatClampNeg = c := pd_cl hc2 (by omega)
      have nxt : ¬ (c < 120 ∧ c / 3 = u) → wX_hasOutputOf_2 post (nI t) (nI u) f_stackSize f_transactions f_putCount f_blocks f_tip f_poolCount f_queueCount a_tokenCount a_tokenOp a_tokenValue a_scriptInUse a_stack a_inputCount a_inputCoin a_inputA a_inputB a_outputCount a_outputAmount a_outputScript a_feeOf a_putRow a_parentOf a_heightOf a_chainWork a_blockState a_rewardAmount a_rewardScript a_blockSize a_blockTransaction a_laidBlock a_coinHeight a_coinSpent a_transactionHeight a_poolRow a_marked a_queue fuel (nI (i + 1)) := fun q => ih (i + 1) fuel (by omega) (by omega) fun k hk' => by
        by_cases e : k = i
        · subst e; rw [ecc]; exact q
        · exact hk k (by omega)
      refine ⟨pk_in t 41 (by omega), pk_le n i (fun z => by omega) (fun z => ⟨pk_in (3 * t + i) 123 (by omega) (xb_3 t i), nm_r ((congrArg a_inputCoin (pk_cl (3 * t + i) (xb_3 t i))).trans hc2) ?_⟩) enc⟩
      refine pk_le 120 c (fun z1 => nm_r (nI_1 i) (nxt fun q => by omega)) (fun z1 => ⟨by decide, pk_eq (c / 3) u (fun e => H1 ⟨i, by omega, by rw [ecc]; exact ⟨z1, e⟩⟩) (fun e => nm_r (nI_1 i) (nxt fun q => e q.2)) (xb_d3 hc1)⟩)
  exact ⟨n + 1, key n 0 (n + 1) (by omega) (by omega) (fun k hk => by omega)⟩
theorem xq_share {made blocks t u : Nat} (w : pd_wf (a_tokenCount, a_tokenOp, a_tokenValue, a_inputCount, a_inputCoin, a_inputA, a_inputB, a_outputCount, a_outputAmount, a_outputScript, a_parentOf, a_heightOf, a_rewardScript, a_blockSize, a_blockTransaction, a_feeOf, a_rewardAmount) made blocks) (ht : t < made) (hu : u < made) {post : Int32 → Prop} (H1 : pd_share (a_tokenCount, a_tokenOp, a_tokenValue, a_inputCount, a_inputCoin, a_inputA, a_inputB, a_outputCount, a_outputAmount, a_outputScript, a_parentOf, a_heightOf, a_rewardScript, a_blockSize, a_blockTransaction, a_feeOf, a_rewardAmount) t u → post 1) (H0 : ¬ pd_share (a_tokenCount, a_tokenOp, a_tokenValue, a_inputCount, a_inputCoin, a_inputA, a_inputB, a_outputCount, a_outputAmount, a_outputScript, a_parentOf, a_heightOf, a_rewardScript, a_blockSize, a_blockTransaction, a_feeOf, a_rewardAmount) t u → post 0) : wpX_sharesInput post (f_stackSize, f_transactions, f_putCount, f_blocks, f_tip, f_poolCount, f_queueCount, a_tokenCount, a_tokenOp, a_tokenValue, a_scriptInUse, a_stack, a_inputCount, a_inputCoin, a_inputA, a_inputB, a_outputCount, a_outputAmount, a_outputScript, a_feeOf, a_putRow, a_parentOf, a_heightOf, a_chainWork, a_blockState, a_rewardAmount, a_rewardScript, a_blockSize, a_blockTransaction, a_laidBlock, a_coinHeight, a_coinSpent, a_transactionHeight, a_poolRow, a_marked, a_queue) (nI t) (nI u) := by
  have hm := w.2.2.1
  obtain ⟨n, hn, en, enk, hc⟩ := pd_view w ht
  obtain ⟨n', hn', en', enk', hc'⟩ := pd_view w hu
  have enc : a_inputCount (nI t).toNatClampNeg = nI n := by rw [pk_cl t]; exact en
  unfold pd_share at H1 H0
  rw [enk, enk'] at H1 H0
  have key : ∀ (d i fuel : Nat), i + d = n → d < fuel → (∀ k, k < i → ¬ ∃ j, j < n' ∧ a_inputCoin (3 * u + j) = a_inputCoin (3 * t + k)) → wX_sharesInput_2 post (nI t) (nI u) f_stackSize f_transactions f_putCount f_blocks f_tip f_poolCount f_queueCount a_tokenCount a_tokenOp a_tokenValue a_scriptInUse a_stack a_inputCount a_inputCoin a_inputA a_inputB a_outputCount a_outputAmount a_outputScript a_feeOf a_putRow a_parentOf a_heightOf a_chainWork a_blockState a_rewardAmount a_rewardScript a_blockSize a_blockTransaction a_laidBlock a_coinHeight a_coinSpent a_transactionHeight a_poolRow a_marked a_queue fuel (nI i) := by
    intro d
    induction d with
    | zero =>
      intro i fuel hi hf hk
      obtain ⟨fuel, rfl⟩ : ∃ q, fuel = q + 1 := ⟨fuel - 1, by omega⟩
      obtain rfl : i = n := by omega
      exact ⟨pk_in t 41 (by omega), br_t (by rw [enc]; exact nI_le (Nat.le_refl _) (by omega)) (H0 fun ⟨k, j, h1, h2, h3⟩ => hk k h1 ⟨j, h2, h3.symm⟩)⟩
    | succ d ih =>
      intro i fuel hi hf hk
      obtain ⟨fuel, rfl⟩ : ∃ q, fuel = q + 1 := ⟨fuel - 1, by omega⟩
      refine ⟨pk_in t 41 (by omega), pk_le n i (fun z => by omega) (fun z => ⟨pk_in (3 * t + i) 123 (by omega) (xb_3 t i), ?_⟩) enc⟩
      rw [pk_cl (3 * t + i) (xb_3 t i)]
      refine xq_hasInput (by omega) hn' en' (fun q => ?_) (fun q => br_t rfl (nm_r (nI_1 i) (ih (i + 1) fuel (by omega) (by omega) fun k hk' => ?_)))
      · obtain ⟨j, h1, h2⟩ := q
        exact br_f (by decide) (H1 ⟨i, j, by omega, h1, h2.symm⟩)
      · by_cases e : k = i
        · rw [e]; exact q
        · exact hk k (by omega)
  exact ⟨n + 1, key n 0 (n + 1) (by omega) (by omega) (fun k hk => by omega)⟩
end
section
variable {g_made g_blocks g_arrivals g_tip g_pooled g_chainLength : Int32} {b_op b_arg b_length b_ins b_inCoin b_inA b_inB b_outs b_amount b_lock b_parent b_work b_rewardLock b_height b_many b_holds b_delivered b_arrived b_pool b_chain b_from b_worth b_within b_spent b_stack b_again b_chosen gfe grw : Nat → Int32}
theorem yq_pooled {np : Nat} (hnp : np ≤ 12) (ep : g_pooled = nI np) {x : Int32} {post : Int32 → Prop} (H1 : (∃ k, k < np ∧ b_pool k = x) → post 1) (H0 : ¬ (∃ k, k < np ∧ b_pool k = x) → post 0) : wpY_isPooled post (g_made, g_blocks, g_arrivals, g_tip, g_pooled, g_chainLength, b_op, b_arg, b_length, b_ins, b_inCoin, b_inA, b_inB, b_outs, b_amount, b_lock, b_parent, b_work, b_rewardLock, b_height, b_many, b_holds, b_delivered, b_arrived, b_pool, b_chain, b_from, b_worth, b_within, b_spent, b_stack, b_again, b_chosen) x := by
  subst ep
  have key : ∀ (d i fuel : Nat), i + d = np → d < fuel → (∀ k, k < i → b_pool k ≠ x) → wY_isPooled_2 post x g_made g_blocks g_arrivals g_tip (nI np) g_chainLength b_op b_arg b_length b_ins b_inCoin b_inA b_inB b_outs b_amount b_lock b_parent b_work b_rewardLock b_height b_many b_holds b_delivered b_arrived b_pool b_chain b_from b_worth b_within b_spent b_stack b_again b_chosen fuel (nI i) := by
    intro d
    induction d with
    | zero =>
      intro i fuel hi hf hk
      obtain ⟨fuel, rfl⟩ : ∃ q, fuel = q + 1 := ⟨fuel - 1, by omega⟩
      obtain rfl : i = np := by omega
      exact br_t (nI_le (Nat.le_refl _) (by omega)) (H0 fun ⟨k, h1, h2⟩ => hk k h1 h2)
    | succ d ih =>
      intro i fuel hi hf hk
      obtain ⟨fuel, rfl⟩ : ∃ q, fuel = q + 1 := ⟨fuel - 1, by omega⟩
      refine pk_le np i (fun z => by omega) (fun z => ⟨pk_in i 12 (by omega), ?_⟩)
      rw [pk_cl i]
      refine br_c (fun q => H1 ⟨i, by omega, q⟩) (fun q => nm_r (nI_1 i) (ih (i + 1) fuel (by omega) (by omega) fun k hk' => ?_))
      by_cases e : k = i
      · rw [e]; exact q
      · exact hk k (by omega)
  exact ⟨np + 1, key np 0 (np + 1) (by omega) (by omega) (fun k hk => by omega)⟩
theorem yq_needs {made blocks t u : Nat} (w : pd_wf (b_length, b_op, b_arg, b_ins, b_inCoin, b_inA, b_inB, b_outs, b_amount, b_lock, b_parent, b_height, b_rewardLock, b_many, b_holds, gfe, grw) made blocks) (ht : t < made) (hu : u < 40) {post : Int32 → Prop} (H1 : pd_needs (b_length, b_op, b_arg, b_ins, b_inCoin, b_inA, b_inB, b_outs, b_amount, b_lock, b_parent, b_height, b_rewardLock, b_many, b_holds, gfe, grw) t u → post 1) (H0 : ¬ pd_needs (b_length, b_op, b_arg, b_ins, b_inCoin, b_inA, b_inB, b_outs, b_amount, b_lock, b_parent, b_height, b_rewardLock, b_many, b_holds, gfe, grw) t u → post 0) : wpY_needs post (g_made, g_blocks, g_arrivals, g_tip, g_pooled, g_chainLength, b_op, b_arg, b_length, b_ins, b_inCoin, b_inA, b_inB, b_outs, b_amount, b_lock, b_parent, b_work, b_rewardLock, b_height, b_many, b_holds, b_delivered, b_arrived, b_pool, b_chain, b_from, b_worth, b_within, b_spent, b_stack, b_again, b_chosen) (nI t) (nI u) := by
  have hm := w.2.2.1
  obtain ⟨n, hn, en, enk, hc⟩ := pd_view w ht
  have en' : b_ins t = nI n := en
  have e3 : 3 * nI t + b_ins (nI t).toNatClampNeg = nI (3 * t + n) := by rw [pk_cl t, en']; exact yb_3 t n
  unfold pd_needs at H1 H0
  rw [enk] at H1 H0
  have key : ∀ (d i fuel : Nat), i + d = n → d < fuel → (∀ k, k < i → ¬ ((pd_co (b_length, b_op, b_arg, b_ins, b_inCoin, b_inA, b_inB, b_outs, b_amount, b_lock, b_parent, b_height, b_rewardLock, b_many, b_holds, gfe, grw) (3 * t + k)).toNatClampNeg < 120 ∧ (pd_co (b_length, b_op, b_arg, b_ins, b_inCoin, b_inA, b_inB, b_outs, b_amount, b_lock, b_parent, b_height, b_rewardLock, b_many, b_holds, gfe, grw) (3 * t + k)).toNatClampNeg / 3 = u)) → wY_needs_4 post (nI t) (nI u) g_made g_blocks g_arrivals g_tip g_pooled g_chainLength b_op b_arg b_length b_ins b_inCoin b_inA b_inB b_outs b_amount b_lock b_parent b_work b_rewardLock b_height b_many b_holds b_delivered b_arrived b_pool b_chain b_from b_worth b_within b_spent b_stack b_again b_chosen fuel (nI (3 * t + i)) := by
    intro d
    induction d with
    | zero =>
      intro i fuel hi hf hk
      obtain ⟨fuel, rfl⟩ : ∃ q, fuel = q + 1 := ⟨fuel - 1, by omega⟩
      obtain rfl : i = n := by omega
      exact ⟨pk_in t 41 (by omega), br_t (by rw [e3]; exact nI_le (Nat.le_refl _) (by omega)) (H0 fun ⟨k, h1, h2⟩ => hk k h1 h2)⟩
    | succ d ih =>
      intro i fuel hi hf hk
      obtain ⟨fuel, rfl⟩ : ∃ q, fuel = q + 1 := ⟨fuel - 1, by omega⟩
      obtain ⟨c, hc1, hc2⟩ := hc i (by omega)
      have ecc : (pd_co (b_length, b_op, b_arg, b_ins, b_inCoin, b_inA, b_inB, b_outs, b_amount, b_lock, b_parent, b_height, b_rewardLock, b_many, b_holds, gfe, grw) (3 * t + i)).toNatClampNeg = c := pd_cl hc2 (by omega)
      have nxt : ¬ (c < 120 ∧ c / 3 = u) → wY_needs_4 post (nI t) (nI u) g_made g_blocks g_arrivals g_tip g_pooled g_chainLength b_op b_arg b_length b_ins b_inCoin b_inA b_inB b_outs b_amount b_lock b_parent b_work b_rewardLock b_height b_many b_holds b_delivered b_arrived b_pool b_chain b_from b_worth b_within b_spent b_stack b_again b_chosen fuel (nI (3 * t + i + 1)) := fun q => ih (i + 1) fuel (by omega) (by omega) fun k hk' => by
        by_cases e : k = i
        · subst e; rw [ecc]; exact q
        · exact hk k (by omega)
      have ex : b_inCoin (nI (3 * t + i)).toNatClampNeg = nI c := (congrArg b_inCoin (pk_cl (3 * t + i))).trans hc2
      refine ⟨pk_in t 41 (by omega), pk_le (3 * t + n) (3 * t + i) (fun z => by omega) (fun z => ⟨pk_in (3 * t + i) 123 (by omega), ?_⟩) e3⟩
      rw [ex]
      refine pk_le 120 c (fun z1 => nm_r (nI_1 (3 * t + i)) (nxt fun q => by omega)) (fun z1 => ⟨pk_in (3 * t + i) 123 (by omega), by decide, pk_eq (c / 3) u (fun e => H1 ⟨i, by omega, by rw [ecc]; exact ⟨z1, e⟩⟩) (fun e => nm_r (nI_1 (3 * t + i)) (nxt fun q => e q.2)) (xb_d3 hc1)⟩)
  exact nm_r (yb_30 t) ⟨n + 1, key n 0 (n + 1) (by omega) (by omega) (fun k hk => by omega)⟩
theorem yq_share {made blocks t u : Nat} (w : pd_wf (b_length, b_op, b_arg, b_ins, b_inCoin, b_inA, b_inB, b_outs, b_amount, b_lock, b_parent, b_height, b_rewardLock, b_many, b_holds, gfe, grw) made blocks) (ht : t < made) (hu : u < made) {post : Int32 → Prop} (H1 : pd_share (b_length, b_op, b_arg, b_ins, b_inCoin, b_inA, b_inB, b_outs, b_amount, b_lock, b_parent, b_height, b_rewardLock, b_many, b_holds, gfe, grw) t u → post 1) (H0 : ¬ pd_share (b_length, b_op, b_arg, b_ins, b_inCoin, b_inA, b_inB, b_outs, b_amount, b_lock, b_parent, b_height, b_rewardLock, b_many, b_holds, gfe, grw) t u → post 0) : wpY_share post (g_made, g_blocks, g_arrivals, g_tip, g_pooled, g_chainLength, b_op, b_arg, b_length, b_ins, b_inCoin, b_inA, b_inB, b_outs, b_amount, b_lock, b_parent, b_work, b_rewardLock, b_height, b_many, b_holds, b_delivered, b_arrived, b_pool, b_chain, b_from, b_worth, b_within, b_spent, b_stack, b_again, b_chosen) (nI t) (nI u) := by
  have hm := w.2.2.1
  obtain ⟨n, hn, en, enk, hc⟩ := pd_view w ht
  obtain ⟨n', hn', en2, enk', hc'⟩ := pd_view w hu
  have en' : b_ins t = nI n := en
  have en2' : b_ins u = nI n' := en2
  have e3 : 3 * nI t + b_ins (nI t).toNatClampNeg = nI (3 * t + n) := by rw [pk_cl t, en']; exact yb_3 t n
  have e3' : 3 * nI u + b_ins (nI u).toNatClampNeg = nI (3 * u + n') := by rw [pk_cl u, en2']; exact yb_3 u n'
  unfold pd_share at H1 H0
  rw [enk, enk'] at H1 H0
  have inner : ∀ (J : Int32 → Prop) (i : Nat), i < n → ((¬ ∃ j, j < n' ∧ b_inCoin (3 * t + i) = b_inCoin (3 * u + j)) → J (nI (3 * t + i + 1))) → ∀ (d j fuel : Nat), j + d = n' → d < fuel → (∀ k, k < j → b_inCoin (3 * t + i) ≠ b_inCoin (3 * u + k)) → wY_share_23 post J (nI t) (nI u) (nI (3 * t + i)) g_made g_blocks g_arrivals g_tip g_pooled g_chainLength b_op b_arg b_length b_ins b_inCoin b_inA b_inB b_outs b_amount b_lock b_parent b_work b_rewardLock b_height b_many b_holds b_delivered b_arrived b_pool b_chain b_from b_worth b_within b_spent b_stack b_again b_chosen fuel (nI (3 * u + j)) := by
    intro J i hi HJ d
    induction d with
    | zero =>
      intro j fuel hj hf hk
      obtain ⟨fuel, rfl⟩ : ∃ q, fuel = q + 1 := ⟨fuel - 1, by omega⟩
      obtain rfl : j = n' := by omega
      exact ⟨pk_in u 41 (by omega), br_t (by rw [e3']; exact nI_le (Nat.le_refl _) (by omega)) (nm_r (nI_1 (3 * t + i)) (HJ fun ⟨k, h1, h2⟩ => hk k h1 h2))⟩
    | succ d ih =>
      intro j fuel hj hf hk
      obtain ⟨fuel, rfl⟩ : ∃ q, fuel = q + 1 := ⟨fuel - 1, by omega⟩
      refine ⟨pk_in u 41 (by omega), pk_le (3 * u + n') (3 * u + j) (fun z => by omega) (fun z => ⟨pk_in (3 * t + i) 123 (by omega), pk_in (3 * u + j) 123 (by omega), ?_⟩) e3'⟩
      rw [pk_cl (x := nI (3 * t + i)) (3 * t + i), pk_cl (x := nI (3 * u + j)) (3 * u + j)]
      refine br_c (fun q => H1 ⟨i, j, hi, by omega, q⟩) (fun q => nm_r (nI_1 (3 * u + j)) (ih (j + 1) fuel (by omega) (by omega) fun k hk' => ?_))
      by_cases e : k = j
      · rw [e]; exact q
      · exact hk k (by omega)
  have key : ∀ (d i fuel : Nat), i + d = n → d < fuel → (∀ k, k < i → ¬ ∃ j, j < n' ∧ b_inCoin (3 * t + k) = b_inCoin (3 * u + j)) → wY_share_4 post (nI t) (nI u) g_made g_blocks g_arrivals g_tip g_pooled g_chainLength b_op b_arg b_length b_ins b_inCoin b_inA b_inB b_outs b_amount b_lock b_parent b_work b_rewardLock b_height b_many b_holds b_delivered b_arrived b_pool b_chain b_from b_worth b_within b_spent b_stack b_again b_chosen fuel (nI (3 * t + i)) := by
    intro d
    induction d with
    | zero =>
      intro i fuel hi hf hk
      obtain ⟨fuel, rfl⟩ : ∃ q, fuel = q + 1 := ⟨fuel - 1, by omega⟩
      obtain rfl : i = n := by omega
      exact ⟨pk_in t 41 (by omega), br_t (by rw [e3]; exact nI_le (Nat.le_refl _) (by omega)) (H0 fun ⟨k, j, h1, h2, h3⟩ => hk k h1 ⟨j, h2, h3⟩)⟩
    | succ d ih =>
      intro i fuel hi hf hk
      obtain ⟨fuel, rfl⟩ : ∃ q, fuel = q + 1 := ⟨fuel - 1, by omega⟩
      refine ⟨pk_in t 41 (by omega), pk_le (3 * t + n) (3 * t + i) (fun z => by omega) (fun z => nm_r (yb_30 u) ⟨n' + 1, inner _ i (by omega) (fun q => ih (i + 1) fuel (by omega) (by omega) fun k hk' => ?_) n' 0 (n' + 1) (by omega) (by omega) (fun k hk => by omega)⟩) e3⟩
      by_cases e : k = i
      · rw [e]; exact q
      · exact hk k (by omega)
  exact nm_r (yb_30 t) ⟨n + 1, key n 0 (n + 1) (by omega) (by omega) (fun k hk => by omega)⟩
theorem yq_fee {made blocks t : Nat} (w : pd_wf (b_length, b_op, b_arg, b_ins, b_inCoin, b_inA, b_inB, b_outs, b_amount, b_lock, b_parent, b_height, b_rewardLock, b_many, b_holds, gfe, grw) made blocks) (fq : pd_feq (b_length, b_op, b_arg, b_ins, b_inCoin, b_inA, b_inB, b_outs, b_amount, b_lock, b_parent, b_height, b_rewardLock, b_many, b_holds, gfe, grw) made) (ht : t < made) (hw : ∀ i, i < (pd_ic (b_length, b_op, b_arg, b_ins, b_inCoin, b_inA, b_inB, b_outs, b_amount, b_lock, b_parent, b_height, b_rewardLock, b_many, b_holds, gfe, grw) t).toNatClampNeg → 120 ≤ (b_inCoin (3 * t + i)).toNatClampNeg → b_worth (b_inCoin (3 * t + i)).toNatClampNeg = grw ((b_inCoin (3 * t + i)).toNatClampNeg - 120)) {post : Int32 → Prop} (H : post (gfe t)) : wpY_feeOf post (g_made, g_blocks, g_arrivals, g_tip, g_pooled, g_chainLength, b_op, b_arg, b_length, b_ins, b_inCoin, b_inA, b_inB, b_outs, b_amount, b_lock, b_parent, b_work, b_rewardLock, b_height, b_many, b_holds, b_delivered, b_arrived, b_pool, b_chain, b_from, b_worth, b_within, b_spent, b_stack, b_again, b_chosen) (nI t) := by
  have hmd := w.2.2.1
  obtain ⟨n, m, _, hn, _, hm3, en, em, hc, _⟩ := w.2.2.2.2.1 _ ht
  have en' : b_ins t = nI n := en
  have em' : b_outs t = nI m := em
  have enc : (pd_ic (b_length, b_op, b_arg, b_ins, b_inCoin, b_inA, b_inB, b_outs, b_amount, b_lock, b_parent, b_height, b_rewardLock, b_many, b_holds, gfe, grw) t).toNatClampNeg = n := pd_cl en (by omega)
  have emc : (pd_oc (b_length, b_op, b_arg, b_ins, b_inCoin, b_inA, b_inB, b_outs, b_amount, b_lock, b_parent, b_height, b_rewardLock, b_many, b_holds, gfe, grw) t).toNatClampNeg = m := pd_cl em (by omega)
  have e3 : 3 * nI t + b_ins (nI t).toNatClampNeg = nI (3 * t + n) := by rw [pk_cl t, en']; exact yb_3 t n
  have e3' : 3 * nI t + b_outs (nI t).toNatClampNeg = nI (3 * t + m) := by rw [pk_cl t, em']; exact yb_3 t m
  have efe : gfe t = pd_sout (pd_sin (pd_amt (b_length, b_op, b_arg, b_ins, b_inCoin, b_inA, b_inB, b_outs, b_amount, b_lock, b_parent, b_height, b_rewardLock, b_many, b_holds, gfe, grw)) b_inCoin (3 * t) n) b_amount (3 * t) m := by
    have := fq t ht
    rw [enc, emc] at this
    exact this
  rw [enc] at hw
  have L69 : ∀ (d i fuel : Nat), i + d = m → d < fuel → wY_feeOf_69 post (nI t) g_made g_blocks g_arrivals g_tip g_pooled g_chainLength b_op b_arg b_length b_ins b_inCoin b_inA b_inB b_outs b_amount b_lock b_parent b_work b_rewardLock b_height b_many b_holds b_delivered b_arrived b_pool b_chain b_from b_worth b_within b_spent b_stack b_again b_chosen fuel (pd_sout (pd_sin (pd_amt (b_length, b_op, b_arg, b_ins, b_inCoin, b_inA, b_inB, b_outs, b_amount, b_lock, b_parent, b_height, b_rewardLock, b_many, b_holds, gfe, grw)) b_inCoin (3 * t) n) b_amount (3 * t) i) (nI (3 * t + i)) := by
    intro d
    induction d with
    | zero =>
      intro i fuel hi hf
      obtain ⟨fuel, rfl⟩ : ∃ q, fuel = q + 1 := ⟨fuel - 1, by omega⟩
      obtain rfl : i = m := by omega
      rw [← efe]
      exact ⟨pk_in t 41 (by omega), br_t (by rw [e3']; exact nI_le (Nat.le_refl _) (by omega)) H⟩
    | succ d ih =>
      intro i fuel hi hf
      obtain ⟨fuel, rfl⟩ : ∃ q, fuel = q + 1 := ⟨fuel - 1, by omega⟩
      exact ⟨pk_in t 41 (by omega), pk_le (3 * t + m) (3 * t + i) (fun z => by omega) (fun z => ⟨pk_in (3 * t + i) 123 (by omega), nm_r (by rw [pk_cl (x := nI (3 * t + i)) (3 * t + i)] <;> rfl) (nm_r (nI_1 (3 * t + i)) (ih (i + 1) fuel (by omega) (by omega)))⟩) e3'⟩
  have L6 : ∀ (d i fuel : Nat), i + d = n → d < fuel → wY_feeOf_6 post (nI t) g_made g_blocks g_arrivals g_tip g_pooled g_chainLength b_op b_arg b_length b_ins b_inCoin b_inA b_inB b_outs b_amount b_lock b_parent b_work b_rewardLock b_height b_many b_holds b_delivered b_arrived b_pool b_chain b_from b_worth b_within b_spent b_stack b_again b_chosen fuel (pd_sin (pd_amt (b_length, b_op, b_arg, b_ins, b_inCoin, b_inA, b_inB, b_outs, b_amount, b_lock, b_parent, b_height, b_rewardLock, b_many, b_holds, gfe, grw)) b_inCoin (3 * t) i) (nI (3 * t + i)) := by
    intro d
    induction d with
    | zero =>
      intro i fuel hi hf
      obtain ⟨fuel, rfl⟩ : ∃ q, fuel = q + 1 := ⟨fuel - 1, by omega⟩
      obtain rfl : i = n := by omega
      exact ⟨pk_in t 41 (by omega), br_t (by rw [e3]; exact nI_le (Nat.le_refl _) (by omega)) (nm_r (yb_30 t) ⟨m + 1, L69 m 0 (m + 1) (by omega) (by omega)⟩)⟩
    | succ d ih =>
      intro i fuel hi hf
      obtain ⟨fuel, rfl⟩ : ∃ q, fuel = q + 1 := ⟨fuel - 1, by omega⟩
      obtain ⟨c, hc1, hc2, hc3⟩ := hc i (by omega)
      have hc2' : b_inCoin (3 * t + i) = nI c := hc2
      have hwi := hw i (by omega)
      have ecx : (nI c).toNatClampNeg = c := pk_cl c
      rw [hc2', ecx] at hwi
      have ex : b_inCoin (nI (3 * t + i)).toNatClampNeg = nI c := (congrArg b_inCoin (pk_cl (3 * t + i))).trans hc2
      refine ⟨pk_in t 41 (by omega), pk_le (3 * t + n) (3 * t + i) (fun z => by omega) (fun z => ⟨pk_in (3 * t + i) 123 (by omega), ?_⟩) e3⟩
      rw [ex, ecx]
      refine pk_le 120 c (fun z1 => ⟨pk_in (3 * t + i) 123 (by omega), pk_in c 152 hc1, nm_r (e' := pd_sin (pd_amt (b_length, b_op, b_arg, b_ins, b_inCoin, b_inA, b_inB, b_outs, b_amount, b_lock, b_parent, b_height, b_rewardLock, b_many, b_holds, gfe, grw)) b_inCoin (3 * t) (i + 1)) ?_ (nm_r (nI_1 (3 * t + i)) (ih (i + 1) fuel (by omega) (by omega)))⟩) (fun z1 => ⟨pk_in (3 * t + i) 123 (by omega), pk_in c 123 (by omega), nm_r (e' := pd_sin (pd_amt (b_length, b_op, b_arg, b_ins, b_inCoin, b_inA, b_inB, b_outs, b_amount, b_lock, b_parent, b_height, b_rewardLock, b_many, b_holds, gfe, grw)) b_inCoin (3 * t) (i + 1)) ?_ (nm_r (nI_1 (3 * t + i)) (ih (i + 1) fuel (by omega) (by omega)))⟩)
      · rw [pd_sin, hc2', ecx, hwi z1]
        have : pd_amt (b_length, b_op, b_arg, b_ins, b_inCoin, b_inA, b_inB, b_outs, b_amount, b_lock, b_parent, b_height, b_rewardLock, b_many, b_holds, gfe, grw) c = grw (c - 120) := if_neg (by omega)
        rw [this]
      · rw [pd_sin, hc2', ecx]
        have : pd_amt (b_length, b_op, b_arg, b_ins, b_inCoin, b_inA, b_inB, b_outs, b_amount, b_lock, b_parent, b_height, b_rewardLock, b_many, b_holds, gfe, grw) c = b_amount c := if_pos z1
        rw [this]
  exact nm_r (yb_30 t) ⟨n + 1, L6 n 0 (n + 1) (by omega) (by omega)⟩
end

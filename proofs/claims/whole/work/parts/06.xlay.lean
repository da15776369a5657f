/-! X: what a chain lays -/
theorem xb_1 : vp_nar .boolean 1 = 1 := rfl
theorem xb_0 : vp_nar .boolean 0 = 0 := rfl
theorem xb_3 (t i : Nat) : nI t * 3 + nI i = nI (3 * t + i) := by rw [show (3 : Int32) = nI 3 from rfl, pk_mul, nI_add, Nat.mul_comm]
theorem xb_4 (t i : Nat) : nI t * 4 + nI i = nI (4 * t + i) := by rw [show (4 : Int32) = nI 4 from rfl, pk_mul, nI_add, Nat.mul_comm]
section
variable {f_stackSize f_transactions f_putCount f_blocks f_tip f_poolCount f_queueCount : Int32} {a_tokenCount a_tokenOp a_tokenValue a_scriptInUse a_stack a_inputCount a_inputCoin a_inputA a_inputB a_outputCount a_outputAmount a_outputScript a_feeOf a_putRow a_parentOf a_heightOf a_chainWork a_blockState a_rewardAmount a_rewardScript a_blockSize a_blockTransaction a_laidBlock a_coinHeight a_coinSpent a_transactionHeight a_poolRow a_marked a_queue : Nat → Int32}
theorem xm_lt47 {t m : Nat} {h : Int32} (ht : t < 40) (hm : m ≤ 3) (em : a_outputCount t = nI m) {post : SX → Prop} (f : Nat → Int32) (H : post (f_stackSize, f_transactions, f_putCount, f_blocks, f_tip, f_poolCount, f_queueCount, a_tokenCount, a_tokenOp, a_tokenValue, a_scriptInUse, a_stack, a_inputCount, a_inputCoin, a_inputA, a_inputB, a_outputCount, a_outputAmount, a_outputScript, a_feeOf, a_putRow, a_parentOf, a_heightOf, a_chainWork, a_blockState, a_rewardAmount, a_rewardScript, a_blockSize, a_blockTransaction, a_laidBlock, pd_setH f (3 * t) m h, a_coinSpent, a_transactionHeight, a_poolRow, a_marked, a_queue)) :
    ∀ (d i fuel : Nat), i + d = m → d < fuel → wX_layTransaction_47 post (nI t) h f_stackSize f_transactions f_putCount f_blocks f_tip f_poolCount f_queueCount fuel (nI i) a_tokenCount a_tokenOp a_tokenValue a_scriptInUse a_stack a_inputCount a_inputCoin a_inputA a_inputB a_outputCount a_outputAmount a_outputScript a_feeOf a_putRow a_parentOf a_heightOf a_chainWork a_blockState a_rewardAmount a_rewardScript a_blockSize a_blockTransaction a_laidBlock (pd_setH f (3 * t) i h) a_coinSpent a_transactionHeight a_poolRow a_marked a_queue := by
  have emc : a_outputCount (nI t).toNatClampNeg = nI m := by rw [nI_clamp (by omega)]; exact em
  intro d
  induction d with
  | zero =>
    intro i fuel hi hf
    obtain ⟨fuel, rfl⟩ : ∃ q, fuel = q + 1 := ⟨fuel - 1, by omega⟩
    obtain rfl : i = m := by omega
    exact ⟨pk_in t 41 (by omega), br_t (by rw [emc]; exact nI_le (Nat.le_refl _) (by omega)) H⟩
  | succ d ih =>
    intro i fuel hi hf
    obtain ⟨fuel, rfl⟩ : ∃ q, fuel = q + 1 := ⟨fuel - 1, by omega⟩
    refine ⟨pk_in t 41 (by omega), pk_le m i (fun z => by omega) (fun z => ⟨pk_in (3 * t + i) 152 (by omega) (xb_3 t i), nm_r ?_ (nm_r (nI_1 i) (ih (i + 1) fuel (by omega) (by omega)))⟩) emc⟩
    rw [pk_cl (3 * t + i) (xb_3 t i), pd_setH_s]
theorem xm_lt9 {t n m : Nat} {h : Int32} (ht : t < 40) (hn : n ≤ 3) (en : a_inputCount t = nI n) (hm : m ≤ 3) (em : a_outputCount t = nI m) (hc : ∀ i, i < n → ∃ c, c < 152 ∧ a_inputCoin (3 * t + i) = nI c) {post : SX → Prop} (f : Nat → Int32) (H : post (f_stackSize, f_transactions, f_putCount, f_blocks, f_tip, f_poolCount, f_queueCount, a_tokenCount, a_tokenOp, a_tokenValue, a_scriptInUse, a_stack, a_inputCount, a_inputCoin, a_inputA, a_inputB, a_outputCount, a_outputAmount, a_outputScript, a_feeOf, a_putRow, a_parentOf, a_heightOf, a_chainWork, a_blockState, a_rewardAmount, a_rewardScript, a_blockSize, a_blockTransaction, a_laidBlock, pd_setH a_coinHeight (3 * t) m h, pd_spend f a_inputCoin (3 * t) n, a_transactionHeight, a_poolRow, a_marked, a_queue)) :
    ∀ (d i fuel : Nat), i + d = n → d < fuel → wX_layTransaction_9 post (nI t) h f_stackSize f_transactions f_putCount f_blocks f_tip f_poolCount f_queueCount fuel (nI i) a_tokenCount a_tokenOp a_tokenValue a_scriptInUse a_stack a_inputCount a_inputCoin a_inputA a_inputB a_outputCount a_outputAmount a_outputScript a_feeOf a_putRow a_parentOf a_heightOf a_chainWork a_blockState a_rewardAmount a_rewardScript a_blockSize a_blockTransaction a_laidBlock a_coinHeight (pd_spend f a_inputCoin (3 * t) i) a_transactionHeight a_poolRow a_marked a_queue := by
  have enc : a_inputCount (nI t).toNatClampNeg = nI n := by rw [nI_clamp (by omega)]; exact en
  intro d
  induction d with
  | zero =>
    intro i fuel hi hf
    obtain ⟨fuel, rfl⟩ : ∃ q, fuel = q + 1 := ⟨fuel - 1, by omega⟩
    obtain rfl : i = n := by omega
    refine ⟨pk_in t 41 (by omega), br_t (by rw [enc]; exact nI_le (Nat.le_refl _) (by omega)) ⟨m + 1, ?_⟩⟩
    have := xm_lt47 (h := h) ht hm em a_coinHeight H m 0 (m + 1) (by omega) (by omega)
    rw [pd_setH_0] at this
    exact this
  | succ d ih =>
    intro i fuel hi hf
    obtain ⟨fuel, rfl⟩ : ∃ q, fuel = q + 1 := ⟨fuel - 1, by omega⟩
    obtain ⟨c, hc1, hc2⟩ := hc i (by omega)
    refine ⟨pk_in t 41 (by omega), pk_le n i (fun z => by omega) (fun z => ⟨pk_in (3 * t + i) 123 (by omega) (xb_3 t i), nm_r ((congrArg a_inputCoin (pk_cl (3 * t + i) (xb_3 t i))).trans hc2) ⟨pk_in c 152 hc1, nm_r ?_ (nm_r (nI_1 i) (ih (i + 1) fuel (by omega) (by omega)))⟩⟩) enc⟩
    rw [pd_spend, hc2]; rfl
theorem xm_layTx {made blocks t : Nat} {h : Int32} (w : pd_wf (a_tokenCount, a_tokenOp, a_tokenValue, a_inputCount, a_inputCoin, a_inputA, a_inputB, a_outputCount, a_outputAmount, a_outputScript, a_parentOf, a_heightOf, a_rewardScript, a_blockSize, a_blockTransaction, a_feeOf, a_rewardAmount) made blocks) (ht : t < made) {post : SX → Prop} (S : pd_S) (H : post (f_stackSize, f_transactions, f_putCount, f_blocks, f_tip, f_poolCount, f_queueCount, a_tokenCount, a_tokenOp, a_tokenValue, a_scriptInUse, a_stack, a_inputCount, a_inputCoin, a_inputA, a_inputB, a_outputCount, a_outputAmount, a_outputScript, a_feeOf, a_putRow, a_parentOf, a_heightOf, a_chainWork, a_blockState, a_rewardAmount, a_rewardScript, a_blockSize, a_blockTransaction, a_laidBlock, (pd_layTx (a_tokenCount, a_tokenOp, a_tokenValue, a_inputCount, a_inputCoin, a_inputA, a_inputB, a_outputCount, a_outputAmount, a_outputScript, a_parentOf, a_heightOf, a_rewardScript, a_blockSize, a_blockTransaction, a_feeOf, a_rewardAmount) t h S).1, (pd_layTx (a_tokenCount, a_tokenOp, a_tokenValue, a_inputCount, a_inputCoin, a_inputA, a_inputB, a_outputCount, a_outputAmount, a_outputScript, a_parentOf, a_heightOf, a_rewardScript, a_blockSize, a_blockTransaction, a_feeOf, a_rewardAmount) t h S).2.1, (pd_layTx (a_tokenCount, a_tokenOp, a_tokenValue, a_inputCount, a_inputCoin, a_inputA, a_inputB, a_outputCount, a_outputAmount, a_outputScript, a_parentOf, a_heightOf, a_rewardScript, a_blockSize, a_blockTransaction, a_feeOf, a_rewardAmount) t h S).2.2, a_poolRow, a_marked, a_queue)) : wpX_layTransaction post (f_stackSize, f_transactions, f_putCount, f_blocks, f_tip, f_poolCount, f_queueCount, a_tokenCount, a_tokenOp, a_tokenValue, a_scriptInUse, a_stack, a_inputCount, a_inputCoin, a_inputA, a_inputB, a_outputCount, a_outputAmount, a_outputScript, a_feeOf, a_putRow, a_parentOf, a_heightOf, a_chainWork, a_blockState, a_rewardAmount, a_rewardScript, a_blockSize, a_blockTransaction, a_laidBlock, S.1, S.2.1, S.2.2, a_poolRow, a_marked, a_queue) (nI t) h := by
  have hm := w.2.2.1
  obtain ⟨n, m, _, hn, _, hm3, en, em, hc, _⟩ := w.2.2.2.2.1 _ ht
  have en' : a_inputCount t = nI n := en
  have em' : a_outputCount t = nI m := em
  have hc' : ∀ i, i < n → ∃ c, c < 152 ∧ a_inputCoin (3 * t + i) = nI c := fun i hi => by
    obtain ⟨c, h1, h2, _⟩ := hc i hi
    exact ⟨c, h1, h2⟩
  have H' : post (f_stackSize, f_transactions, f_putCount, f_blocks, f_tip, f_poolCount, f_queueCount, a_tokenCount, a_tokenOp, a_tokenValue, a_scriptInUse, a_stack, a_inputCount, a_inputCoin, a_inputA, a_inputB, a_outputCount, a_outputAmount, a_outputScript, a_feeOf, a_putRow, a_parentOf, a_heightOf, a_chainWork, a_blockState, a_rewardAmount, a_rewardScript, a_blockSize, a_blockTransaction, a_laidBlock, pd_setH S.1 (3 * t) m h, pd_spend S.2.1 a_inputCoin (3 * t) n, upd S.2.2 t h, a_poolRow, a_marked, a_queue) := by
    have e1 : (a_inputCount t).toNatClampNeg = n := pd_cl en' (by omega)
    have e2 : (a_outputCount t).toNatClampNeg = m := pd_cl em' (by omega)
    unfold pd_layTx at H
    dsimp only at H
    rw [e1, e2] at H
    exact H
  refine ⟨pk_in t 40 (by omega), nm_r (by rw [pk_cl t]) ⟨n + 1, xm_lt9 (by omega) hn en' hm3 em' hc' S.2.1 H' n 0 (n + 1) (by omega) (by omega)⟩⟩
theorem xm_layBlk {made blocks b : Nat} (w : pd_wf (a_tokenCount, a_tokenOp, a_tokenValue, a_inputCount, a_inputCoin, a_inputA, a_inputB, a_outputCount, a_outputAmount, a_outputScript, a_parentOf, a_heightOf, a_rewardScript, a_blockSize, a_blockTransaction, a_feeOf, a_rewardAmount) made blocks) (hb : b < blocks) {post : SX → Prop} (S : pd_S) (H : post (f_stackSize, f_transactions, f_putCount, f_blocks, f_tip, f_poolCount, f_queueCount, a_tokenCount, a_tokenOp, a_tokenValue, a_scriptInUse, a_stack, a_inputCount, a_inputCoin, a_inputA, a_inputB, a_outputCount, a_outputAmount, a_outputScript, a_feeOf, a_putRow, a_parentOf, a_heightOf, a_chainWork, a_blockState, a_rewardAmount, a_rewardScript, a_blockSize, a_blockTransaction, a_laidBlock, (pd_blk (a_tokenCount, a_tokenOp, a_tokenValue, a_inputCount, a_inputCoin, a_inputA, a_inputB, a_outputCount, a_outputAmount, a_outputScript, a_parentOf, a_heightOf, a_rewardScript, a_blockSize, a_blockTransaction, a_feeOf, a_rewardAmount) b S).1, (pd_blk (a_tokenCount, a_tokenOp, a_tokenValue, a_inputCount, a_inputCoin, a_inputA, a_inputB, a_outputCount, a_outputAmount, a_outputScript, a_parentOf, a_heightOf, a_rewardScript, a_blockSize, a_blockTransaction, a_feeOf, a_rewardAmount) b S).2.1, (pd_blk (a_tokenCount, a_tokenOp, a_tokenValue, a_inputCount, a_inputCoin, a_inputA, a_inputB, a_outputCount, a_outputAmount, a_outputScript, a_parentOf, a_heightOf, a_rewardScript, a_blockSize, a_blockTransaction, a_feeOf, a_rewardAmount) b S).2.2, a_poolRow, a_marked, a_queue)) : wpX_layBlock post (f_stackSize, f_transactions, f_putCount, f_blocks, f_tip, f_poolCount, f_queueCount, a_tokenCount, a_tokenOp, a_tokenValue, a_scriptInUse, a_stack, a_inputCount, a_inputCoin, a_inputA, a_inputB, a_outputCount, a_outputAmount, a_outputScript, a_feeOf, a_putRow, a_parentOf, a_heightOf, a_chainWork, a_blockState, a_rewardAmount, a_rewardScript, a_blockSize, a_blockTransaction, a_laidBlock, S.1, S.2.1, S.2.2, a_poolRow, a_marked, a_queue) (nI b) := by
  have hbk := w.2.1
  obtain ⟨hh, _, hh2, eh⟩ := pd_he_of w hb
  have eh' : a_heightOf b = nI hh := eh
  obtain ⟨_, _, ⟨n, hn, en, _⟩, _⟩ := w.2.2.2.2.2 _ hb
  have en' : a_blockSize b = nI n := en
  have ebs : (a_blockSize b).toNatClampNeg = n := pd_cl en' (by omega)
  have enc : a_blockSize (nI b).toNatClampNeg = nI n := by rw [nI_clamp (by omega)]; exact en
  have ehc : a_heightOf (nI b).toNatClampNeg = a_heightOf b := by rw [nI_clamp (by omega)]
  have key : ∀ (d i fuel : Nat), i + d = n → d < fuel → wX_layBlock_2 post (nI b) fuel (nI i) f_stackSize f_transactions f_putCount f_blocks f_tip f_poolCount f_queueCount a_tokenCount a_tokenOp a_tokenValue a_scriptInUse a_stack a_inputCount a_inputCoin a_inputA a_inputB a_outputCount a_outputAmount a_outputScript a_feeOf a_putRow a_parentOf a_heightOf a_chainWork a_blockState a_rewardAmount a_rewardScript a_blockSize a_blockTransaction a_laidBlock ((pd_txs (a_tokenCount, a_tokenOp, a_tokenValue, a_inputCount, a_inputCoin, a_inputA, a_inputB, a_outputCount, a_outputAmount, a_outputScript, a_parentOf, a_heightOf, a_rewardScript, a_blockSize, a_blockTransaction, a_feeOf, a_rewardAmount) b (a_heightOf b) i S).1) ((pd_txs (a_tokenCount, a_tokenOp, a_tokenValue, a_inputCount, a_inputCoin, a_inputA, a_inputB, a_outputCount, a_outputAmount, a_outputScript, a_parentOf, a_heightOf, a_rewardScript, a_blockSize, a_blockTransaction, a_feeOf, a_rewardAmount) b (a_heightOf b) i S).2.1) ((pd_txs (a_tokenCount, a_tokenOp, a_tokenValue, a_inputCount, a_inputCoin, a_inputA, a_inputB, a_outputCount, a_outputAmount, a_outputScript, a_parentOf, a_heightOf, a_rewardScript, a_blockSize, a_blockTransaction, a_feeOf, a_rewardAmount) b (a_heightOf b) i S).2.2) a_poolRow a_marked a_queue := by
    intro d
    induction d with
    | zero =>
      intro i fuel hi hf
      obtain ⟨fuel, rfl⟩ : ∃ q, fuel = q + 1 := ⟨fuel - 1, by omega⟩
      obtain rfl : i = n := by omega
      have e120 : (120 : Int32) + nI b = nI (120 + b) := nI_add 120 b
      refine ⟨pk_in b 32 (by omega), br_t (by rw [enc]; exact nI_le (Nat.le_refl _) (by omega)) ⟨pk_in b 32 (by omega), pk_in (120 + b) 152 (by omega) e120, nm_r (by rw [pk_cl (120 + b) e120, ehc]) ?_⟩⟩
      unfold pd_blk at H
      dsimp only at H
      rw [ebs] at H
      exact H
    | succ d ih =>
      intro i fuel hi hf
      obtain ⟨fuel, rfl⟩ : ∃ q, fuel = q + 1 := ⟨fuel - 1, by omega⟩
      obtain ⟨t, ht, et, etc⟩ := pd_bt_of w hb (i := i) (by show i < (a_blockSize b).toNatClampNeg; omega)
      have et' : a_blockTransaction (nI b * 4 + nI i).toNatClampNeg = nI t := by rw [pk_cl (4 * b + i) (xb_4 b i)]; exact et
      have etc' : (a_blockTransaction (4 * b + i)).toNatClampNeg = t := etc
      refine ⟨pk_in b 32 (by omega), pk_le n i (fun z => by omega) (fun z => ⟨pk_in (4 * b + i) 128 (by omega) (xb_4 b i), pk_in b 32 (by omega), ?_⟩) enc⟩
      rw [et', ehc]
      refine xm_layTx w ht _ (nm_r (nI_1 i) ?_)
      have := ih (i + 1) fuel (by omega) (by omega)
      rw [pd_txs, etc] at this
      exact this
  exact ⟨n + 1, key n 0 (n + 1) (by omega) (by omega)⟩
end

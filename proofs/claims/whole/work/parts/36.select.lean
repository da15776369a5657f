/-! forge: which transactions are chosen -/
noncomputable def bs_f (el : Nat → Prop) (fe : Nat → Int32) : Nat → Option Nat
  | 0 => none
  | k + 1 => @ite _ (el k) (Classical.propDecidable _) (match bs_f el fe k with | none => some k | some b => if fe k ≤ fe b then some b else some k) (bs_f el fe k)
theorem bs_t {el : Nat → Prop} {fe : Nat → Int32} {k : Nat} (h : el k) : bs_f el fe (k + 1) = (match bs_f el fe k with | none => some k | some b => if fe k ≤ fe b then some b else some k) := by
  rw [bs_f]; exact @if_pos _ (Classical.propDecidable _) h _ _ _
theorem bs_n {el : Nat → Prop} {fe : Nat → Int32} {k : Nat} (h : ¬ el k) : bs_f el fe (k + 1) = bs_f el fe k := by
  rw [bs_f]; exact @if_neg _ (Classical.propDecidable _) h _ _ _
theorem bs_lt {el : Nat → Prop} {fe : Nat → Int32} : ∀ k b, bs_f el fe k = some b → b < k ∧ el b := by
  intro k
  induction k with
  | zero => intro b h; exact absurd h (by rw [bs_f]; exact fun z => nomatch z)
  | succ k ih =>
    intro b h
    rcases Classical.em (el k) with e | e
    · rw [bs_t e] at h
      cases hb : bs_f el fe k with
      | none =>
        rw [hb] at h
        have : k = b := Option.some.inj h
        subst this
        exact ⟨by omega, e⟩
      | some c =>
        rw [hb] at h
        have hc := ih c hb
        dsimp only at h
        split at h
        · have : c = b := Option.some.inj h
          subst this
          exact ⟨by omega, hc.2⟩
        · have : k = b := Option.some.inj h
          subst this
          exact ⟨by omega, e⟩
    · rw [bs_n e] at h
      have := ih b h
      exact ⟨by omega, this.2⟩
def bs_x (o : Option Nat) : Int32 := match o with | none => -1 | some b => nI b
def bs_y (pl : pd_F) (o : Option Nat) : Int32 := match o with | none => -1 | some b => pl b
def el_p (D : pd_D) (pl mk : pd_F) (np k : Nat) : Prop := mk k = 0 ∧ ¬ ∃ j, j < np ∧ mk j = 0 ∧ pd_needs D (pl k).toNatClampNeg (pl j).toNatClampNeg
section
variable {f_stackSize f_transactions f_putCount f_blocks f_tip f_poolCount f_queueCount : Int32} {a_tokenCount a_tokenOp a_tokenValue a_scriptInUse a_stack a_inputCount a_inputCoin a_inputA a_inputB a_outputCount a_outputAmount a_outputScript a_feeOf a_putRow a_parentOf a_heightOf a_chainWork a_blockState a_rewardAmount a_rewardScript a_blockSize a_blockTransaction a_laidBlock a_coinHeight a_coinSpent a_transactionHeight a_poolRow a_marked a_queue : Nat → Int32}
theorem xm_waits {made blocks np k : Nat} (w : pd_wf (a_tokenCount, a_tokenOp, a_tokenValue, a_inputCount, a_inputCoin, a_inputA, a_inputB, a_outputCount, a_outputAmount, a_outputScript, a_parentOf, a_heightOf, a_rewardScript, a_blockSize, a_blockTransaction, a_feeOf, a_rewardAmount) made blocks) (hnp : np ≤ 12) (ep : f_poolCount = nI np) (hp : pd_pl a_poolRow np made) (hk : k < np) {post : Int32 → Prop} (H1 : (∃ j, j < np ∧ a_marked j = 0 ∧ pd_needs (a_tokenCount, a_tokenOp, a_tokenValue, a_inputCount, a_inputCoin, a_inputA, a_inputB, a_outputCount, a_outputAmount, a_outputScript, a_parentOf, a_heightOf, a_rewardScript, a_blockSize, a_blockTransaction, a_feeOf, a_rewardAmount) (a_poolRow k).toNatClampNeg (a_poolRow j).toNatClampNeg) → post 1) (H0 : ¬ (∃ j, j < np ∧ a_marked j = 0 ∧ pd_needs (a_tokenCount, a_tokenOp, a_tokenValue, a_inputCount, a_inputCoin, a_inputA, a_inputB, a_outputCount, a_outputAmount, a_outputScript, a_parentOf, a_heightOf, a_rewardScript, a_blockSize, a_blockTransaction, a_feeOf, a_rewardAmount) (a_poolRow k).toNatClampNeg (a_poolRow j).toNatClampNeg) → post 0) : wpX_waitsForUnmarked post (f_stackSize, f_transactions, f_putCount, f_blocks, f_tip, f_poolCount, f_queueCount, a_tokenCount, a_tokenOp, a_tokenValue, a_scriptInUse, a_stack, a_inputCount, a_inputCoin, a_inputA, a_inputB, a_outputCount, a_outputAmount, a_outputScript, a_feeOf, a_putRow, a_parentOf, a_heightOf, a_chainWork, a_blockState, a_rewardAmount, a_rewardScript, a_blockSize, a_blockTransaction, a_laidBlock, a_coinHeight, a_coinSpent, a_transactionHeight, a_poolRow, a_marked, a_queue) (nI k) := by
  have hm := w.2.2.1
  subst ep
  obtain ⟨u, hu, eu⟩ := hp k hk
  have euc := pd_cl eu (by omega)
  rw [euc] at H1 H0
  have key : ∀ (d i fuel : Nat), i + d = np → d < fuel → (∀ j, j < i → ¬ (a_marked j = 0 ∧ pd_needs (a_tokenCount, a_tokenOp, a_tokenValue, a_inputCount, a_inputCoin, a_inputA, a_inputB, a_outputCount, a_outputAmount, a_outputScript, a_parentOf, a_heightOf, a_rewardScript, a_blockSize, a_blockTransaction, a_feeOf, a_rewardAmount) u (a_poolRow j).toNatClampNeg)) → wX_waitsForUnmarked_2 post (nI k) f_stackSize f_transactions f_putCount f_blocks f_tip (nI np) f_queueCount a_tokenCount a_tokenOp a_tokenValue a_scriptInUse a_stack a_inputCount a_inputCoin a_inputA a_inputB a_outputCount a_outputAmount a_outputScript a_feeOf a_putRow a_parentOf a_heightOf a_chainWork a_blockState a_rewardAmount a_rewardScript a_blockSize a_blockTransaction a_laidBlock a_coinHeight a_coinSpent a_transactionHeight a_poolRow a_marked a_queue fuel (nI i) := by
    intro d
    induction d with
    | zero =>
      intro i fuel hi hf hno
      obtain ⟨fuel, rfl⟩ : ∃ q, fuel = q + 1 := ⟨fuel - 1, by omega⟩
      obtain rfl : i = np := by omega
      exact br_t (nI_le (Nat.le_refl _) (by omega)) (H0 fun ⟨j, h1, h2⟩ => hno j h1 h2)
    | succ d ih =>
      intro i fuel hi hf hno
      obtain ⟨fuel, rfl⟩ : ∃ q, fuel = q + 1 := ⟨fuel - 1, by omega⟩
      obtain ⟨u2, hu2, eu2⟩ := hp i (by omega)
      have euc2 := pd_cl eu2 (by omega)
      have nxt : ¬ (a_marked i = 0 ∧ pd_needs (a_tokenCount, a_tokenOp, a_tokenValue, a_inputCount, a_inputCoin, a_inputA, a_inputB, a_outputCount, a_outputAmount, a_outputScript, a_parentOf, a_heightOf, a_rewardScript, a_blockSize, a_blockTransaction, a_feeOf, a_rewardAmount) u u2) → wX_waitsForUnmarked_2 post (nI k) f_stackSize f_transactions f_putCount f_blocks f_tip (nI np) f_queueCount a_tokenCount a_tokenOp a_tokenValue a_scriptInUse a_stack a_inputCount a_inputCoin a_inputA a_inputB a_outputCount a_outputAmount a_outputScript a_feeOf a_putRow a_parentOf a_heightOf a_chainWork a_blockState a_rewardAmount a_rewardScript a_blockSize a_blockTransaction a_laidBlock a_coinHeight a_coinSpent a_transactionHeight a_poolRow a_marked a_queue fuel (nI (i + 1)) := fun q => ih (i + 1) fuel (by omega) (by omega) fun j hj => by
        by_cases e : j = i
        · subst e; rw [euc2]; exact q
        · exact hno j (by omega)
      have ek : a_poolRow (nI k).toNatClampNeg = nI u := by rw [pk_cl k]; exact eu
      refine pk_le np i (fun z => by omega) (fun z => ⟨pk_in i 12 (by omega), ?_⟩)
      rw [ek, pk_cl i, eu2]
      refine br_c (fun q => ⟨pk_in k 12 (by omega), pk_in i 12 (by omega), xq_needs w hu (by omega) (fun z1 => br_f (by decide) (H1 ⟨i, by omega, q, by rw [euc2]; exact z1⟩)) (fun z1 => br_t rfl (nm_r (nI_1 i) (nxt fun q' => z1 q'.2)))⟩) (fun q => nm_r (nI_1 i) (nxt fun q' => q q'.1))
  exact ⟨np + 1, key np 0 (np + 1) (by omega) (by omega) (fun j hj => by omega)⟩
theorem xm_best {made blocks np : Nat} (w : pd_wf (a_tokenCount, a_tokenOp, a_tokenValue, a_inputCount, a_inputCoin, a_inputA, a_inputB, a_outputCount, a_outputAmount, a_outputScript, a_parentOf, a_heightOf, a_rewardScript, a_blockSize, a_blockTransaction, a_feeOf, a_rewardAmount) made blocks) (hnp : np ≤ 12) (ep : f_poolCount = nI np) (hp : pd_pl a_poolRow np made) {post : Int32 → Prop} (H : post (bs_x (bs_f (el_p (a_tokenCount, a_tokenOp, a_tokenValue, a_inputCount, a_inputCoin, a_inputA, a_inputB, a_outputCount, a_outputAmount, a_outputScript, a_parentOf, a_heightOf, a_rewardScript, a_blockSize, a_blockTransaction, a_feeOf, a_rewardAmount) a_poolRow a_marked np) (fun k => a_feeOf (a_poolRow k).toNatClampNeg) np))) : wpX_bestUnmarked post (f_stackSize, f_transactions, f_putCount, f_blocks, f_tip, f_poolCount, f_queueCount, a_tokenCount, a_tokenOp, a_tokenValue, a_scriptInUse, a_stack, a_inputCount, a_inputCoin, a_inputA, a_inputB, a_outputCount, a_outputAmount, a_outputScript, a_feeOf, a_putRow, a_parentOf, a_heightOf, a_chainWork, a_blockState, a_rewardAmount, a_rewardScript, a_blockSize, a_blockTransaction, a_laidBlock, a_coinHeight, a_coinSpent, a_transactionHeight, a_poolRow, a_marked, a_queue) := by
  have hm := w.2.2.1
  subst ep
  have key : ∀ (d i fuel : Nat), i + d = np → d < fuel → wX_bestUnmarked_4 post f_stackSize f_transactions f_putCount f_blocks f_tip (nI np) f_queueCount a_tokenCount a_tokenOp a_tokenValue a_scriptInUse a_stack a_inputCount a_inputCoin a_inputA a_inputB a_outputCount a_outputAmount a_outputScript a_feeOf a_putRow a_parentOf a_heightOf a_chainWork a_blockState a_rewardAmount a_rewardScript a_blockSize a_blockTransaction a_laidBlock a_coinHeight a_coinSpent a_transactionHeight a_poolRow a_marked a_queue fuel (bs_x (bs_f (el_p (a_tokenCount, a_tokenOp, a_tokenValue, a_inputCount, a_inputCoin, a_inputA, a_inputB, a_outputCount, a_outputAmount, a_outputScript, a_parentOf, a_heightOf, a_rewardScript, a_blockSize, a_blockTransaction, a_feeOf, a_rewardAmount) a_poolRow a_marked np) (fun k => a_feeOf (a_poolRow k).toNatClampNeg) i)) (nI i) := by
    intro d
    induction d with
    | zero =>
      intro i fuel hi hf
      obtain ⟨fuel, rfl⟩ : ∃ q, fuel = q + 1 := ⟨fuel - 1, by omega⟩
      obtain rfl : i = np := by omega
      exact br_t (nI_le (Nat.le_refl _) (by omega)) H
    | succ d ih =>
      intro i fuel hi hf
      obtain ⟨fuel, rfl⟩ : ∃ q, fuel = q + 1 := ⟨fuel - 1, by omega⟩
      obtain ⟨u, hu, eu⟩ := hp i (by omega)
      have euc := pd_cl eu (by omega)
      have nx := ih (i + 1) fuel (by omega) (by omega)
      refine pk_le np i (fun z => by omega) (fun z => ⟨pk_in i 12 (by omega), ?_⟩)
      rw [pk_cl i]
      refine br_c (fun q => xm_waits w hnp rfl hp (by omega) (fun z1 => br_f (by decide) (nm_r (nI_1 i) ?_)) (fun z1 => br_t rfl ?_)) (fun q => nm_r (nI_1 i) ?_)
      · rw [bs_n (fun e => e.2 z1)] at nx; exact nx
      · rw [bs_t ⟨q, z1⟩] at nx
        cases hb : bs_f (el_p (a_tokenCount, a_tokenOp, a_tokenValue, a_inputCount, a_inputCoin, a_inputA, a_inputB, a_outputCount, a_outputAmount, a_outputScript, a_parentOf, a_heightOf, a_rewardScript, a_blockSize, a_blockTransaction, a_feeOf, a_rewardAmount) a_poolRow a_marked np) (fun k => a_feeOf (a_poolRow k).toNatClampNeg) i with
        | none =>
          rw [hb] at nx
          exact br_t (by decide) (nm_r (nI_1 i) nx)
        | some b =>
          rw [hb] at nx
          have hbl := (bs_lt i b hb).1
          obtain ⟨u2, hu2, eu2⟩ := hp b (by omega)
          have euc2 := pd_cl eu2 (by omega)
          refine br_f (nI_pos (by omega)) ⟨pk_in i 12 (by omega), pk_in u 40 (by omega) eu, pk_in b 12 (by omega), ?_⟩
          have ebc : a_poolRow (bs_x (some b)).toNatClampNeg = a_poolRow b := congrArg a_poolRow (pk_cl b)
          refine ⟨pk_in u2 40 (by omega) (ebc.trans eu2), ?_⟩
          rw [ebc]
          dsimp only at nx
          refine br_c (fun z2 => nm_r (nI_1 i) ?_) (fun z2 => nm_r (nI_1 i) ?_)
          · rw [if_pos z2] at nx; exact nx
          · rw [if_neg z2] at nx; exact nx
      · rw [bs_n (fun e => q e.1)] at nx; exact nx
  exact ⟨np + 1, key np 0 (np + 1) (by omega) (by omega)⟩
end
section
variable {g_made g_blocks g_arrivals g_tip g_pooled g_chainLength : Int32} {b_op b_arg b_length b_ins b_inCoin b_inA b_inB b_outs b_amount b_lock b_parent b_work b_rewardLock b_height b_many b_holds b_delivered b_arrived b_pool b_chain b_from b_worth b_within b_spent b_stack b_again b_chosen gfe grw : Nat → Int32}
theorem yq_chosen {i : Nat} {x : Int32} (hi : i ≤ 4) {post : Int32 → Prop} (H1 : (∃ j, j < i ∧ b_chosen j = x) → post 1) (H0 : ¬ (∃ j, j < i ∧ b_chosen j = x) → post 0) : wpY_isChosen post (g_made, g_blocks, g_arrivals, g_tip, g_pooled, g_chainLength, b_op, b_arg, b_length, b_ins, b_inCoin, b_inA, b_inB, b_outs, b_amount, b_lock, b_parent, b_work, b_rewardLock, b_height, b_many, b_holds, b_delivered, b_arrived, b_pool, b_chain, b_from, b_worth, b_within, b_spent, b_stack, b_again, b_chosen) x (nI i) := by
  have key : ∀ (d j fuel : Nat), j + d = i → d < fuel → (∀ c, c < j → b_chosen c ≠ x) → wY_isChosen_2 post x (nI i) g_made g_blocks g_arrivals g_tip g_pooled g_chainLength b_op b_arg b_length b_ins b_inCoin b_inA b_inB b_outs b_amount b_lock b_parent b_work b_rewardLock b_height b_many b_holds b_delivered b_arrived b_pool b_chain b_from b_worth b_within b_spent b_stack b_again b_chosen fuel (nI j) := by
    intro d
    induction d with
    | zero =>
      intro j fuel hj hf hno
      obtain ⟨fuel, rfl⟩ : ∃ q, fuel = q + 1 := ⟨fuel - 1, by omega⟩
      obtain rfl : j = i := by omega
      exact br_t (nI_le (Nat.le_refl _) (by omega)) (H0 fun ⟨c, h1, h2⟩ => hno c h1 h2)
    | succ d ih =>
      intro j fuel hj hf hno
      obtain ⟨fuel, rfl⟩ : ∃ q, fuel = q + 1 := ⟨fuel - 1, by omega⟩
      refine pk_le i j (fun z => by omega) (fun z => ⟨pk_in j 4 (by omega), ?_⟩)
      rw [pk_cl j]
      refine br_c (fun q => H1 ⟨j, by omega, q⟩) (fun q => nm_r (nI_1 j) (ih (j + 1) fuel (by omega) (by omega) fun c hc => ?_))
      by_cases e : c = j
      · rw [e]; exact q
      · exact hno c (by omega)
  exact ⟨i + 1, key i 0 (i + 1) (by omega) (by omega) (fun c hc => by omega)⟩
theorem yq_free {made blocks np i t : Nat} {mk : Nat → Int32} (w : pd_wf (b_length, b_op, b_arg, b_ins, b_inCoin, b_inA, b_inB, b_outs, b_amount, b_lock, b_parent, b_height, b_rewardLock, b_many, b_holds, gfe, grw) made blocks) (hnp : np ≤ 12) (ep : g_pooled = nI np) (hp : pd_pl b_pool np made) (hi : i ≤ 4) (ht : t < made) (hsr : ∀ k, k < np → (mk k = 0 ↔ ¬ ∃ j, j < i ∧ b_chosen j = b_pool k)) {post : Int32 → Prop} (H0 : (∃ j, j < np ∧ mk j = 0 ∧ pd_needs (b_length, b_op, b_arg, b_ins, b_inCoin, b_inA, b_inB, b_outs, b_amount, b_lock, b_parent, b_height, b_rewardLock, b_many, b_holds, gfe, grw) t (b_pool j).toNatClampNeg) → post 0) (H1 : ¬ (∃ j, j < np ∧ mk j = 0 ∧ pd_needs (b_length, b_op, b_arg, b_ins, b_inCoin, b_inA, b_inB, b_outs, b_amount, b_lock, b_parent, b_height, b_rewardLock, b_many, b_holds, gfe, grw) t (b_pool j).toNatClampNeg) → post 1) : wpY_isFree post (g_made, g_blocks, g_arrivals, g_tip, g_pooled, g_chainLength, b_op, b_arg, b_length, b_ins, b_inCoin, b_inA, b_inB, b_outs, b_amount, b_lock, b_parent, b_work, b_rewardLock, b_height, b_many, b_holds, b_delivered, b_arrived, b_pool, b_chain, b_from, b_worth, b_within, b_spent, b_stack, b_again, b_chosen) (nI t) (nI i) := by
  have hm := w.2.2.1
  subst ep
  have key : ∀ (d c fuel : Nat), c + d = np → d < fuel → (∀ j, j < c → ¬ (mk j = 0 ∧ pd_needs (b_length, b_op, b_arg, b_ins, b_inCoin, b_inA, b_inB, b_outs, b_amount, b_lock, b_parent, b_height, b_rewardLock, b_many, b_holds, gfe, grw) t (b_pool j).toNatClampNeg)) → wY_isFree_2 post (nI t) (nI i) g_made g_blocks g_arrivals g_tip (nI np) g_chainLength b_op b_arg b_length b_ins b_inCoin b_inA b_inB b_outs b_amount b_lock b_parent b_work b_rewardLock b_height b_many b_holds b_delivered b_arrived b_pool b_chain b_from b_worth b_within b_spent b_stack b_again b_chosen fuel (nI c) := by
    intro d
    induction d with
    | zero =>
      intro c fuel hc hf hno
      obtain ⟨fuel, rfl⟩ : ∃ q, fuel = q + 1 := ⟨fuel - 1, by omega⟩
      obtain rfl : c = np := by omega
      exact br_t (nI_le (Nat.le_refl _) (by omega)) (H1 fun ⟨j, h1, h2⟩ => hno j h1 h2)
    | succ d ih =>
      intro c fuel hc hf hno
      obtain ⟨fuel, rfl⟩ : ∃ q, fuel = q + 1 := ⟨fuel - 1, by omega⟩
      obtain ⟨u, hu, eu⟩ := hp c (by omega)
      have euc := pd_cl eu (by omega)
      have nxt : ¬ (mk c = 0 ∧ pd_needs (b_length, b_op, b_arg, b_ins, b_inCoin, b_inA, b_inB, b_outs, b_amount, b_lock, b_parent, b_height, b_rewardLock, b_many, b_holds, gfe, grw) t u) → wY_isFree_2 post (nI t) (nI i) g_made g_blocks g_arrivals g_tip (nI np) g_chainLength b_op b_arg b_length b_ins b_inCoin b_inA b_inB b_outs b_amount b_lock b_parent b_work b_rewardLock b_height b_many b_holds b_delivered b_arrived b_pool b_chain b_from b_worth b_within b_spent b_stack b_again b_chosen fuel (nI (c + 1)) := fun q => ih (c + 1) fuel (by omega) (by omega) fun j hj => by
        by_cases e : j = c
        · subst e; rw [euc]; exact q
        · exact hno j (by omega)
      refine pk_le np c (fun z => by omega) (fun z => ⟨pk_in c 12 (by omega), ?_⟩)
      rw [pk_cl c]
      refine yq_chosen hi (fun q => br_f (by decide) (nm_r (nI_1 c) (nxt fun q' => (hsr c (by omega)).mp q'.1 q))) (fun q => br_t rfl ⟨pk_in c 12 (by omega), ?_⟩)
      rw [eu]
      exact yq_needs w ht (by omega) (fun z1 => br_f (by decide) (H0 ⟨c, by omega, (hsr c (by omega)).mpr q, by rw [euc]; exact z1⟩)) (fun z1 => br_t rfl (nm_r (nI_1 c) (nxt fun q' => z1 q'.2)))
  exact ⟨np + 1, key np 0 (np + 1) (by omega) (by omega) (fun j hj => by omega)⟩
theorem ym_best {made blocks np i : Nat} {mk : Nat → Int32} {x1 x2 : Int32} (w : pd_wf (b_length, b_op, b_arg, b_ins, b_inCoin, b_inA, b_inB, b_outs, b_amount, b_lock, b_parent, b_height, b_rewardLock, b_many, b_holds, gfe, grw) made blocks) (fq : pd_feq (b_length, b_op, b_arg, b_ins, b_inCoin, b_inA, b_inB, b_outs, b_amount, b_lock, b_parent, b_height, b_rewardLock, b_many, b_holds, gfe, grw) made) (hnp : np ≤ 12) (ep : g_pooled = nI np) (hp : pd_pl b_pool np made) (hi : i ≤ 4) (hsr : ∀ k, k < np → (mk k = 0 ↔ ¬ ∃ j, j < i ∧ b_chosen j = b_pool k))
    (hw : ∀ k, k < np → ∀ i, i < (pd_ic (b_length, b_op, b_arg, b_ins, b_inCoin, b_inA, b_inB, b_outs, b_amount, b_lock, b_parent, b_height, b_rewardLock, b_many, b_holds, gfe, grw) (b_pool k).toNatClampNeg).toNatClampNeg → 120 ≤ (b_inCoin (3 * (b_pool k).toNatClampNeg + i)).toNatClampNeg → b_worth (b_inCoin (3 * (b_pool k).toNatClampNeg + i)).toNatClampNeg = grw ((b_inCoin (3 * (b_pool k).toNatClampNeg + i)).toNatClampNeg - 120)) {post : Int32 → SY → Prop} {J : Int32 → Int32 → (Nat → Int32) → (Nat → Int32) → (Nat → Int32) → (Nat → Int32) → (Nat → Int32) → (Nat → Int32) → (Nat → Int32) → (Nat → Int32) → (Nat → Int32) → (Nat → Int32) → (Nat → Int32) → (Nat → Int32) → (Nat → Int32) → (Nat → Int32) → (Nat → Int32) → (Nat → Int32) → (Nat → Int32) → (Nat → Int32) → (Nat → Int32) → (Nat → Int32) → (Nat → Int32) → (Nat → Int32) → (Nat → Int32) → (Nat → Int32) → (Nat → Int32) → (Nat → Int32) → (Nat → Int32) → Prop}
    (HN : bs_f (el_p (b_length, b_op, b_arg, b_ins, b_inCoin, b_inA, b_inB, b_outs, b_amount, b_lock, b_parent, b_height, b_rewardLock, b_many, b_holds, gfe, grw) b_pool mk np) (fun k => gfe (b_pool k).toNatClampNeg) np = none → wY_forge_167 post x1 x2 (nI i) g_made g_blocks g_arrivals g_tip g_pooled g_chainLength b_op b_arg b_length b_ins b_inCoin b_inA b_inB b_outs b_amount b_lock b_parent b_work b_rewardLock b_height b_many b_holds b_delivered b_arrived b_pool b_chain b_from b_worth b_within b_spent b_stack b_again b_chosen)
    (HS : ∀ b, bs_f (el_p (b_length, b_op, b_arg, b_ins, b_inCoin, b_inA, b_inB, b_outs, b_amount, b_lock, b_parent, b_height, b_rewardLock, b_many, b_holds, gfe, grw) b_pool mk np) (fun k => gfe (b_pool k).toNatClampNeg) np = some b → i < 4 → J (nI (i + 1)) (nI (i + 1)) b_op b_arg b_length b_ins b_inCoin b_inA b_inB b_outs b_amount b_lock b_parent b_work b_rewardLock b_height b_many b_holds b_delivered b_arrived b_pool b_chain b_from b_worth b_within b_spent b_stack b_again (upd b_chosen i (b_pool b))) (h4 : i < 4) :
    ∃ fuel, wY_forge_60 post J x1 x2 (nI i) (nI i) g_made g_blocks g_arrivals g_tip g_pooled g_chainLength b_op b_arg b_length b_ins b_inCoin b_inA b_inB b_outs b_amount b_lock b_parent b_work b_rewardLock b_height b_many b_holds b_delivered b_arrived b_pool b_chain b_from b_worth b_within b_spent b_stack b_again b_chosen fuel (-1) 0 := by
  have hm := w.2.2.1
  subst ep
  have key : ∀ (d c fuel : Nat), c + d = np → d < fuel → wY_forge_60 post J x1 x2 (nI i) (nI i) g_made g_blocks g_arrivals g_tip (nI np) g_chainLength b_op b_arg b_length b_ins b_inCoin b_inA b_inB b_outs b_amount b_lock b_parent b_work b_rewardLock b_height b_many b_holds b_delivered b_arrived b_pool b_chain b_from b_worth b_within b_spent b_stack b_again b_chosen fuel (bs_y b_pool (bs_f (el_p (b_length, b_op, b_arg, b_ins, b_inCoin, b_inA, b_inB, b_outs, b_amount, b_lock, b_parent, b_height, b_rewardLock, b_many, b_holds, gfe, grw) b_pool mk np) (fun k => gfe (b_pool k).toNatClampNeg) c)) (nI c) := by
    intro d
    induction d with
    | zero =>
      intro c fuel hc hf
      obtain ⟨fuel, rfl⟩ : ∃ q, fuel = q + 1 := ⟨fuel - 1, by omega⟩
      obtain rfl : c = np := by omega
      refine br_t (nI_le (Nat.le_refl _) (by omega)) ?_
      cases hb : bs_f (el_p (b_length, b_op, b_arg, b_ins, b_inCoin, b_inA, b_inB, b_outs, b_amount, b_lock, b_parent, b_height, b_rewardLock, b_many, b_holds, gfe, grw) b_pool mk c) (fun k => gfe (b_pool k).toNatClampNeg) c with
      | none => exact br_f (pd_m1 : ¬ (0 : Int32) ≤ -1) (HN hb)
      | some b =>
        obtain ⟨u, hu, eu⟩ := hp b (bs_lt c b hb).1
        have hpos : 0 ≤ bs_y b_pool (some b) := by show 0 ≤ b_pool b; rw [eu]; exact nI_pos' (by omega)
        exact br_t hpos ⟨pk_in i 4 h4, nm_r (by rw [pk_cl i] <;> rfl) (nm_r (nI_1 i) (nm_r (nI_1 i) (HS b hb h4)))⟩
    | succ d ih =>
      intro c fuel hc hf
      obtain ⟨fuel, rfl⟩ : ∃ q, fuel = q + 1 := ⟨fuel - 1, by omega⟩
      obtain ⟨u, hu, eu⟩ := hp c (by omega)
      have euc := pd_cl eu (by omega)
      have nx := ih (c + 1) fuel (by omega) (by omega)
      have hwc := hw c (by omega)
      rw [euc] at hwc
      refine pk_le np c (fun z => by omega) (fun z => ⟨pk_in c 12 (by omega), ?_⟩)
      rw [pk_cl c]
      refine yq_chosen hi (fun q => br_f (by decide) (nm_r (nI_1 c) ?_)) (fun q => br_t rfl ⟨pk_in c 12 (by omega), ?_⟩)
      · rw [bs_n (fun e => (hsr c (by omega)).mp e.1 q)] at nx; exact nx
      · have q0 : mk c = 0 := (hsr c (by omega)).mpr q
        rw [eu]
        refine yq_free w hnp rfl hp hi hu hsr (fun z1 => br_t rfl (nm_r (nI_1 c) ?_)) (fun z1 => br_f (by decide) ?_)
        · rw [bs_n (fun e => e.2 (by rw [euc]; exact z1))] at nx; exact nx
        · rw [bs_t ⟨q0, by rw [euc]; exact z1⟩] at nx
          cases hb : bs_f (el_p (b_length, b_op, b_arg, b_ins, b_inCoin, b_inA, b_inB, b_outs, b_amount, b_lock, b_parent, b_height, b_rewardLock, b_many, b_holds, gfe, grw) b_pool mk np) (fun k => gfe (b_pool k).toNatClampNeg) c with
          | none =>
            rw [hb] at nx
            refine br_t (by decide : (-1 : Int32) < 0) ⟨pk_in c 12 (by omega), nm_e (nm_r (nI_1 c) ?_)⟩
            rw [← eu]; exact nx
          | some b =>
            rw [hb] at nx
            have hbl := (bs_lt c b hb).1
            obtain ⟨u2, hu2, eu2⟩ := hp b (by omega)
            have euc2 := pd_cl eu2 (by omega)
            have hwb := hw b (by omega)
            rw [euc2] at hwb
            dsimp only at nx
            rw [euc, euc2] at nx
            have ebb : bs_y b_pool (some b) = nI u2 := eu2
            rw [ebb]
            refine br_f (nI_pos (by omega)) ⟨pk_in c 12 (by omega), yq_fee w fq hu hwc (yq_fee w fq hu2 hwb (br_c (fun z2 => nm_r (nI_1 c) ?_) (fun z2 => ⟨pk_in c 12 (by omega), nm_e (nm_r (nI_1 c) ?_)⟩)))⟩
            · rw [if_pos z2] at nx
              rw [← ebb]; exact nx
            · rw [if_neg z2] at nx
              rw [← eu]; exact nx
  exact ⟨np + 1, key np 0 (np + 1) (by omega) (by omega)⟩
end

/-! rivals: X's one pass, Y's closure -/
def pd_pl (pl : pd_F) (np made : Nat) : Prop := ∀ k, k < np → ∃ u, u < made ∧ pl k = nI u
def pd_ms (D : pd_D) (pl : pd_F) (np t : Nat) (mk : pd_F) : Prop := ∀ k, k < np → (mk k = 0 ∨ mk k = 1) ∧ (mk k = 1 ↔ (pd_share D t (pl k).toNatClampNeg ∨ ∃ j, j < k ∧ mk j = 1 ∧ pd_needs D (pl k).toNatClampNeg (pl j).toNatClampNeg))
def pd_mf (mk fe pl : pd_F) : Nat → Int32
  | 0 => 0
  | k + 1 => if mk k = 0 then pd_mf mk fe pl k else pd_mf mk fe pl k + fe (pl k).toNatClampNeg
def pd_rm (mk pl : pd_F) : Nat → pd_F × Nat
  | 0 => (pl, 0)
  | k + 1 => if mk k = 0 then (upd (pd_rm mk pl k).1 (pd_rm mk pl k).2 ((pd_rm mk pl k).1 k), (pd_rm mk pl k).2 + 1) else pd_rm mk pl k
theorem pd_rm_le (mk pl : pd_F) : ∀ k, (pd_rm mk pl k).2 ≤ k := by
  intro k
  induction k with
  | zero => exact Nat.le_refl _
  | succ k ih =>
    rw [pd_rm]
    split
    · show (pd_rm mk pl k).2 + 1 ≤ k + 1; omega
    · omega
theorem pd_ms_ag {D E : pd_D} {made blocks t np : Nat} {pl mk : pd_F} (w : pd_wf D made blocks) (a : pd_ag D E made blocks) (ht : t < made) (hp : pd_pl pl np made) (m : pd_ms D pl np t mk) : pd_ms E pl np t mk := by
  intro k hk
  obtain ⟨h1, h2⟩ := m k hk
  refine ⟨h1, h2.trans ?_⟩
  obtain ⟨u, hu, eu⟩ := hp k hk
  have := w.2.2.1
  have euc := pd_cl eu (by omega)
  rw [euc]
  refine or_congr (pd_ag_share a ht hu).symm (exists_congr fun j => and_congr_right fun _ => and_congr_right fun _ => (pd_ag_needs a hu).symm)
theorem yb_one (i : Nat) : bt 1 i = decide (i = 0) := by
  rcases Nat.lt_or_ge i 32 with h | h
  · exact (by decide +kernel : ∀ i, i < 32 → bt 1 i = decide (i = 0)) i h
  · rw [b_big h, decide_eq_false (by omega)]
theorem yb_bit (x : Int32) {k : Nat} (hk : k < 32) : (x >>> (nI k &&& 31)) &&& 1 = if bt x k = true then 1 else 0 := by
  refine b_ext fun i hi => ?_
  rw [b_and, yb_one, b_sshr k hk x hi]
  by_cases e : i = 0
  · subst e
    rw [if_pos (by omega), Nat.add_zero]
    by_cases q : bt x k = true
    · rw [if_pos q, q]; rfl
    · rw [if_neg q]
      have : bt x k = false := by cases h : bt x k with
        | true => exact (q h).elim
        | false => rfl
      rw [this]; rfl
  · rw [decide_eq_false e, Bool.and_false]
    split
    · rw [yb_one, decide_eq_false e]
    · rw [b_0]
theorem yb_bit1 (x : Int32) {k : Nat} (hk : k < 32) : ((x >>> (nI k &&& 31)) &&& 1 = 1) ↔ bt x k = true := by
  rw [yb_bit x hk]
  split
  · exact ⟨fun _ => ‹_›, fun _ => rfl⟩
  · exact ⟨fun z => absurd z (by decide), fun z => absurd z ‹_›⟩
theorem yb_bit0 (x : Int32) {k : Nat} (hk : k < 32) : ((x >>> (nI k &&& 31)) &&& 1 = 0) ↔ ¬ bt x k = true := by
  rw [yb_bit x hk]
  split
  · exact ⟨fun z => absurd z (by decide), fun z => absurd ‹_› z⟩
  · exact ⟨fun _ => ‹_›, fun _ => rfl⟩
theorem yb_or (x : Int32) {i j : Nat} (hi : i < 32) (hj : j < 32) : bt (x ||| ((1 : Int32) <<< (nI i &&& 31))) j = true ↔ (bt x j = true ∨ j = i) := by
  rw [b_or, b_shl i hi 1 hj, yb_one, Bool.or_eq_true, Bool.and_eq_true, decide_eq_true_iff, decide_eq_true_iff]
  refine or_congr Iff.rfl ⟨fun q => by omega, fun q => by omega⟩
section
variable {f_stackSize f_transactions f_putCount f_blocks f_tip f_poolCount f_queueCount : Int32} {a_tokenCount a_tokenOp a_tokenValue a_scriptInUse a_stack a_inputCount a_inputCoin a_inputA a_inputB a_outputCount a_outputAmount a_outputScript a_feeOf a_putRow a_parentOf a_heightOf a_chainWork a_blockState a_rewardAmount a_rewardScript a_blockSize a_blockTransaction a_laidBlock a_coinHeight a_coinSpent a_transactionHeight a_poolRow a_marked a_queue : Nat → Int32}
theorem xm_hasMarked {made blocks t np : Nat} (w : pd_wf (a_tokenCount, a_tokenOp, a_tokenValue, a_inputCount, a_inputCoin, a_inputA, a_inputB, a_outputCount, a_outputAmount, a_outputScript, a_parentOf, a_heightOf, a_rewardScript, a_blockSize, a_blockTransaction, a_feeOf, a_rewardAmount) made blocks) (ht : t < made) (hnp : np ≤ 12) (ep : f_poolCount = nI np) (hp : pd_pl a_poolRow np made) {post : Int32 → Prop} (H1 : (∃ j, j < np ∧ ¬ a_marked j = 0 ∧ pd_needs (a_tokenCount, a_tokenOp, a_tokenValue, a_inputCount, a_inputCoin, a_inputA, a_inputB, a_outputCount, a_outputAmount, a_outputScript, a_parentOf, a_heightOf, a_rewardScript, a_blockSize, a_blockTransaction, a_feeOf, a_rewardAmount) t (a_poolRow j).toNatClampNeg) → post 1) (H0 : ¬ (∃ j, j < np ∧ ¬ a_marked j = 0 ∧ pd_needs (a_tokenCount, a_tokenOp, a_tokenValue, a_inputCount, a_inputCoin, a_inputA, a_inputB, a_outputCount, a_outputAmount, a_outputScript, a_parentOf, a_heightOf, a_rewardScript, a_blockSize, a_blockTransaction, a_feeOf, a_rewardAmount) t (a_poolRow j).toNatClampNeg) → post 0) : wpX_hasMarkedOutput post (f_stackSize, f_transactions, f_putCount, f_blocks, f_tip, f_poolCount, f_queueCount, a_tokenCount, a_tokenOp, a_tokenValue, a_scriptInUse, a_stack, a_inputCount, a_inputCoin, a_inputA, a_inputB, a_outputCount, a_outputAmount, a_outputScript, a_feeOf, a_putRow, a_parentOf, a_heightOf, a_chainWork, a_blockState, a_rewardAmount, a_rewardScript, a_blockSize, a_blockTransaction, a_laidBlock, a_coinHeight, a_coinSpent, a_transactionHeight, a_poolRow, a_marked, a_queue) (nI t) := by
  have hm := w.2.2.1
  subst ep
  have key : ∀ (d i fuel : Nat), i + d = np → d < fuel → (∀ k, k < i → ¬ (¬ a_marked k = 0 ∧ pd_needs (a_tokenCount, a_tokenOp, a_tokenValue, a_inputCount, a_inputCoin, a_inputA, a_inputB, a_outputCount, a_outputAmount, a_outputScript, a_parentOf, a_heightOf, a_rewardScript, a_blockSize, a_blockTransaction, a_feeOf, a_rewardAmount) t (a_poolRow k).toNatClampNeg)) → wX_hasMarkedOutput_2 post (nI t) f_stackSize f_transactions f_putCount f_blocks f_tip (nI np) f_queueCount a_tokenCount a_tokenOp a_tokenValue a_scriptInUse a_stack a_inputCount a_inputCoin a_inputA a_inputB a_outputCount a_outputAmount a_outputScript a_feeOf a_putRow a_parentOf a_heightOf a_chainWork a_blockState a_rewardAmount a_rewardScript a_blockSize a_blockTransaction a_laidBlock a_coinHeight a_coinSpent a_transactionHeight a_poolRow a_marked a_queue fuel (nI i) := by
    intro d
    induction d with
    | zero =>
      intro i fuel hi hf hk
      obtain ⟨fuel, rfl⟩ : ∃ q, fuel = q + 1 := ⟨fuel - 1, by omega⟩
      obtain rfl : i = np := by omega
      exact br_t (nI_le (Nat.le_refl _) (by omega)) (H0 fun ⟨k, h1, h2⟩ => hk k h1 h2)
    | succ d ih =>
      intro i fuel hi hf hk
      obtain ⟨fuel, rfl⟩ : ∃ q, fuel = q + 1 := ⟨fuel - 1, by omega⟩
      obtain ⟨u, hu, eu⟩ := hp i (by omega)
      have euc := pd_cl eu (by omega)
      have nxt : ¬ (¬ a_marked i = 0 ∧ pd_needs (a_tokenCount, a_tokenOp, a_tokenValue, a_inputCount, a_inputCoin, a_inputA, a_inputB, a_outputCount, a_outputAmount, a_outputScript, a_parentOf, a_heightOf, a_rewardScript, a_blockSize, a_blockTransaction, a_feeOf, a_rewardAmount) t u) → wX_hasMarkedOutput_2 post (nI t) f_stackSize f_transactions f_putCount f_blocks f_tip (nI np) f_queueCount a_tokenCount a_tokenOp a_tokenValue a_scriptInUse a_stack a_inputCount a_inputCoin a_inputA a_inputB a_outputCount a_outputAmount a_outputScript a_feeOf a_putRow a_parentOf a_heightOf a_chainWork a_blockState a_rewardAmount a_rewardScript a_blockSize a_blockTransaction a_laidBlock a_coinHeight a_coinSpent a_transactionHeight a_poolRow a_marked a_queue fuel (nI (i + 1)) := fun q => ih (i + 1) fuel (by omega) (by omega) fun k hk' => by
        by_cases e : k = i
        · subst e; rw [euc]; exact q
        · exact hk k (by omega)
      refine pk_le np i (fun z => by omega) (fun z => ⟨pk_in i 12 (by omega), ?_⟩)
      rw [pk_cl i, eu]
      refine br_c (fun q => nm_r (nI_1 i) (nxt fun q' => q'.1 q)) (fun q => ⟨pk_in i 12 (by omega), xq_needs w ht (by omega) (fun z1 => br_f (by decide) (H1 ⟨i, by omega, q, by rw [euc]; exact z1⟩)) (fun z1 => br_t rfl (nm_r (nI_1 i) (nxt fun q' => z1 q'.2)))⟩)
  exact ⟨np + 1, key np 0 (np + 1) (by omega) (by omega) (fun k hk => by omega)⟩
theorem xm_mr70 {k : Nat} {x1 any z : Int32} (hk : k < 12) (hz : z = 0 ∨ z = 1) {post : Int32 → SX → Prop} {J : Int32 → Int32 → (Nat → Int32) → (Nat → Int32) → (Nat → Int32) → (Nat → Int32) → (Nat → Int32) → (Nat → Int32) → (Nat → Int32) → (Nat → Int32) → (Nat → Int32) → (Nat → Int32) → (Nat → Int32) → (Nat → Int32) → (Nat → Int32) → (Nat → Int32) → (Nat → Int32) → (Nat → Int32) → (Nat → Int32) → (Nat → Int32) → (Nat → Int32) → (Nat → Int32) → (Nat → Int32) → (Nat → Int32) → (Nat → Int32) → (Nat → Int32) → (Nat → Int32) → (Nat → Int32) → (Nat → Int32) → (Nat → Int32) → (Nat → Int32) → Prop} (H : J (if any = 0 then z else 1) (nI (k + 1)) a_tokenCount a_tokenOp a_tokenValue a_scriptInUse a_stack a_inputCount a_inputCoin a_inputA a_inputB a_outputCount a_outputAmount a_outputScript a_feeOf a_putRow a_parentOf a_heightOf a_chainWork a_blockState a_rewardAmount a_rewardScript a_blockSize a_blockTransaction a_laidBlock a_coinHeight a_coinSpent a_transactionHeight a_poolRow (upd a_marked k z) a_queue) : wX_markRivals_70 post J x1 any (nI k) z (nI k) f_stackSize f_transactions f_putCount f_blocks f_tip f_poolCount f_queueCount a_tokenCount a_tokenOp a_tokenValue a_scriptInUse a_stack a_inputCount a_inputCoin a_inputA a_inputB a_outputCount a_outputAmount a_outputScript a_feeOf a_putRow a_parentOf a_heightOf a_chainWork a_blockState a_rewardAmount a_rewardScript a_blockSize a_blockTransaction a_laidBlock a_coinHeight a_coinSpent a_transactionHeight a_poolRow a_marked a_queue := by
  have ez : vp_nar .boolean z = z := by rcases hz with rfl | rfl <;> rfl
  refine ⟨pk_in k 12 hk, nm_r (by rw [pk_cl k, ez]) ?_⟩
  by_cases h : any = 0
  · rw [if_pos h] at H
    refine br_t h ⟨pk_in k 12 hk, ?_⟩
    rw [pk_cl k, pk_us]
    rcases hz with rfl | rfl
    · exact br_t rfl (nm_r (nI_1 k) H)
    · exact br_f (by decide) (nm_r (nI_1 k) H)
  · rw [if_neg h] at H
    exact br_f h (nm_r (nI_1 k) H)
theorem xm_marks {made blocks t np : Nat} (w : pd_wf (a_tokenCount, a_tokenOp, a_tokenValue, a_inputCount, a_inputCoin, a_inputA, a_inputB, a_outputCount, a_outputAmount, a_outputScript, a_parentOf, a_heightOf, a_rewardScript, a_blockSize, a_blockTransaction, a_feeOf, a_rewardAmount) made blocks) (ht : t < made) (hnp : np ≤ 12) (ep : f_poolCount = nI np) (hp : pd_pl a_poolRow np made) {post : Int32 → SX → Prop}
    (H : ∀ (mk : Nat → Int32) (any : Int32), pd_ms (a_tokenCount, a_tokenOp, a_tokenValue, a_inputCount, a_inputCoin, a_inputA, a_inputB, a_outputCount, a_outputAmount, a_outputScript, a_parentOf, a_heightOf, a_rewardScript, a_blockSize, a_blockTransaction, a_feeOf, a_rewardAmount) a_poolRow np t mk → ((any = 0 ∧ ∀ k, k < np → mk k = 0) ∨ (any = 1 ∧ ∃ k, k < np ∧ mk k = 1)) → post any (f_stackSize, f_transactions, f_putCount, f_blocks, f_tip, f_poolCount, f_queueCount, a_tokenCount, a_tokenOp, a_tokenValue, a_scriptInUse, a_stack, a_inputCount, a_inputCoin, a_inputA, a_inputB, a_outputCount, a_outputAmount, a_outputScript, a_feeOf, a_putRow, a_parentOf, a_heightOf, a_chainWork, a_blockState, a_rewardAmount, a_rewardScript, a_blockSize, a_blockTransaction, a_laidBlock, a_coinHeight, a_coinSpent, a_transactionHeight, a_poolRow, mk, a_queue)) : wpX_markRivals post (f_stackSize, f_transactions, f_putCount, f_blocks, f_tip, f_poolCount, f_queueCount, a_tokenCount, a_tokenOp, a_tokenValue, a_scriptInUse, a_stack, a_inputCount, a_inputCoin, a_inputA, a_inputB, a_outputCount, a_outputAmount, a_outputScript, a_feeOf, a_putRow, a_parentOf, a_heightOf, a_chainWork, a_blockState, a_rewardAmount, a_rewardScript, a_blockSize, a_blockTransaction, a_laidBlock, a_coinHeight, a_coinSpent, a_transactionHeight, a_poolRow, a_marked, a_queue) (nI t) := by
  have hm := w.2.2.1
  subst ep
  have L25 : ∀ (d i fuel : Nat) (any : Int32) (mk : Nat → Int32), i + d = np → d < fuel → pd_ms (a_tokenCount, a_tokenOp, a_tokenValue, a_inputCount, a_inputCoin, a_inputA, a_inputB, a_outputCount, a_outputAmount, a_outputScript, a_parentOf, a_heightOf, a_rewardScript, a_blockSize, a_blockTransaction, a_feeOf, a_rewardAmount) a_poolRow i t mk → (∀ k, i ≤ k → k < 12 → mk k = 0) → ((any = 0 ∧ ∀ k, k < i → mk k = 0) ∨ (any = 1 ∧ ∃ k, k < i ∧ mk k = 1)) → wX_markRivals_25 post (nI t) f_stackSize f_transactions f_putCount f_blocks f_tip (nI np) f_queueCount fuel any (nI i) a_tokenCount a_tokenOp a_tokenValue a_scriptInUse a_stack a_inputCount a_inputCoin a_inputA a_inputB a_outputCount a_outputAmount a_outputScript a_feeOf a_putRow a_parentOf a_heightOf a_chainWork a_blockState a_rewardAmount a_rewardScript a_blockSize a_blockTransaction a_laidBlock a_coinHeight a_coinSpent a_transactionHeight a_poolRow mk a_queue := by
    intro d
    induction d with
    | zero =>
      intro i fuel any mk hi hf hms h0 hany
      obtain ⟨fuel, rfl⟩ : ∃ q, fuel = q + 1 := ⟨fuel - 1, by omega⟩
      obtain rfl : i = np := by omega
      refine br_t (nI_le (Nat.le_refl _) (by omega)) ⟨?_, H mk any hms hany⟩
      rcases hany with ⟨rfl, _⟩ | ⟨rfl, _⟩ <;> rfl
    | succ d ih =>
      intro i fuel any mk hi hf hms h0 hany
      obtain ⟨fuel, rfl⟩ : ∃ q, fuel = q + 1 := ⟨fuel - 1, by omega⟩
      obtain ⟨u, hu, eu⟩ := hp i (by omega)
      have euc := pd_cl eu (by omega)
      have stepz : ∀ z : Int32, (z = 0 ∨ z = 1) → (z = 1 ↔ (pd_share (a_tokenCount, a_tokenOp, a_tokenValue, a_inputCount, a_inputCoin, a_inputA, a_inputB, a_outputCount, a_outputAmount, a_outputScript, a_parentOf, a_heightOf, a_rewardScript, a_blockSize, a_blockTransaction, a_feeOf, a_rewardAmount) t u ∨ ∃ j, j < i ∧ mk j = 1 ∧ pd_needs (a_tokenCount, a_tokenOp, a_tokenValue, a_inputCount, a_inputCoin, a_inputA, a_inputB, a_outputCount, a_outputAmount, a_outputScript, a_parentOf, a_heightOf, a_rewardScript, a_blockSize, a_blockTransaction, a_feeOf, a_rewardAmount) u (a_poolRow j).toNatClampNeg)) → wX_markRivals_25 post (nI t) f_stackSize f_transactions f_putCount f_blocks f_tip (nI np) f_queueCount fuel (if any = 0 then z else 1) (nI (i + 1)) a_tokenCount a_tokenOp a_tokenValue a_scriptInUse a_stack a_inputCount a_inputCoin a_inputA a_inputB a_outputCount a_outputAmount a_outputScript a_feeOf a_putRow a_parentOf a_heightOf a_chainWork a_blockState a_rewardAmount a_rewardScript a_blockSize a_blockTransaction a_laidBlock a_coinHeight a_coinSpent a_transactionHeight a_poolRow (upd mk i z) a_queue := by
        intro z hz hiff
        refine ih (i + 1) fuel _ _ (by omega) (by omega) (fun k hk => ?_) (fun k h1 h2 => ?_) ?_
        · by_cases e : k = i
          · subst e
            rw [pk_us, euc]
            refine ⟨hz, hiff.trans (or_congr Iff.rfl (exists_congr fun j => and_congr_right fun hj => ?_))⟩
            rw [pk_un (by omega)]
          · rw [pk_un e]
            obtain ⟨q1, q2⟩ := hms k (by omega)
            refine ⟨q1, q2.trans (or_congr Iff.rfl (exists_congr fun j => and_congr_right fun hj => ?_))⟩
            rw [pk_un (by omega)]
        · rw [pk_un (by omega)]; exact h0 k (by omega) h2
        · rcases hany with ⟨rfl, hn⟩ | ⟨rfl, k, h1, h2⟩
          · rw [if_pos rfl]
            rcases hz with rfl | rfl
            · refine Or.inl ⟨rfl, fun k hk => ?_⟩
              by_cases e : k = i
              · rw [e, pk_us]
              · rw [pk_un e]; exact hn k (by omega)
            · exact Or.inr ⟨rfl, i, by omega, pk_us⟩
          · rw [if_neg (by decide)]
            exact Or.inr ⟨rfl, k, by omega, by rw [pk_un (by omega)]; exact h2⟩
      refine pk_le np i (fun z => by omega) (fun z => ⟨pk_in i 12 (by omega), ?_⟩)
      rw [pk_cl i, eu]
      refine xq_share w ht hu (fun q => br_f (by decide) ?_) (fun q => br_t rfl ⟨pk_in i 12 (by omega), ?_⟩)
      · exact xm_mr70 (by omega) (Or.inr rfl) (stepz 1 (Or.inr rfl) ⟨fun _ => Or.inl q, fun _ => rfl⟩)
      · refine xm_hasMarked w hu hnp rfl hp (fun q2 => br_f (by decide) ?_) (fun q2 => br_t rfl ?_)
        · refine xm_mr70 (by omega) (Or.inr rfl) (stepz 1 (Or.inr rfl) ⟨fun _ => Or.inr ?_, fun _ => rfl⟩)
          obtain ⟨j, h1, h2, h3⟩ := q2
          have hji : j < i := by
            rcases Nat.lt_or_ge j i with h | h
            · exact h
            · exact (h2 (h0 j h (by omega))).elim
          rcases (hms j hji).1 with e | e
          · exact (h2 e).elim
          · exact ⟨j, hji, e, h3⟩
        · refine xm_mr70 (by omega) (Or.inl rfl) (stepz 0 (Or.inl rfl) ⟨fun e => absurd e (by decide), fun e => ?_⟩)
          rcases e with e | ⟨j, h1, h2, h3⟩
          · exact (q e).elim
          · exact (q2 ⟨j, by omega, by rw [h2]; decide, h3⟩).elim
  have L2 : ∀ (d i fuel : Nat), i + d = 12 → d < fuel → wX_markRivals_2 post (nI t) f_stackSize f_transactions f_putCount f_blocks f_tip (nI np) f_queueCount fuel (nI i) a_tokenCount a_tokenOp a_tokenValue a_scriptInUse a_stack a_inputCount a_inputCoin a_inputA a_inputB a_outputCount a_outputAmount a_outputScript a_feeOf a_putRow a_parentOf a_heightOf a_chainWork a_blockState a_rewardAmount a_rewardScript a_blockSize a_blockTransaction a_laidBlock a_coinHeight a_coinSpent a_transactionHeight a_poolRow (pd_reset a_marked i 0) a_queue := by
    intro d
    induction d with
    | zero =>
      intro i fuel hd hf
      obtain ⟨fuel, rfl⟩ : ∃ q, fuel = q + 1 := ⟨fuel - 1, by omega⟩
      obtain rfl : i = 12 := by omega
      exact br_t (by decide) ⟨np + 1, L25 np 0 (np + 1) 0 _ (by omega) (by omega) (fun k hk => by omega) (fun k _ h2 => if_pos h2) (Or.inl ⟨rfl, fun k hk => by omega⟩)⟩
    | succ d ih =>
      intro i fuel hd hf
      obtain ⟨fuel, rfl⟩ : ∃ q, fuel = q + 1 := ⟨fuel - 1, by omega⟩
      exact pk_le 12 i (fun z => by omega) (fun z => ⟨pk_in i 12 (by omega), nm_r (by rw [pk_cl i, xb_0, ← pd_reset_s]) (nm_r (nI_1 i) (ih (i + 1) fuel (by omega) (by omega)))⟩)
  have := L2 12 0 13 (by omega) (by omega)
  rw [pd_reset_0] at this
  exact ⟨13, this⟩
theorem xm_markedFees {made np : Nat} (hm : made ≤ 40) (hnp : np ≤ 12) (ep : f_poolCount = nI np) (hp : pd_pl a_poolRow np made) {post : Int32 → Prop} (H : post (pd_mf a_marked a_feeOf a_poolRow np)) : wpX_markedFees post (f_stackSize, f_transactions, f_putCount, f_blocks, f_tip, f_poolCount, f_queueCount, a_tokenCount, a_tokenOp, a_tokenValue, a_scriptInUse, a_stack, a_inputCount, a_inputCoin, a_inputA, a_inputB, a_outputCount, a_outputAmount, a_outputScript, a_feeOf, a_putRow, a_parentOf, a_heightOf, a_chainWork, a_blockState, a_rewardAmount, a_rewardScript, a_blockSize, a_blockTransaction, a_laidBlock, a_coinHeight, a_coinSpent, a_transactionHeight, a_poolRow, a_marked, a_queue) := by
  subst ep
  have key : ∀ (d i fuel : Nat), i + d = np → d < fuel → wX_markedFees_4 post f_stackSize f_transactions f_putCount f_blocks f_tip (nI np) f_queueCount a_tokenCount a_tokenOp a_tokenValue a_scriptInUse a_stack a_inputCount a_inputCoin a_inputA a_inputB a_outputCount a_outputAmount a_outputScript a_feeOf a_putRow a_parentOf a_heightOf a_chainWork a_blockState a_rewardAmount a_rewardScript a_blockSize a_blockTransaction a_laidBlock a_coinHeight a_coinSpent a_transactionHeight a_poolRow a_marked a_queue fuel (pd_mf a_marked a_feeOf a_poolRow i) (nI i) := by
    intro d
    induction d with
    | zero =>
      intro i fuel hi hf
      obtain ⟨fuel, rfl⟩ : ∃ q, fuel = q + 1 := ⟨fuel - 1, by omega⟩
      obtain rfl : i = np := by omega
      exact br_t (nI_le (Nat.le_refl _) (by omega)) H
    | succ d ih =>
      intro i fuel hi hf
      obtain ⟨fuel, rfl⟩ : ∃ q, fuel = q + 1 := ⟨fuel - 1, by omega⟩
      obtain ⟨u, hu, eu⟩ := hp i (by omega)
      have hnx := ih (i + 1) fuel (by omega) (by omega)
      rw [pd_mf] at hnx
      refine pk_le np i (fun z => by omega) (fun z => ⟨pk_in i 12 (by omega), ?_⟩)
      rw [pk_cl i]
      refine br_c (fun q => nm_r (nI_1 i) ?_) (fun q => ⟨pk_in i 12 (by omega), pk_in u 40 (by omega) eu, nm_e (nm_r (nI_1 i) ?_)⟩)
      · rw [if_pos q] at hnx; exact hnx
      · rw [if_neg q] at hnx; exact hnx
  exact ⟨np + 1, key np 0 (np + 1) (by omega) (by omega)⟩
theorem xm_remove {np : Nat} (hnp : np ≤ 12) (ep : f_poolCount = nI np) {post : SX → Prop} (H : post (f_stackSize, f_transactions, f_putCount, f_blocks, f_tip, nI (pd_rm a_marked a_poolRow np).2, f_queueCount, a_tokenCount, a_tokenOp, a_tokenValue, a_scriptInUse, a_stack, a_inputCount, a_inputCoin, a_inputA, a_inputB, a_outputCount, a_outputAmount, a_outputScript, a_feeOf, a_putRow, a_parentOf, a_heightOf, a_chainWork, a_blockState, a_rewardAmount, a_rewardScript, a_blockSize, a_blockTransaction, a_laidBlock, a_coinHeight, a_coinSpent, a_transactionHeight, (pd_rm a_marked a_poolRow np).1, a_marked, a_queue)) : wpX_removeMarked post (f_stackSize, f_transactions, f_putCount, f_blocks, f_tip, f_poolCount, f_queueCount, a_tokenCount, a_tokenOp, a_tokenValue, a_scriptInUse, a_stack, a_inputCount, a_inputCoin, a_inputA, a_inputB, a_outputCount, a_outputAmount, a_outputScript, a_feeOf, a_putRow, a_parentOf, a_heightOf, a_chainWork, a_blockState, a_rewardAmount, a_rewardScript, a_blockSize, a_blockTransaction, a_laidBlock, a_coinHeight, a_coinSpent, a_transactionHeight, a_poolRow, a_marked, a_queue) := by
  subst ep
  have key : ∀ (d i fuel : Nat), i + d = np → d < fuel → wX_removeMarked_4 post f_stackSize f_transactions f_putCount f_blocks f_tip (nI np) f_queueCount fuel (nI (pd_rm a_marked a_poolRow i).2) (nI i) a_tokenCount a_tokenOp a_tokenValue a_scriptInUse a_stack a_inputCount a_inputCoin a_inputA a_inputB a_outputCount a_outputAmount a_outputScript a_feeOf a_putRow a_parentOf a_heightOf a_chainWork a_blockState a_rewardAmount a_rewardScript a_blockSize a_blockTransaction a_laidBlock a_coinHeight a_coinSpent a_transactionHeight ((pd_rm a_marked a_poolRow i).1) a_marked a_queue := by
    intro d
    induction d with
    | zero =>
      intro i fuel hi hf
      obtain ⟨fuel, rfl⟩ : ∃ q, fuel = q + 1 := ⟨fuel - 1, by omega⟩
      obtain rfl : i = np := by omega
      exact br_t (nI_le (Nat.le_refl _) (by omega)) H
    | succ d ih =>
      intro i fuel hi hf
      obtain ⟨fuel, rfl⟩ : ∃ q, fuel = q + 1 := ⟨fuel - 1, by omega⟩
      have hle := pd_rm_le a_marked a_poolRow i
      have hnx := ih (i + 1) fuel (by omega) (by omega)
      rw [pd_rm] at hnx
      refine pk_le np i (fun z => by omega) (fun z => ⟨pk_in i 12 (by omega), ?_⟩)
      rw [pk_cl i]
      refine br_c (fun q => ⟨pk_in i 12 (by omega), pk_in (pd_rm a_marked a_poolRow i).2 12 (by omega), nm_r (by rw [pk_cl (pd_rm a_marked a_poolRow i).2]) (nm_r (nI_1 _) (nm_r (nI_1 i) ?_))⟩) (fun q => nm_r (nI_1 i) ?_)
      · rw [if_pos q] at hnx; exact hnx
      · rw [if_neg q] at hnx; exact hnx
  exact ⟨np + 1, key np 0 (np + 1) (by omega) (by omega)⟩
end
section
variable {g_made g_blocks g_arrivals g_tip g_pooled g_chainLength : Int32} {b_op b_arg b_length b_ins b_inCoin b_inA b_inB b_outs b_amount b_lock b_parent b_work b_rewardLock b_height b_many b_holds b_delivered b_arrived b_pool b_chain b_from b_worth b_within b_spent b_stack b_again b_chosen gfe grw : Nat → Int32}
theorem ym_rivals {made blocks t np : Nat} (w : pd_wf (b_length, b_op, b_arg, b_ins, b_inCoin, b_inA, b_inB, b_outs, b_amount, b_lock, b_parent, b_height, b_rewardLock, b_many, b_holds, gfe, grw) made blocks) (ht : t < made) (hnp : np ≤ 12) (ep : g_pooled = nI np) (hp : pd_pl b_pool np made) {mk : Nat → Int32} (hms : pd_ms (b_length, b_op, b_arg, b_ins, b_inCoin, b_inA, b_inB, b_outs, b_amount, b_lock, b_parent, b_height, b_rewardLock, b_many, b_holds, gfe, grw) b_pool np t mk) (topo : ∀ i j, i < np → j < np → pd_needs (b_length, b_op, b_arg, b_ins, b_inCoin, b_inA, b_inB, b_outs, b_amount, b_lock, b_parent, b_height, b_rewardLock, b_many, b_holds, gfe, grw) (b_pool i).toNatClampNeg (b_pool j).toNatClampNeg → j < i) {post : Int32 → Prop}
    (H : ∀ s, (∀ k, k < 32 → (bt s k = true ↔ (k < np ∧ mk k = 1))) → post s) : wpY_rivals post (g_made, g_blocks, g_arrivals, g_tip, g_pooled, g_chainLength, b_op, b_arg, b_length, b_ins, b_inCoin, b_inA, b_inB, b_outs, b_amount, b_lock, b_parent, b_work, b_rewardLock, b_height, b_many, b_holds, b_delivered, b_arrived, b_pool, b_chain, b_from, b_worth, b_within, b_spent, b_stack, b_again, b_chosen) (nI t) := by
  have hm := w.2.2.1
  subst ep
  -- one pass of the closure
  have L54 : ∀ (J : Int32 → Int32 → Prop) (old : Int32), (∀ s, (∀ k, k < 32 → (bt s k = true ↔ (k < np ∧ mk k = 1))) → J s old) →
      ∀ (d k fuel : Nat) (s : Int32), k + d = 144 → d < fuel → (∀ q, q < 32 → bt s q = true → q < np ∧ mk q = 1) → (∀ q, q < np → pd_share (b_length, b_op, b_arg, b_ins, b_inCoin, b_inA, b_inB, b_outs, b_amount, b_lock, b_parent, b_height, b_rewardLock, b_many, b_holds, gfe, grw) t (b_pool q).toNatClampNeg → bt s q = true) →
        (∀ j i, j < np → i < np → 12 * j + i < k → mk j = 1 → pd_needs (b_length, b_op, b_arg, b_ins, b_inCoin, b_inA, b_inB, b_outs, b_amount, b_lock, b_parent, b_height, b_rewardLock, b_many, b_holds, gfe, grw) (b_pool i).toNatClampNeg (b_pool j).toNatClampNeg → bt s i = true) →
        wY_rivals_54 post J old g_made g_blocks g_arrivals g_tip (nI np) g_chainLength b_op b_arg b_length b_ins b_inCoin b_inA b_inB b_outs b_amount b_lock b_parent b_work b_rewardLock b_height b_many b_holds b_delivered b_arrived b_pool b_chain b_from b_worth b_within b_spent b_stack b_again b_chosen fuel s (nI k) := by
    intro J old HJ d
    have full : ∀ (s : Int32) (k : Nat), (∀ q, q < np → pd_share (b_length, b_op, b_arg, b_ins, b_inCoin, b_inA, b_inB, b_outs, b_amount, b_lock, b_parent, b_height, b_rewardLock, b_many, b_holds, gfe, grw) t (b_pool q).toNatClampNeg → bt s q = true) → (∀ j i, j < np → i < np → 12 * j + i < k → mk j = 1 → pd_needs (b_length, b_op, b_arg, b_ins, b_inCoin, b_inA, b_inB, b_outs, b_amount, b_lock, b_parent, b_height, b_rewardLock, b_many, b_holds, gfe, grw) (b_pool i).toNatClampNeg (b_pool j).toNatClampNeg → bt s i = true) → ∀ q, q < np → 12 * q ≤ k → mk q = 1 → bt s q = true := by
      intro s k h1 h2 q hq hk hmq
      rcases (hms q hq).2.mp hmq with h | ⟨j, hj, hmj, hnd⟩
      · exact h1 q hq h
      · exact h2 j q (by omega) hq (by omega) hmj hnd
    induction d with
    | zero =>
      intro k fuel s hd hf hsub hsh hcl
      obtain ⟨fuel, rfl⟩ : ∃ q, fuel = q + 1 := ⟨fuel - 1, by omega⟩
      obtain rfl : k = 144 := by omega
      exact br_t (by decide) (HJ s fun q hq => ⟨hsub q hq, fun z => full s 144 hsh hcl q z.1 (by omega) z.2⟩)
    | succ d ih =>
      intro k fuel s hd hf hsub hsh hcl
      obtain ⟨fuel, rfl⟩ : ∃ q, fuel = q + 1 := ⟨fuel - 1, by omega⟩
      have ej : nI k / 12 = nI (k / 12) := pk_div (d := 12) (by omega) (by omega) (by omega)
      have ei : nI k - nI k / 12 * 12 = nI (k % 12) := pk_rem (d := 12) (by omega) (by omega) (by omega)
      have nxt : ∀ s', (∀ q, q < 32 → bt s' q = true → q < np ∧ mk q = 1) → (∀ q, q < 32 → bt s q = true → bt s' q = true) → (k / 12 < np → k % 12 < np → mk (k / 12) = 1 → pd_needs (b_length, b_op, b_arg, b_ins, b_inCoin, b_inA, b_inB, b_outs, b_amount, b_lock, b_parent, b_height, b_rewardLock, b_many, b_holds, gfe, grw) (b_pool (k % 12)).toNatClampNeg (b_pool (k / 12)).toNatClampNeg → bt s' (k % 12) = true) → wY_rivals_54 post J old g_made g_blocks g_arrivals g_tip (nI np) g_chainLength b_op b_arg b_length b_ins b_inCoin b_inA b_inB b_outs b_amount b_lock b_parent b_work b_rewardLock b_height b_many b_holds b_delivered b_arrived b_pool b_chain b_from b_worth b_within b_spent b_stack b_again b_chosen fuel s' (nI (k + 1)) := by
        intro s' h1 h2 h3
        refine ih (k + 1) fuel s' (by omega) (by omega) h1 (fun q hq z => h2 q (by omega) (hsh q hq z)) (fun j i hj hi hk hmj hnd => ?_)
        by_cases e : 12 * j + i < k
        · exact h2 i (by omega) (hcl j i hj hi e hmj hnd)
        · have e1 : j = k / 12 := by omega
          have e2 : i = k % 12 := by omega
          subst e1 e2
          exact h3 hj hi hmj hnd
      refine pk_le 144 k (fun z => by omega) (fun z => ⟨by decide, nm_r ej ⟨by decide, nm_r ei ?_⟩⟩)
      refine pk_le np (k / 12) (fun z1 => nm_r (nI_1 k) (nxt s hsub (fun q _ z => z) (fun h1 => by omega))) (fun z1 => pk_le np (k % 12) (fun z2 => nm_r (nI_1 k) (nxt s hsub (fun q _ z => z) (fun h1 h2 => by omega))) (fun z2 => ?_))
      refine br_c (fun z3 => ?_) (fun z3 => nm_r (nI_1 k) (nxt s hsub (fun q _ z => z) (fun h1 h2 h3 h4 => ?_)))
      · rw [yb_bit1 s (by omega)] at z3
        obtain ⟨u1, hu1, eu1⟩ := hp (k % 12) z2
        obtain ⟨u2, hu2, eu2⟩ := hp (k / 12) z1
        have euc1 := pd_cl eu1 (by omega)
        have euc2 := pd_cl eu2 (by omega)
        refine ⟨pk_in (k % 12) 12 (by omega), pk_in (k / 12) 12 (by omega), ?_⟩
        rw [pk_cl (x := nI (k % 12)) (k % 12), pk_cl (x := nI (k / 12)) (k / 12), eu1, eu2]
        refine yq_needs w hu1 (by omega) (fun z4 => br_f (by decide) (nm_e (nm_r (nI_1 k) (nxt _ (fun q hq z => ?_) (fun q hq z => ?_) (fun _ _ _ _ => ?_))))) (fun z4 => br_t rfl (nm_r (nI_1 k) (nxt s hsub (fun q _ z => z) (fun h1 h2 h3 h4 => ?_))))
        · rw [yb_or s (by omega) hq] at z
          rcases z with z | z
          · exact hsub q hq z
          · subst z
            have hmj := (hsub (k / 12) (by omega) z3).2
            have hnd : pd_needs (b_length, b_op, b_arg, b_ins, b_inCoin, b_inA, b_inB, b_outs, b_amount, b_lock, b_parent, b_height, b_rewardLock, b_many, b_holds, gfe, grw) (b_pool (k % 12)).toNatClampNeg (b_pool (k / 12)).toNatClampNeg := by rw [euc1, euc2]; exact z4
            exact ⟨z2, (hms _ z2).2.mpr (Or.inr ⟨k / 12, topo _ _ z2 z1 hnd, hmj, hnd⟩)⟩
        · rw [yb_or s (by omega) hq]; exact Or.inl z
        · rw [yb_or s (by omega) (by omega)]; exact Or.inr rfl
        · rw [euc1, euc2] at h4; exact (z4 h4).elim
      · rw [yb_bit1 s (by omega)] at z3
        exact (z3 (full s k hsh hcl _ h1 (by omega) h3)).elim
  have M1 : ∀ (s : Int32), (∀ k, k < 32 → (bt s k = true ↔ (k < np ∧ mk k = 1))) → ∀ old fuel, wY_rivals_44 post g_made g_blocks g_arrivals g_tip (nI np) g_chainLength b_op b_arg b_length b_ins b_inCoin b_inA b_inB b_outs b_amount b_lock b_parent b_work b_rewardLock b_height b_many b_holds b_delivered b_arrived b_pool b_chain b_from b_worth b_within b_spent b_stack b_again b_chosen (fuel + 2) s old := by
    intro s hs old fuel
    refine br_c (fun _ => H s hs) (fun _ => ⟨145, L54 _ _ (fun s' hs' => ?_) 144 0 145 s (by omega) (by omega) (fun q hq z => (hs q hq).mp z) (fun q hq z => (hs q (by omega)).mpr ⟨hq, (hms q hq).2.mpr (Or.inl z)⟩) (fun j i hj hi hk hmj hnd => by omega)⟩)
    have : s' = s := b_ext fun i hi => by
      have h1 := hs i hi
      have h2 := hs' i hi
      cases e1 : bt s' i <;> cases e2 : bt s i
      · rfl
      · exact absurd (h2.mpr (h1.mp e2)) (by rw [e1]; decide)
      · exact absurd (h1.mpr (h2.mp e1)) (by rw [e2]; decide)
      · rfl
    subst this
    exact br_t rfl (H s' hs')
  have L7 : ∀ (d i fuel : Nat) (s : Int32), i + d = np → d < fuel → (∀ q, q < 32 → (bt s q = true ↔ (q < i ∧ pd_share (b_length, b_op, b_arg, b_ins, b_inCoin, b_inA, b_inB, b_outs, b_amount, b_lock, b_parent, b_height, b_rewardLock, b_many, b_holds, gfe, grw) t (b_pool q).toNatClampNeg))) → wY_rivals_7 post (nI t) (-1) g_made g_blocks g_arrivals g_tip (nI np) g_chainLength b_op b_arg b_length b_ins b_inCoin b_inA b_inB b_outs b_amount b_lock b_parent b_work b_rewardLock b_height b_many b_holds b_delivered b_arrived b_pool b_chain b_from b_worth b_within b_spent b_stack b_again b_chosen fuel s (nI i) := by
    intro d
    induction d with
    | zero =>
      intro i fuel s hi hf hs
      obtain ⟨fuel, rfl⟩ : ∃ q, fuel = q + 1 := ⟨fuel - 1, by omega⟩
      obtain rfl : i = np := by omega
      have hne : ¬ s = -1 := by
        intro e
        have := (hs 31 (by omega)).mp (by rw [e]; decide +kernel)
        omega
      refine br_t (nI_le (Nat.le_refl _) (by omega)) ⟨3, br_f hne ⟨145, L54 _ _ (fun s' hs' => M1 s' hs' _ 0) 144 0 145 s (by omega) (by omega) (fun q hq z => ?_) (fun q hq z => (hs q (by omega)).mpr ⟨hq, z⟩) (fun j i hj hi hk hmj hnd => by omega)⟩⟩
      obtain ⟨h1, h2⟩ := (hs q hq).mp z
      exact ⟨h1, (hms q h1).2.mpr (Or.inl h2)⟩
    | succ d ih =>
      intro i fuel s hi hf hs
      obtain ⟨fuel, rfl⟩ : ∃ q, fuel = q + 1 := ⟨fuel - 1, by omega⟩
      obtain ⟨u, hu, eu⟩ := hp i (by omega)
      have euc := pd_cl eu (by omega)
      refine pk_le np i (fun z => by omega) (fun z => ⟨pk_in i 12 (by omega), ?_⟩)
      rw [pk_cl i, eu]
      refine yq_share w ht hu (fun z1 => br_f (by decide) (nm_e (nm_r (nI_1 i) (ih (i + 1) fuel _ (by omega) (by omega) fun q hq => ?_)))) (fun z1 => br_t rfl (nm_r (nI_1 i) (ih (i + 1) fuel s (by omega) (by omega) fun q hq => ?_)))
      · rw [yb_or s (by omega) hq, hs q hq]
        by_cases e : q = i
        · subst e
          exact ⟨fun _ => ⟨by omega, by rw [euc]; exact z1⟩, fun _ => Or.inr rfl⟩
        · exact ⟨fun z => by rcases z with z | z; exact ⟨by omega, z.2⟩; exact (e z).elim, fun z => Or.inl ⟨by omega, z.2⟩⟩
      · rw [hs q hq]
        by_cases e : q = i
        · subst e
          exact ⟨fun z => by omega, fun z => by rw [euc] at z; exact (z1 z.2).elim⟩
        · exact ⟨fun z => ⟨by omega, z.2⟩, fun z => ⟨by omega, z.2⟩⟩
  exact ⟨np + 1, L7 np 0 (np + 1) 0 (by omega) (by omega) fun q hq => by rw [b_0]; exact ⟨fun z => absurd z (by decide), fun z => by omega⟩⟩
end

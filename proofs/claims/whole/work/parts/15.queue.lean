/-! the row of those that come back to the pool -/
def qu_h (a : pd_F) (L : List Int32) : Prop := ∀ j (h : j < L.length), a j = L[j]
theorem qu_0 (a : pd_F) : qu_h a [] := fun j h => by simp at h
theorem qu_s {a : pd_F} {L : List Int32} (x : Int32) (h : qu_h a L) : qu_h (upd a L.length x) (L ++ [x]) := by
  intro j hj
  by_cases e : j = L.length
  · subst e
    rw [pk_us]
    simp
  · rw [List.length_append, List.length_singleton] at hj
    rw [pk_un e, List.getElem_append_left (by omega)]
    exact h j (by omega)
def qu_b (D : pd_D) (b : Nat) : Nat → List Int32
  | 0 => []
  | n + 1 => qu_b D b n ++ [pd_bt D (4 * b + n)]
def qu_c (D : pd_D) (b n : Nat) : Nat → List Int32
  | 0 => []
  | h + 1 => qu_c D b n h ++ qu_b D (pd_anc D b (n - h)) (pd_bs D (pd_anc D b (n - h))).toNatClampNeg
def qu_p (L : List Int32) (pl : pd_F) : Nat → List Int32
  | 0 => L
  | k + 1 => qu_p L pl k ++ [pl k]
theorem qu_b_len (D : pd_D) (b : Nat) : ∀ n, (qu_b D b n).length = n := by
  intro n
  induction n with
  | zero => rfl
  | succ n ih => rw [qu_b, List.length_append, ih]; rfl
theorem qu_p_len (L : List Int32) (pl : pd_F) : ∀ n, (qu_p L pl n).length = L.length + n := by
  intro n
  induction n with
  | zero => rfl
  | succ n ih => rw [qu_p, List.length_append, ih]; rfl
theorem qu_c_mono (D : pd_D) (b n : Nat) : ∀ d h, (qu_c D b n h).length ≤ (qu_c D b n (h + d)).length := by
  intro d
  induction d with
  | zero => intro h; exact Nat.le_refl _
  | succ d ih =>
    intro h
    have := ih h
    rw [show h + (d + 1) = (h + d) + 1 by omega, qu_c, List.length_append]
    omega
def pd_cnt (th : pd_F) : Nat → Nat
  | 0 => 0
  | n + 1 => pd_cnt th n + (if 0 ≤ th n then 1 else 0)
theorem pd_cnt_le (th : pd_F) : ∀ n, pd_cnt th n ≤ n := by
  intro n
  induction n with
  | zero => exact Nat.le_refl _
  | succ n ih => rw [pd_cnt]; split <;> omega
theorem pd_cnt_no {th : pd_F} {t : Nat} {h : Int32} : ∀ n, n ≤ t → pd_cnt (upd th t h) n = pd_cnt th n := by
  intro n
  induction n with
  | zero => intro _; rfl
  | succ n ih => intro hn; rw [pd_cnt, pd_cnt, ih (by omega), pk_un (by omega)]
theorem pd_cnt_upd {th : pd_F} {t : Nat} {h : Int32} (h1 : th t < 0) (h2 : 0 ≤ h) : ∀ n, t < n → pd_cnt (upd th t h) n = pd_cnt th n + 1 := by
  intro n
  induction n with
  | zero => intro z; omega
  | succ n ih =>
    intro hn
    by_cases e : t = n
    · subst e
      rw [pd_cnt, pd_cnt, pd_cnt_no t (Nat.le_refl _), pk_us, if_pos h2, if_neg (Int32.not_le.mpr h1)]
    · rw [pd_cnt, pd_cnt, ih (by omega), pk_un (by omega)]; omega
theorem pd_cnt_0 : ∀ n, n ≤ 40 → pd_cnt pd_S0.2.2 n = 0 := by
  intro n
  induction n with
  | zero => intro _; rfl
  | succ n ih =>
    intro hn
    have e : pd_S0.2.2 n = -1 := if_pos (by omega)
    rw [pd_cnt, ih (by omega), e, if_neg pd_m1]
theorem pd_cnt_txs {D : pd_D} {made blocks b q : Nat} {S : pd_S} (w : pd_wf D made blocks) (hb : b < blocks) (hq : q < 32) : ∀ n, n ≤ (pd_bs D b).toNatClampNeg → pd_okTxs D b (nI q) n S → pd_cnt (pd_txs D b (nI q) n S).2.2 40 = pd_cnt S.2.2 40 + n := by
  intro n
  induction n with
  | zero => intro _ _; rfl
  | succ n ih =>
    intro hn hok
    obtain ⟨t, h1, h2, h3⟩ := pd_bt_of w hb (i := n) (by omega)
    have hm := w.2.2.1
    obtain ⟨o1, o2⟩ := hok
    rw [h3] at o2
    rw [pd_txs, h3]
    show pd_cnt (upd _ _ _) 40 = _
    rw [pd_cnt_upd o2.1 (nI_pos' (by omega)) 40 (by omega), ih (by omega) o1]
    omega
theorem qu_c_cnt {D : pd_D} {made blocks b n : Nat} (w : pd_wf D made blocks) (hb : b < blocks) (he : pd_he D b = nI n) (hn : n < 32) : ∀ h, h ≤ n + 1 → pd_VT D b n h → (qu_c D b n h).length = pd_cnt (pd_T D b n h).2.2 40 := by
  intro h
  induction h with
  | zero => intro _ _; exact (pd_cnt_0 40 (Nat.le_refl _)).symm
  | succ h ih =>
    intro hh hv
    rw [pd_VT_s w hb he hn (by omega)] at hv
    obtain ⟨q1, q2⟩ := pd_anc_of w hb he hn (n - h) (by omega)
    rw [show n - (n - h) = h by omega] at q2
    obtain ⟨v1, v2⟩ := hv
    rw [qu_c, List.length_append, qu_b_len, ih (by omega) v1, ← pd_T_s D b n h (by omega)]
    rw [q2] at v2
    show _ = pd_cnt (pd_txs D (pd_anc D b (n - h)) (pd_he D (pd_anc D b (n - h))) (pd_bs D (pd_anc D b (n - h))).toNatClampNeg (pd_T D b n h)).2.2 40
    rw [q2, pd_cnt_txs w q1 (by omega) _ (Nat.le_refl _) v2]
theorem qu_c_40 {D : pd_D} {made blocks b n : Nat} (w : pd_wf D made blocks) (hb : b < blocks) (he : pd_he D b = nI n) (hn : n < 32) (hv : pd_valid D n b) : (qu_c D b n (n + 1)).length ≤ 40 := by
  rw [qu_c_cnt w hb he hn (n + 1) (Nat.le_refl _) (pd_VT_n.mpr hv)]
  exact pd_cnt_le _ _
/-! what is spent in a valid chain was there -/
def pd_sp (S : pd_S) : Prop := ∀ c, c < 152 → ¬ S.2.1 c = 0 → 0 ≤ S.1 c
theorem pd_sp_tx {D : pd_D} {t q : Nat} {S : pd_S} (hq : q < 32) (s : pd_sp S) (ok : pd_okTx D S t (nI q)) : pd_sp (pd_layTx D t (nI q) S) := by
  intro c hc h
  show 0 ≤ pd_setH _ _ _ _ c
  by_cases z : 3 * t ≤ c ∧ c < 3 * t + (pd_oc D t).toNatClampNeg
  · rw [pd_setH_in z]; exact nI_pos' (by omega)
  · rw [pd_setH_no z]
    have h' : ¬ pd_spend S.2.1 (pd_co D) (3 * t) (pd_ic D t).toNatClampNeg c = 0 := h
    rcases pd_spend_or (f := S.2.1) (co := pd_co D) (base := 3 * t) (c := c) (pd_ic D t).toNatClampNeg with e | ⟨i, hi, e⟩
    · rw [e] at h'; exact s c hc h'
    · have := (ok.2.1 i hi).1
      rw [e] at this; exact this
theorem pd_sp_txs {D : pd_D} {b q : Nat} {S : pd_S} (hq : q < 32) (s : pd_sp S) : ∀ n, pd_okTxs D b (nI q) n S → pd_sp (pd_txs D b (nI q) n S) := by
  intro n
  induction n with
  | zero => intro _; exact s
  | succ n ih => intro hok; exact pd_sp_tx hq (ih hok.1) hok.2
theorem pd_sp_blk {D : pd_D} {b q : Nat} {S : pd_S} (hq : q < 32) (e : pd_he D b = nI q) (s : pd_sp S) (ok : pd_okTxs D b (nI q) (pd_bs D b).toNatClampNeg S) : pd_sp (pd_blk D b S) := by
  intro c hc h
  show 0 ≤ upd _ _ _ c
  rw [e]
  by_cases z : c = 120 + b
  · rw [z, pk_us]; exact nI_pos' (by omega)
  · rw [pk_un z]
    refine pd_sp_txs hq s _ ok c hc ?_
    have h' : ¬ (pd_txs D b (pd_he D b) (pd_bs D b).toNatClampNeg S).2.1 c = 0 := h
    rw [e] at h'; exact h'
theorem pd_sp_lay {D : pd_D} {made blocks : Nat} (w : pd_wf D made blocks) : ∀ n b, b < blocks → pd_he D b = nI n → n < 32 → pd_valid D n b → pd_sp (pd_lay D n b) := by
  intro n
  induction n with
  | zero =>
    intro b hb he hn _
    refine pd_sp_blk hn he (fun c _ h => (h rfl).elim) ?_
    rw [pd_par0 w hb he, w.2.2.2.1]
    exact trivial
  | succ n ih =>
    intro b hb he hn hv
    obtain ⟨p, h1, h2, h3, h4⟩ := pd_par w hb he (by omega)
    rw [pd_valid, h3] at hv
    rw [pd_lay, h3]
    refine pd_sp_blk hn he (ih p (by omega) h4 (by omega) hv.1) ?_
    rw [← he]; exact hv.2
section
variable {f_stackSize f_transactions f_putCount f_blocks f_tip f_poolCount f_queueCount : Int32} {a_tokenCount a_tokenOp a_tokenValue a_scriptInUse a_stack a_inputCount a_inputCoin a_inputA a_inputB a_outputCount a_outputAmount a_outputScript a_feeOf a_putRow a_parentOf a_heightOf a_chainWork a_blockState a_rewardAmount a_rewardScript a_blockSize a_blockTransaction a_laidBlock a_coinHeight a_coinSpent a_transactionHeight a_poolRow a_marked a_queue : Nat → Int32}
theorem xm_queue {made blocks tp n np : Nat} (w : pd_wf (a_tokenCount, a_tokenOp, a_tokenValue, a_inputCount, a_inputCoin, a_inputA, a_inputB, a_outputCount, a_outputAmount, a_outputScript, a_parentOf, a_heightOf, a_rewardScript, a_blockSize, a_blockTransaction, a_feeOf, a_rewardAmount) made blocks) (htp : tp < blocks) (eh : a_heightOf tp = nI n) (hn : n < 32) (hnp : np ≤ 12) (hl : ∀ h, h ≤ n → a_laidBlock h = nI (pd_anc (a_tokenCount, a_tokenOp, a_tokenValue, a_inputCount, a_inputCoin, a_inputA, a_inputB, a_outputCount, a_outputAmount, a_outputScript, a_parentOf, a_heightOf, a_rewardScript, a_blockSize, a_blockTransaction, a_feeOf, a_rewardAmount) tp (n - h))) (h40 : (qu_c (a_tokenCount, a_tokenOp, a_tokenValue, a_inputCount, a_inputCoin, a_inputA, a_inputB, a_outputCount, a_outputAmount, a_outputScript, a_parentOf, a_heightOf, a_rewardScript, a_blockSize, a_blockTransaction, a_feeOf, a_rewardAmount) tp n (n + 1)).length ≤ 40) {post : SX → Prop}
    (H : ∀ q, qu_h q (qu_p (qu_c (a_tokenCount, a_tokenOp, a_tokenValue, a_inputCount, a_inputCoin, a_inputA, a_inputB, a_outputCount, a_outputAmount, a_outputScript, a_parentOf, a_heightOf, a_rewardScript, a_blockSize, a_blockTransaction, a_feeOf, a_rewardAmount) tp n (n + 1)) a_poolRow np) → post (f_stackSize, f_transactions, f_putCount, f_blocks, nI tp, nI np, nI ((qu_c (a_tokenCount, a_tokenOp, a_tokenValue, a_inputCount, a_inputCoin, a_inputA, a_inputB, a_outputCount, a_outputAmount, a_outputScript, a_parentOf, a_heightOf, a_rewardScript, a_blockSize, a_blockTransaction, a_feeOf, a_rewardAmount) tp n (n + 1)).length + np), a_tokenCount, a_tokenOp, a_tokenValue, a_scriptInUse, a_stack, a_inputCount, a_inputCoin, a_inputA, a_inputB, a_outputCount, a_outputAmount, a_outputScript, a_feeOf, a_putRow, a_parentOf, a_heightOf, a_chainWork, a_blockState, a_rewardAmount, a_rewardScript, a_blockSize, a_blockTransaction, a_laidBlock, a_coinHeight, a_coinSpent, a_transactionHeight, a_poolRow, a_marked, q)) :
    wpX_queueForPool post (f_stackSize, f_transactions, f_putCount, f_blocks, nI tp, nI np, f_queueCount, a_tokenCount, a_tokenOp, a_tokenValue, a_scriptInUse, a_stack, a_inputCount, a_inputCoin, a_inputA, a_inputB, a_outputCount, a_outputAmount, a_outputScript, a_feeOf, a_putRow, a_parentOf, a_heightOf, a_chainWork, a_blockState, a_rewardAmount, a_rewardScript, a_blockSize, a_blockTransaction, a_laidBlock, a_coinHeight, a_coinSpent, a_transactionHeight, a_poolRow, a_marked, a_queue) := by
  have hbk := w.2.1
  have ehc : a_heightOf (nI tp).toNatClampNeg = nI n := by rw [pk_cl tp]; exact eh
  have L82 : ∀ (d k fuel : Nat) (q : Nat → Int32), k + d = np → d < fuel → qu_h q (qu_p (qu_c (a_tokenCount, a_tokenOp, a_tokenValue, a_inputCount, a_inputCoin, a_inputA, a_inputB, a_outputCount, a_outputAmount, a_outputScript, a_parentOf, a_heightOf, a_rewardScript, a_blockSize, a_blockTransaction, a_feeOf, a_rewardAmount) tp n (n + 1)) a_poolRow k) → wX_queueForPool_82 post f_stackSize f_transactions f_putCount f_blocks (nI tp) (nI np) fuel (nI k) (nI ((qu_c (a_tokenCount, a_tokenOp, a_tokenValue, a_inputCount, a_inputCoin, a_inputA, a_inputB, a_outputCount, a_outputAmount, a_outputScript, a_parentOf, a_heightOf, a_rewardScript, a_blockSize, a_blockTransaction, a_feeOf, a_rewardAmount) tp n (n + 1)).length + k)) a_tokenCount a_tokenOp a_tokenValue a_scriptInUse a_stack a_inputCount a_inputCoin a_inputA a_inputB a_outputCount a_outputAmount a_outputScript a_feeOf a_putRow a_parentOf a_heightOf a_chainWork a_blockState a_rewardAmount a_rewardScript a_blockSize a_blockTransaction a_laidBlock a_coinHeight a_coinSpent a_transactionHeight a_poolRow a_marked q := by
    intro d
    induction d with
    | zero =>
      intro k fuel q hk hf hq
      obtain ⟨fuel, rfl⟩ : ∃ q, fuel = q + 1 := ⟨fuel - 1, by omega⟩
      obtain rfl : k = np := by omega
      exact br_t (nI_le (Nat.le_refl _) (by omega)) (H q hq)
    | succ d ih =>
      intro k fuel q hk hf hq
      obtain ⟨fuel, rfl⟩ : ∃ q, fuel = q + 1 := ⟨fuel - 1, by omega⟩
      have hq' := qu_s (a_poolRow k) hq
      rw [qu_p_len] at hq'
      refine pk_le np k (fun z => by omega) (fun z => ⟨pk_in k 12 (by omega), pk_in ((qu_c (a_tokenCount, a_tokenOp, a_tokenValue, a_inputCount, a_inputCoin, a_inputA, a_inputB, a_outputCount, a_outputAmount, a_outputScript, a_parentOf, a_heightOf, a_rewardScript, a_blockSize, a_blockTransaction, a_feeOf, a_rewardAmount) tp n (n + 1)).length + k) 52 (by omega), nm_r (by rw [pk_cl (x := nI ((qu_c (a_tokenCount, a_tokenOp, a_tokenValue, a_inputCount, a_inputCoin, a_inputA, a_inputB, a_outputCount, a_outputAmount, a_outputScript, a_parentOf, a_heightOf, a_rewardScript, a_blockSize, a_blockTransaction, a_feeOf, a_rewardAmount) tp n (n + 1)).length + k)) ((qu_c (a_tokenCount, a_tokenOp, a_tokenValue, a_inputCount, a_inputCoin, a_inputA, a_inputB, a_outputCount, a_outputAmount, a_outputScript, a_parentOf, a_heightOf, a_rewardScript, a_blockSize, a_blockTransaction, a_feeOf, a_rewardAmount) tp n (n + 1)).length + k), pk_cl k]) (nm_r (nI_1 _) (nm_r (nI_1 k) (ih (k + 1) fuel _ (by omega) (by omega) hq')))⟩)
  have L29 : ∀ (J : Int32 → Int32 → (Nat → Int32) → (Nat → Int32) → (Nat → Int32) → (Nat → Int32) → (Nat → Int32) → (Nat → Int32) → (Nat → Int32) → (Nat → Int32) → (Nat → Int32) → (Nat → Int32) → (Nat → Int32) → (Nat → Int32) → (Nat → Int32) → (Nat → Int32) → (Nat → Int32) → (Nat → Int32) → (Nat → Int32) → (Nat → Int32) → (Nat → Int32) → (Nat → Int32) → (Nat → Int32) → (Nat → Int32) → (Nat → Int32) → (Nat → Int32) → (Nat → Int32) → (Nat → Int32) → (Nat → Int32) → (Nat → Int32) → (Nat → Int32) → Prop) (h x m : Nat), x < blocks → a_blockSize x = nI m → m ≤ 4 → (qu_c (a_tokenCount, a_tokenOp, a_tokenValue, a_inputCount, a_inputCoin, a_inputA, a_inputB, a_outputCount, a_outputAmount, a_outputScript, a_parentOf, a_heightOf, a_rewardScript, a_blockSize, a_blockTransaction, a_feeOf, a_rewardAmount) tp n h).length + m ≤ 40 → (∀ q, qu_h q (qu_c (a_tokenCount, a_tokenOp, a_tokenValue, a_inputCount, a_inputCoin, a_inputA, a_inputB, a_outputCount, a_outputAmount, a_outputScript, a_parentOf, a_heightOf, a_rewardScript, a_blockSize, a_blockTransaction, a_feeOf, a_rewardAmount) tp n h ++ qu_b (a_tokenCount, a_tokenOp, a_tokenValue, a_inputCount, a_inputCoin, a_inputA, a_inputB, a_outputCount, a_outputAmount, a_outputScript, a_parentOf, a_heightOf, a_rewardScript, a_blockSize, a_blockTransaction, a_feeOf, a_rewardAmount) x m) → J (nI (h + 1)) (nI ((qu_c (a_tokenCount, a_tokenOp, a_tokenValue, a_inputCount, a_inputCoin, a_inputA, a_inputB, a_outputCount, a_outputAmount, a_outputScript, a_parentOf, a_heightOf, a_rewardScript, a_blockSize, a_blockTransaction, a_feeOf, a_rewardAmount) tp n h).length + m)) a_tokenCount a_tokenOp a_tokenValue a_scriptInUse a_stack a_inputCount a_inputCoin a_inputA a_inputB a_outputCount a_outputAmount a_outputScript a_feeOf a_putRow a_parentOf a_heightOf a_chainWork a_blockState a_rewardAmount a_rewardScript a_blockSize a_blockTransaction a_laidBlock a_coinHeight a_coinSpent a_transactionHeight a_poolRow a_marked q) →
      ∀ (d i fuel : Nat) (q : Nat → Int32), i + d = m → d < fuel → qu_h q (qu_c (a_tokenCount, a_tokenOp, a_tokenValue, a_inputCount, a_inputCoin, a_inputA, a_inputB, a_outputCount, a_outputAmount, a_outputScript, a_parentOf, a_heightOf, a_rewardScript, a_blockSize, a_blockTransaction, a_feeOf, a_rewardAmount) tp n h ++ qu_b (a_tokenCount, a_tokenOp, a_tokenValue, a_inputCount, a_inputCoin, a_inputA, a_inputB, a_outputCount, a_outputAmount, a_outputScript, a_parentOf, a_heightOf, a_rewardScript, a_blockSize, a_blockTransaction, a_feeOf, a_rewardAmount) x i) → wX_queueForPool_29 post J (nI h) (nI x) f_stackSize f_transactions f_putCount f_blocks (nI tp) (nI np) fuel (nI i) (nI ((qu_c (a_tokenCount, a_tokenOp, a_tokenValue, a_inputCount, a_inputCoin, a_inputA, a_inputB, a_outputCount, a_outputAmount, a_outputScript, a_parentOf, a_heightOf, a_rewardScript, a_blockSize, a_blockTransaction, a_feeOf, a_rewardAmount) tp n h).length + i)) a_tokenCount a_tokenOp a_tokenValue a_scriptInUse a_stack a_inputCount a_inputCoin a_inputA a_inputB a_outputCount a_outputAmount a_outputScript a_feeOf a_putRow a_parentOf a_heightOf a_chainWork a_blockState a_rewardAmount a_rewardScript a_blockSize a_blockTransaction a_laidBlock a_coinHeight a_coinSpent a_transactionHeight a_poolRow a_marked q := by
    intro J h x m hx em hm4 hlen HJ d
    have emc : a_blockSize (nI x).toNatClampNeg = nI m := by rw [pk_cl x]; exact em
    induction d with
    | zero =>
      intro i fuel q hi hf hq
      obtain ⟨fuel, rfl⟩ : ∃ q, fuel = q + 1 := ⟨fuel - 1, by omega⟩
      obtain rfl : i = m := by omega
      exact ⟨pk_in x 32 (by omega), br_t (by rw [emc]; exact nI_le (Nat.le_refl _) (by omega)) (nm_r (nI_1 h) (HJ q hq))⟩
    | succ d ih =>
      intro i fuel q hi hf hq
      obtain ⟨fuel, rfl⟩ : ∃ q, fuel = q + 1 := ⟨fuel - 1, by omega⟩
      have hq' := qu_s (a_blockTransaction (4 * x + i)) hq
      rw [List.length_append, qu_b_len, List.append_assoc] at hq'
      refine ⟨pk_in x 32 (by omega), pk_le m i (fun z => by omega) (fun z => ⟨pk_in (4 * x + i) 128 (by omega) (xb_4 x i), pk_in ((qu_c (a_tokenCount, a_tokenOp, a_tokenValue, a_inputCount, a_inputCoin, a_inputA, a_inputB, a_outputCount, a_outputAmount, a_outputScript, a_parentOf, a_heightOf, a_rewardScript, a_blockSize, a_blockTransaction, a_feeOf, a_rewardAmount) tp n h).length + i) 52 (by omega), nm_r (by rw [pk_cl (x := nI ((qu_c (a_tokenCount, a_tokenOp, a_tokenValue, a_inputCount, a_inputCoin, a_inputA, a_inputB, a_outputCount, a_outputAmount, a_outputScript, a_parentOf, a_heightOf, a_rewardScript, a_blockSize, a_blockTransaction, a_feeOf, a_rewardAmount) tp n h).length + i)) ((qu_c (a_tokenCount, a_tokenOp, a_tokenValue, a_inputCount, a_inputCoin, a_inputA, a_inputB, a_outputCount, a_outputAmount, a_outputScript, a_parentOf, a_heightOf, a_rewardScript, a_blockSize, a_blockTransaction, a_feeOf, a_rewardAmount) tp n h).length + i), pk_cl (4 * x + i) (xb_4 x i)]) (nm_r (nI_1 _) (nm_r (nI_1 i) (ih (i + 1) fuel _ (by omega) (by omega) hq')))⟩) emc⟩
  have L7 : ∀ (d h fuel : Nat) (q : Nat → Int32), h + d = n + 1 → d < fuel → qu_h q (qu_c (a_tokenCount, a_tokenOp, a_tokenValue, a_inputCount, a_inputCoin, a_inputA, a_inputB, a_outputCount, a_outputAmount, a_outputScript, a_parentOf, a_heightOf, a_rewardScript, a_blockSize, a_blockTransaction, a_feeOf, a_rewardAmount) tp n h) → wX_queueForPool_7 post f_stackSize f_transactions f_putCount f_blocks (nI tp) (nI np) fuel (nI h) (nI (qu_c (a_tokenCount, a_tokenOp, a_tokenValue, a_inputCount, a_inputCoin, a_inputA, a_inputB, a_outputCount, a_outputAmount, a_outputScript, a_parentOf, a_heightOf, a_rewardScript, a_blockSize, a_blockTransaction, a_feeOf, a_rewardAmount) tp n h).length) a_tokenCount a_tokenOp a_tokenValue a_scriptInUse a_stack a_inputCount a_inputCoin a_inputA a_inputB a_outputCount a_outputAmount a_outputScript a_feeOf a_putRow a_parentOf a_heightOf a_chainWork a_blockState a_rewardAmount a_rewardScript a_blockSize a_blockTransaction a_laidBlock a_coinHeight a_coinSpent a_transactionHeight a_poolRow a_marked q := by
    intro d
    induction d with
    | zero =>
      intro h fuel q hd hf hq
      obtain ⟨fuel, rfl⟩ : ∃ q, fuel = q + 1 := ⟨fuel - 1, by omega⟩
      obtain rfl : h = n + 1 := by omega
      exact ⟨pk_in tp 32 (by omega), br_t (by rw [ehc]; exact nI_lt (by omega) (by omega)) ⟨np + 1, L82 np 0 (np + 1) q (by omega) (by omega) hq⟩⟩
    | succ d ih =>
      intro h fuel q hd hf hq
      obtain ⟨fuel, rfl⟩ : ∃ q, fuel = q + 1 := ⟨fuel - 1, by omega⟩
      obtain ⟨q1, q2⟩ := pd_anc_of w htp eh hn (n - h) (by omega)
      obtain ⟨_, _, ⟨m, hm, em, _⟩, _⟩ := w.2.2.2.2.2 _ q1
      have emc : (pd_bs (a_tokenCount, a_tokenOp, a_tokenValue, a_inputCount, a_inputCoin, a_inputA, a_inputB, a_outputCount, a_outputAmount, a_outputScript, a_parentOf, a_heightOf, a_rewardScript, a_blockSize, a_blockTransaction, a_feeOf, a_rewardAmount) (pd_anc (a_tokenCount, a_tokenOp, a_tokenValue, a_inputCount, a_inputCoin, a_inputA, a_inputB, a_outputCount, a_outputAmount, a_outputScript, a_parentOf, a_heightOf, a_rewardScript, a_blockSize, a_blockTransaction, a_feeOf, a_rewardAmount) tp (n - h))).toNatClampNeg = m := pd_cl em (by omega)
      have hnx := ih (h + 1) fuel
      rw [qu_c, emc, List.length_append, qu_b_len] at hnx
      have hmono := qu_c_mono (a_tokenCount, a_tokenOp, a_tokenValue, a_inputCount, a_inputCoin, a_inputA, a_inputB, a_outputCount, a_outputAmount, a_outputScript, a_parentOf, a_heightOf, a_rewardScript, a_blockSize, a_blockTransaction, a_feeOf, a_rewardAmount) tp n (n + 1 - (h + 1)) (h + 1)
      rw [show h + 1 + (n + 1 - (h + 1)) = n + 1 by omega] at hmono
      have hlen : (qu_c (a_tokenCount, a_tokenOp, a_tokenValue, a_inputCount, a_inputCoin, a_inputA, a_inputB, a_outputCount, a_outputAmount, a_outputScript, a_parentOf, a_heightOf, a_rewardScript, a_blockSize, a_blockTransaction, a_feeOf, a_rewardAmount) tp n h).length + m ≤ 40 := by
        have e : (qu_c (a_tokenCount, a_tokenOp, a_tokenValue, a_inputCount, a_inputCoin, a_inputA, a_inputB, a_outputCount, a_outputAmount, a_outputScript, a_parentOf, a_heightOf, a_rewardScript, a_blockSize, a_blockTransaction, a_feeOf, a_rewardAmount) tp n (h + 1)).length = (qu_c (a_tokenCount, a_tokenOp, a_tokenValue, a_inputCount, a_inputCoin, a_inputA, a_inputB, a_outputCount, a_outputAmount, a_outputScript, a_parentOf, a_heightOf, a_rewardScript, a_blockSize, a_blockTransaction, a_feeOf, a_rewardAmount) tp n h).length + m := by rw [qu_c, emc, List.length_append, qu_b_len]
        omega
      refine ⟨pk_in tp 32 (by omega), pk_lt n h (fun z => by omega) (fun z => ⟨pk_in h 32 (by omega), nm_r ((congrArg a_laidBlock (pk_cl h)).trans (hl h (by omega))) ⟨m + 1, L29 _ h _ m q1 em hm hlen (fun q' hq' => hnx q' (by omega) (by omega) hq') m 0 (m + 1) q (by omega) (by omega) ?_⟩⟩) ehc⟩
      rw [qu_b, List.append_nil]; exact hq
  exact ⟨n + 2, L7 (n + 1) 0 (n + 2) _ (by omega) (by omega) (qu_0 _)⟩
end

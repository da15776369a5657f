/-! the whole chain, laid: pure rows, then X's -/
def pd_reset (f : pd_F) (n : Nat) (x : Int32) : pd_F := fun c => if c < n then x else f c
theorem pd_reset_0 (f : pd_F) (x : Int32) : pd_reset f 0 x = f := by funext c; unfold pd_reset; rw [if_neg (by omega)]
theorem pd_reset_s (f : pd_F) (n : Nat) (x : Int32) : pd_reset f (n + 1) x = upd (pd_reset f n x) n x := by
  funext c; unfold pd_reset upd; dsimp only
  by_cases e : c = n
  · rw [if_pos (by omega), if_pos e]
  · rw [if_neg e]
    by_cases q : c < n
    · rw [if_pos q, if_pos (by omega)]
    · rw [if_neg q, if_neg (by omega)]
def pd_out (S : pd_S) : Prop := (∀ c, 152 ≤ c → S.1 c = 0) ∧ (∀ c, 152 ≤ c → S.2.1 c = 0) ∧ (∀ t, 40 ≤ t → S.2.2 t = 0)
theorem pd_inv_out {D : pd_D} {made blocks : Nat} {S : pd_S} (I : pd_inv D made blocks S) : pd_out S := ⟨I.1, I.2.1, I.2.2.1⟩
theorem pd_reset_S {S : pd_S} (o : pd_out S) : (pd_reset S.1 152 (-1), pd_reset S.2.1 152 0, pd_reset S.2.2 40 (-1)) = pd_S0 := by
  obtain ⟨o1, o2, o3⟩ := o
  unfold pd_S0
  refine Prod.ext ?_ (Prod.ext ?_ ?_)
  · funext c; show (if c < 152 then (-1 : Int32) else S.1 c) = if c < 152 then -1 else 0
    by_cases h : c < 152
    · rw [if_pos h, if_pos h]
    · rw [if_neg h, if_neg h, o1 c (by omega)]
  · funext c; show (if c < 152 then (0 : Int32) else S.2.1 c) = 0
    by_cases h : c < 152
    · rw [if_pos h]
    · rw [if_neg h, o2 c (by omega)]
  · funext c; show (if c < 40 then (-1 : Int32) else S.2.2 c) = if c < 40 then -1 else 0
    by_cases h : c < 40
    · rw [if_pos h, if_pos h]
    · rw [if_neg h, if_neg h, o3 c (by omega)]
/-- laid so far: the first h blocks of b's chain, b of height n -/
def pd_T (D : pd_D) (b n : Nat) : Nat → pd_S
  | 0 => pd_S0
  | k + 1 => pd_lay D k (pd_anc D b (n - k))
theorem pd_T_s (D : pd_D) (b n h : Nat) (hh : h ≤ n) : pd_blk D (pd_anc D b (n - h)) (pd_T D b n h) = pd_T D b n (h + 1) := by
  cases h with
  | zero => rfl
  | succ k =>
    show _ = pd_lay D (k + 1) (pd_anc D b (n - (k + 1)))
    rw [pd_lay, pd_T]
    have e : n - k = (n - (k + 1)) + 1 := by omega
    rw [e, pd_anc]
theorem pd_T_n (D : pd_D) (b n : Nat) : pd_T D b n (n + 1) = pd_lay D n b := by rw [pd_T, Nat.sub_self, pd_anc]
section
variable {f_stackSize f_transactions f_putCount f_blocks f_tip f_poolCount f_queueCount : Int32} {a_tokenCount a_tokenOp a_tokenValue a_scriptInUse a_stack a_inputCount a_inputCoin a_inputA a_inputB a_outputCount a_outputAmount a_outputScript a_feeOf a_putRow a_parentOf a_heightOf a_chainWork a_blockState a_rewardAmount a_rewardScript a_blockSize a_blockTransaction a_laidBlock a_coinHeight a_coinSpent a_transactionHeight a_poolRow a_marked a_queue : Nat → Int32}
theorem xm_lc85 {made blocks b n : Nat} (w : pd_wf (a_tokenCount, a_tokenOp, a_tokenValue, a_inputCount, a_inputCoin, a_inputA, a_inputB, a_outputCount, a_outputAmount, a_outputScript, a_parentOf, a_heightOf, a_rewardScript, a_blockSize, a_blockTransaction, a_feeOf, a_rewardAmount) made blocks) (hb : b < blocks) (he : a_heightOf b = nI n) (hn : n < 32) (hl : ∀ h, h ≤ n → a_laidBlock h = nI (pd_anc (a_tokenCount, a_tokenOp, a_tokenValue, a_inputCount, a_inputCoin, a_inputA, a_inputB, a_outputCount, a_outputAmount, a_outputScript, a_parentOf, a_heightOf, a_rewardScript, a_blockSize, a_blockTransaction, a_feeOf, a_rewardAmount) b (n - h))) {post : SX → Prop} (H : post (f_stackSize, f_transactions, f_putCount, f_blocks, f_tip, f_poolCount, f_queueCount, a_tokenCount, a_tokenOp, a_tokenValue, a_scriptInUse, a_stack, a_inputCount, a_inputCoin, a_inputA, a_inputB, a_outputCount, a_outputAmount, a_outputScript, a_feeOf, a_putRow, a_parentOf, a_heightOf, a_chainWork, a_blockState, a_rewardAmount, a_rewardScript, a_blockSize, a_blockTransaction, a_laidBlock, (pd_lay (a_tokenCount, a_tokenOp, a_tokenValue, a_inputCount, a_inputCoin, a_inputA, a_inputB, a_outputCount, a_outputAmount, a_outputScript, a_parentOf, a_heightOf, a_rewardScript, a_blockSize, a_blockTransaction, a_feeOf, a_rewardAmount) n b).1, (pd_lay (a_tokenCount, a_tokenOp, a_tokenValue, a_inputCount, a_inputCoin, a_inputA, a_inputB, a_outputCount, a_outputAmount, a_outputScript, a_parentOf, a_heightOf, a_rewardScript, a_blockSize, a_blockTransaction, a_feeOf, a_rewardAmount) n b).2.1, (pd_lay (a_tokenCount, a_tokenOp, a_tokenValue, a_inputCount, a_inputCoin, a_inputA, a_inputB, a_outputCount, a_outputAmount, a_outputScript, a_parentOf, a_heightOf, a_rewardScript, a_blockSize, a_blockTransaction, a_feeOf, a_rewardAmount) n b).2.2, a_poolRow, a_marked, a_queue)) :
    ∀ (d h fuel : Nat), h + d = n + 1 → d < fuel → wX_layChain_85 post (nI b) fuel (nI h) f_stackSize f_transactions f_putCount f_blocks f_tip f_poolCount f_queueCount a_tokenCount a_tokenOp a_tokenValue a_scriptInUse a_stack a_inputCount a_inputCoin a_inputA a_inputB a_outputCount a_outputAmount a_outputScript a_feeOf a_putRow a_parentOf a_heightOf a_chainWork a_blockState a_rewardAmount a_rewardScript a_blockSize a_blockTransaction a_laidBlock ((pd_T (a_tokenCount, a_tokenOp, a_tokenValue, a_inputCount, a_inputCoin, a_inputA, a_inputB, a_outputCount, a_outputAmount, a_outputScript, a_parentOf, a_heightOf, a_rewardScript, a_blockSize, a_blockTransaction, a_feeOf, a_rewardAmount) b n h).1) ((pd_T (a_tokenCount, a_tokenOp, a_tokenValue, a_inputCount, a_inputCoin, a_inputA, a_inputB, a_outputCount, a_outputAmount, a_outputScript, a_parentOf, a_heightOf, a_rewardScript, a_blockSize, a_blockTransaction, a_feeOf, a_rewardAmount) b n h).2.1) ((pd_T (a_tokenCount, a_tokenOp, a_tokenValue, a_inputCount, a_inputCoin, a_inputA, a_inputB, a_outputCount, a_outputAmount, a_outputScript, a_parentOf, a_heightOf, a_rewardScript, a_blockSize, a_blockTransaction, a_feeOf, a_rewardAmount) b n h).2.2) a_poolRow a_marked a_queue := by
  have hbk := w.2.1
  have hec : a_heightOf (nI b).toNatClampNeg = nI n := by rw [nI_clamp (by omega)]; exact he
  intro d
  induction d with
  | zero =>
    intro h fuel hd hf
    obtain ⟨fuel, rfl⟩ : ∃ q, fuel = q + 1 := ⟨fuel - 1, by omega⟩
    obtain rfl : h = n + 1 := by omega
    rw [pd_T_n]
    exact ⟨pk_in b 32 (by omega), br_t (by rw [hec]; exact nI_lt (by omega) (by omega)) H⟩
  | succ d ih =>
    intro h fuel hd hf
    obtain ⟨fuel, rfl⟩ : ∃ q, fuel = q + 1 := ⟨fuel - 1, by omega⟩
    refine ⟨pk_in b 32 (by omega), pk_lt n h (fun z => by omega) (fun z => ⟨pk_in h 32 (by omega), ?_⟩) hec⟩
    rw [pk_cl h, hl h (by omega)]
    refine xm_layBlk w (pd_anc_of w hb he hn (n - h) (by omega)).1 _ ?_
    rw [pd_T_s _ _ _ _ (by omega)]
    exact nm_r (nI_1 h) (ih (h + 1) fuel (by omega) (by omega))
theorem xm_lc59 {made blocks b n : Nat} (w : pd_wf (a_tokenCount, a_tokenOp, a_tokenValue, a_inputCount, a_inputCoin, a_inputA, a_inputB, a_outputCount, a_outputAmount, a_outputScript, a_parentOf, a_heightOf, a_rewardScript, a_blockSize, a_blockTransaction, a_feeOf, a_rewardAmount) made blocks) (hb : b < blocks) (he : a_heightOf b = nI n) (hn : n < 32) {post : SX → Prop} (H : ∀ laid : Nat → Int32, (∀ h, h ≤ n → laid h = nI (pd_anc (a_tokenCount, a_tokenOp, a_tokenValue, a_inputCount, a_inputCoin, a_inputA, a_inputB, a_outputCount, a_outputAmount, a_outputScript, a_parentOf, a_heightOf, a_rewardScript, a_blockSize, a_blockTransaction, a_feeOf, a_rewardAmount) b (n - h))) → post (f_stackSize, f_transactions, f_putCount, f_blocks, f_tip, f_poolCount, f_queueCount, a_tokenCount, a_tokenOp, a_tokenValue, a_scriptInUse, a_stack, a_inputCount, a_inputCoin, a_inputA, a_inputB, a_outputCount, a_outputAmount, a_outputScript, a_feeOf, a_putRow, a_parentOf, a_heightOf, a_chainWork, a_blockState, a_rewardAmount, a_rewardScript, a_blockSize, a_blockTransaction, laid, (pd_lay (a_tokenCount, a_tokenOp, a_tokenValue, a_inputCount, a_inputCoin, a_inputA, a_inputB, a_outputCount, a_outputAmount, a_outputScript, a_parentOf, a_heightOf, a_rewardScript, a_blockSize, a_blockTransaction, a_feeOf, a_rewardAmount) n b).1, (pd_lay (a_tokenCount, a_tokenOp, a_tokenValue, a_inputCount, a_inputCoin, a_inputA, a_inputB, a_outputCount, a_outputAmount, a_outputScript, a_parentOf, a_heightOf, a_rewardScript, a_blockSize, a_blockTransaction, a_feeOf, a_rewardAmount) n b).2.1, (pd_lay (a_tokenCount, a_tokenOp, a_tokenValue, a_inputCount, a_inputCoin, a_inputA, a_inputB, a_outputCount, a_outputAmount, a_outputScript, a_parentOf, a_heightOf, a_rewardScript, a_blockSize, a_blockTransaction, a_feeOf, a_rewardAmount) n b).2.2, a_poolRow, a_marked, a_queue)) :
    ∀ (r k fuel : Nat) (laid : Nat → Int32) (x : Int32), k + r = n + 1 → r < fuel → (∀ j, j < k → laid (n - j) = nI (pd_anc (a_tokenCount, a_tokenOp, a_tokenValue, a_inputCount, a_inputCoin, a_inputA, a_inputB, a_outputCount, a_outputAmount, a_outputScript, a_parentOf, a_heightOf, a_rewardScript, a_blockSize, a_blockTransaction, a_feeOf, a_rewardAmount) b j)) → (0 < r → x = nI (pd_anc (a_tokenCount, a_tokenOp, a_tokenValue, a_inputCount, a_inputCoin, a_inputA, a_inputB, a_outputCount, a_outputAmount, a_outputScript, a_parentOf, a_heightOf, a_rewardScript, a_blockSize, a_blockTransaction, a_feeOf, a_rewardAmount) b k)) → wX_layChain_59 post (nI b) f_stackSize f_transactions f_putCount f_blocks f_tip f_poolCount f_queueCount fuel x (nI r + (-1)) a_tokenCount a_tokenOp a_tokenValue a_scriptInUse a_stack a_inputCount a_inputCoin a_inputA a_inputB a_outputCount a_outputAmount a_outputScript a_feeOf a_putRow a_parentOf a_heightOf a_chainWork a_blockState a_rewardAmount a_rewardScript a_blockSize a_blockTransaction laid pd_S0.1 pd_S0.2.1 pd_S0.2.2 a_poolRow a_marked a_queue := by
  have hbk := w.2.1
  intro r
  induction r with
  | zero =>
    intro k fuel laid x hk hf hl hx
    obtain ⟨fuel, rfl⟩ : ∃ q, fuel = q + 1 := ⟨fuel - 1, by omega⟩
    refine br_t (by decide) ⟨n + 2, ?_⟩
    have hl' : ∀ h, h ≤ n → laid h = nI (pd_anc (a_tokenCount, a_tokenOp, a_tokenValue, a_inputCount, a_inputCoin, a_inputA, a_inputB, a_outputCount, a_outputAmount, a_outputScript, a_parentOf, a_heightOf, a_rewardScript, a_blockSize, a_blockTransaction, a_feeOf, a_rewardAmount) b (n - h)) := fun h hh => by
      have := hl (n - h) (by omega)
      rw [show n - (n - h) = h by omega] at this; exact this
    exact xm_lc85 w hb he hn hl' (H laid hl') (n + 1) 0 (n + 2) (by omega) (by omega)
  | succ r ih =>
    intro k fuel laid x hk hf hl hx
    obtain ⟨fuel, rfl⟩ : ∃ q, fuel = q + 1 := ⟨fuel - 1, by omega⟩
    obtain rfl := hx (by omega)
    have ha := pd_anc_of w hb he hn k (by omega)
    rw [pk_m1]
    refine br_f (nI_pos (by omega)) ⟨pk_in r 32 (by omega), nm_r (by rw [pk_cl r]) ⟨pk_in (pd_anc (a_tokenCount, a_tokenOp, a_tokenValue, a_inputCount, a_inputCoin, a_inputA, a_inputB, a_outputCount, a_outputAmount, a_outputScript, a_parentOf, a_heightOf, a_rewardScript, a_blockSize, a_blockTransaction, a_feeOf, a_rewardAmount) b k) 32 (by omega), nm_e (nm_e (ih (k + 1) fuel _ _ (by omega) (by omega) (fun j hj => ?_) (fun hr => ?_)))⟩⟩
    · by_cases e : j = k
      · subst e
        rw [show n - j = r by omega, pk_us]
      · rw [pk_un (by omega)]; exact hl j (by omega)
    · obtain ⟨p, q1, q2, q3, q4⟩ := pd_par w ha.1 (n := n - k - 1) (by rw [ha.2]; exact congrArg nI (by omega)) (by omega)
      rw [pk_cl (pd_anc (a_tokenCount, a_tokenOp, a_tokenValue, a_inputCount, a_inputCoin, a_inputA, a_inputB, a_outputCount, a_outputAmount, a_outputScript, a_parentOf, a_heightOf, a_rewardScript, a_blockSize, a_blockTransaction, a_feeOf, a_rewardAmount) b k), pd_anc, q3]
      exact q2
theorem xm_layChain {made blocks b n : Nat} (w : pd_wf (a_tokenCount, a_tokenOp, a_tokenValue, a_inputCount, a_inputCoin, a_inputA, a_inputB, a_outputCount, a_outputAmount, a_outputScript, a_parentOf, a_heightOf, a_rewardScript, a_blockSize, a_blockTransaction, a_feeOf, a_rewardAmount) made blocks) (hb : b < blocks) (he : a_heightOf b = nI n) (hn : n < 32) (S : pd_S) (hS : pd_out S) {post : SX → Prop} (H : ∀ laid : Nat → Int32, (∀ h, h ≤ n → laid h = nI (pd_anc (a_tokenCount, a_tokenOp, a_tokenValue, a_inputCount, a_inputCoin, a_inputA, a_inputB, a_outputCount, a_outputAmount, a_outputScript, a_parentOf, a_heightOf, a_rewardScript, a_blockSize, a_blockTransaction, a_feeOf, a_rewardAmount) b (n - h))) → post (f_stackSize, f_transactions, f_putCount, f_blocks, f_tip, f_poolCount, f_queueCount, a_tokenCount, a_tokenOp, a_tokenValue, a_scriptInUse, a_stack, a_inputCount, a_inputCoin, a_inputA, a_inputB, a_outputCount, a_outputAmount, a_outputScript, a_feeOf, a_putRow, a_parentOf, a_heightOf, a_chainWork, a_blockState, a_rewardAmount, a_rewardScript, a_blockSize, a_blockTransaction, laid, (pd_lay (a_tokenCount, a_tokenOp, a_tokenValue, a_inputCount, a_inputCoin, a_inputA, a_inputB, a_outputCount, a_outputAmount, a_outputScript, a_parentOf, a_heightOf, a_rewardScript, a_blockSize, a_blockTransaction, a_feeOf, a_rewardAmount) n b).1, (pd_lay (a_tokenCount, a_tokenOp, a_tokenValue, a_inputCount, a_inputCoin, a_inputA, a_inputB, a_outputCount, a_outputAmount, a_outputScript, a_parentOf, a_heightOf, a_rewardScript, a_blockSize, a_blockTransaction, a_feeOf, a_rewardAmount) n b).2.1, (pd_lay (a_tokenCount, a_tokenOp, a_tokenValue, a_inputCount, a_inputCoin, a_inputA, a_inputB, a_outputCount, a_outputAmount, a_outputScript, a_parentOf, a_heightOf, a_rewardScript, a_blockSize, a_blockTransaction, a_feeOf, a_rewardAmount) n b).2.2, a_poolRow, a_marked, a_queue)) : wpX_layChain post (f_stackSize, f_transactions, f_putCount, f_blocks, f_tip, f_poolCount, f_queueCount, a_tokenCount, a_tokenOp, a_tokenValue, a_scriptInUse, a_stack, a_inputCount, a_inputCoin, a_inputA, a_inputB, a_outputCount, a_outputAmount, a_outputScript, a_feeOf, a_putRow, a_parentOf, a_heightOf, a_chainWork, a_blockState, a_rewardAmount, a_rewardScript, a_blockSize, a_blockTransaction, a_laidBlock, S.1, S.2.1, S.2.2, a_poolRow, a_marked, a_queue) (nI b) := by
  have hbk := w.2.1
  have hec : a_heightOf (nI b).toNatClampNeg = nI n := by rw [nI_clamp (by omega)]; exact he
  have L59 := xm_lc59 w hb he hn H (n + 1) 0 (n + 2) a_laidBlock (nI b) (by omega) (by omega) (fun j hj => by omega) (fun _ => rfl)
  rw [pk_m1, ← pd_reset_S hS] at L59
  have L31 : ∀ (d i fuel : Nat), i + d = 40 → d < fuel → wX_layChain_31 post (nI b) f_stackSize f_transactions f_putCount f_blocks f_tip f_poolCount f_queueCount fuel (nI i) a_tokenCount a_tokenOp a_tokenValue a_scriptInUse a_stack a_inputCount a_inputCoin a_inputA a_inputB a_outputCount a_outputAmount a_outputScript a_feeOf a_putRow a_parentOf a_heightOf a_chainWork a_blockState a_rewardAmount a_rewardScript a_blockSize a_blockTransaction a_laidBlock (pd_reset S.1 152 (-1)) (pd_reset S.2.1 152 0) (pd_reset S.2.2 i (-1)) a_poolRow a_marked a_queue := by
    intro d
    induction d with
    | zero =>
      intro i fuel hd hf
      obtain ⟨fuel, rfl⟩ : ∃ q, fuel = q + 1 := ⟨fuel - 1, by omega⟩
      obtain rfl : i = 40 := by omega
      exact br_t (by decide) ⟨pk_in b 32 (by omega), nm_r hec ⟨n + 2, L59⟩⟩
    | succ d ih =>
      intro i fuel hd hf
      obtain ⟨fuel, rfl⟩ : ∃ q, fuel = q + 1 := ⟨fuel - 1, by omega⟩
      refine pk_le 40 i (fun z => by omega) (fun z => ⟨pk_in i 40 (by omega), nm_r (by rw [pk_cl i, ← pd_reset_s]) (nm_r (nI_1 i) (ih (i + 1) fuel (by omega) (by omega)))⟩)
  have L2 : ∀ (d i fuel : Nat), i + d = 152 → d < fuel → wX_layChain_2 post (nI b) f_stackSize f_transactions f_putCount f_blocks f_tip f_poolCount f_queueCount fuel (nI i) a_tokenCount a_tokenOp a_tokenValue a_scriptInUse a_stack a_inputCount a_inputCoin a_inputA a_inputB a_outputCount a_outputAmount a_outputScript a_feeOf a_putRow a_parentOf a_heightOf a_chainWork a_blockState a_rewardAmount a_rewardScript a_blockSize a_blockTransaction a_laidBlock (pd_reset S.1 i (-1)) (pd_reset S.2.1 i 0) S.2.2 a_poolRow a_marked a_queue := by
    intro d
    induction d with
    | zero =>
      intro i fuel hd hf
      obtain ⟨fuel, rfl⟩ : ∃ q, fuel = q + 1 := ⟨fuel - 1, by omega⟩
      obtain rfl : i = 152 := by omega
      have := L31 40 0 41 (by omega) (by omega)
      rw [pd_reset_0] at this
      exact br_t (by decide) ⟨41, this⟩
    | succ d ih =>
      intro i fuel hd hf
      obtain ⟨fuel, rfl⟩ : ∃ q, fuel = q + 1 := ⟨fuel - 1, by omega⟩
      refine pk_le 152 i (fun z => by omega) (fun z => ⟨pk_in i 152 (by omega), nm_r (by rw [pk_cl i, ← pd_reset_s]) ⟨pk_in i 152 (by omega), nm_r (by rw [pk_cl i, xb_0, ← pd_reset_s]) (nm_r (nI_1 i) (ih (i + 1) fuel (by omega) (by omega)))⟩⟩)
  have := L2 152 0 153 (by omega) (by omega)
  rw [pd_reset_0, pd_reset_0] at this
  exact ⟨153, this⟩
end
/-! may a transaction be spent: P c says that coin c counts as made now -/
noncomputable def pd_from (S : pd_S) (h : Int32) (c : Nat) (P : Prop) : Int32 := @ite _ P (Classical.propDecidable P) h (S.1 c)
theorem pd_from_t {S : pd_S} {h : Int32} {c : Nat} {P : Prop} (p : P) : pd_from S h c P = h := @if_pos _ (Classical.propDecidable P) p _ _ _
theorem pd_from_f {S : pd_S} {h : Int32} {c : Nat} {P : Prop} (p : ¬ P) : pd_from S h c P = S.1 c := @if_neg _ (Classical.propDecidable P) p _ _ _
def pd_okG (D : pd_D) (S : pd_S) (h : Int32) (p : Nat) (g : Int32) : Prop :=
  0 ≤ g ∧ S.2.1 (pd_co D p).toNatClampNeg = 0 ∧ (120 ≤ (pd_co D p).toNatClampNeg → 2 ≤ h - g) ∧ pd_fit D (pd_co D p).toNatClampNeg (pd_ia D p) (pd_ib D p) h g
def pd_may (D : pd_D) (S : pd_S) (h : Int32) (P : Nat → Prop) (t : Nat) : Prop :=
  (∀ i, i < (pd_ic D t).toNatClampNeg → pd_okG D S h (3 * t + i) (pd_from S h (pd_co D (3 * t + i)).toNatClampNeg (P (pd_co D (3 * t + i)).toNatClampNeg))) ∧ 0 ≤ pd_fe D t
theorem pd_may_ok {D : pd_D} {S : pd_S} {h : Int32} {t : Nat} : (S.2.2 t < 0 ∧ pd_may D S h (fun _ => False) t) ↔ pd_okTx D S t h := by
  unfold pd_may pd_okTx
  refine and_congr_right fun _ => and_congr (forall_congr' fun i => imp_congr_right fun hi => ?_) Iff.rfl
  rw [pd_from_f (fun z => z)]
  exact Iff.rfl
section
variable {f_stackSize f_transactions f_putCount f_blocks f_tip f_poolCount f_queueCount : Int32} {a_tokenCount a_tokenOp a_tokenValue a_scriptInUse a_stack a_inputCount a_inputCoin a_inputA a_inputB a_outputCount a_outputAmount a_outputScript a_feeOf a_putRow a_parentOf a_heightOf a_chainWork a_blockState a_rewardAmount a_rewardScript a_blockSize a_blockTransaction a_laidBlock a_coinHeight a_coinSpent a_transactionHeight a_poolRow a_marked a_queue : Nat → Int32}
theorem xm_inPool {np : Nat} (hnp : np ≤ 12) (ep : f_poolCount = nI np) {x : Int32} {post : Int32 → Prop} (H1 : (∃ k, k < np ∧ a_poolRow k = x) → post 1) (H0 : ¬ (∃ k, k < np ∧ a_poolRow k = x) → post 0) : wpX_isInPool post (f_stackSize, f_transactions, f_putCount, f_blocks, f_tip, f_poolCount, f_queueCount, a_tokenCount, a_tokenOp, a_tokenValue, a_scriptInUse, a_stack, a_inputCount, a_inputCoin, a_inputA, a_inputB, a_outputCount, a_outputAmount, a_outputScript, a_feeOf, a_putRow, a_parentOf, a_heightOf, a_chainWork, a_blockState, a_rewardAmount, a_rewardScript, a_blockSize, a_blockTransaction, a_laidBlock, a_coinHeight, a_coinSpent, a_transactionHeight, a_poolRow, a_marked, a_queue) x := by
  subst ep
  have key : ∀ (d i fuel : Nat), i + d = np → d < fuel → (∀ k, k < i → a_poolRow k ≠ x) → wX_isInPool_2 post x f_stackSize f_transactions f_putCount f_blocks f_tip (nI np) f_queueCount a_tokenCount a_tokenOp a_tokenValue a_scriptInUse a_stack a_inputCount a_inputCoin a_inputA a_inputB a_outputCount a_outputAmount a_outputScript a_feeOf a_putRow a_parentOf a_heightOf a_chainWork a_blockState a_rewardAmount a_rewardScript a_blockSize a_blockTransaction a_laidBlock a_coinHeight a_coinSpent a_transactionHeight a_poolRow a_marked a_queue fuel (nI i) := by
    intro d
    induction d with
    | zero =>
      intro i fuel hi hf hk
      obtain ⟨fuel, rfl⟩ : ∃ q, fuel = q + 1 := ⟨fuel - 1, by omega⟩
      obtain rfl : i = np := by omega
      exact br_t (nI_le (Nat.le_refl _) (by omega)) (H0 fun ⟨k, h1, h2⟩ => hk k h1 h2)
    | succ d ih =>
      intro i fuel hi hf hk
      obtain ⟨fuel, rfl⟩ : ∃ q, fuel = q + 1 := ⟨fuel - 1, by omega⟩
      refine pk_le np i (fun z => by omega) (fun z => ⟨pk_in i 12 (by omega), ?_⟩)
      rw [pk_cl i]
      refine br_c (fun q => H1 ⟨i, by omega, q⟩) (fun q => nm_r (nI_1 i) (ih (i + 1) fuel (by omega) (by omega) fun k hk' => ?_))
      by_cases e : k = i
      · rw [e]; exact q
      · exact hk k (by omega)
  exact ⟨np + 1, key np 0 (np + 1) (by omega) (by omega) (fun k hk => by omega)⟩
theorem xm_scriptOf {c : Nat} (hc : c < 152) {post : Int32 → Prop} (H : post (if c < 120 then a_outputScript c else a_rewardScript (c - 120))) : wpX_scriptOf post (f_stackSize, f_transactions, f_putCount, f_blocks, f_tip, f_poolCount, f_queueCount, a_tokenCount, a_tokenOp, a_tokenValue, a_scriptInUse, a_stack, a_inputCount, a_inputCoin, a_inputA, a_inputB, a_outputCount, a_outputAmount, a_outputScript, a_feeOf, a_putRow, a_parentOf, a_heightOf, a_chainWork, a_blockState, a_rewardAmount, a_rewardScript, a_blockSize, a_blockTransaction, a_laidBlock, a_coinHeight, a_coinSpent, a_transactionHeight, a_poolRow, a_marked, a_queue) (nI c) := by
  refine pk_le 120 c (fun h => ?_) (fun h => ?_)
  · have ex : nI c - 120 = nI (c - 120) := pk_sub (b := 120) h
    refine ⟨pk_in (c - 120) 32 (by omega) ex, ?_⟩
    rw [pk_cl (c - 120) ex]
    rw [if_neg (by omega)] at H; exact H
  · refine ⟨pk_in c 123 (by omega), ?_⟩
    rw [pk_cl c]
    rw [if_pos h] at H; exact H
theorem xm_amountOf {c : Nat} (hc : c < 152) {post : Int32 → Prop} (H : post (if c < 120 then a_outputAmount c else a_rewardAmount (c - 120))) : wpX_amountOf post (f_stackSize, f_transactions, f_putCount, f_blocks, f_tip, f_poolCount, f_queueCount, a_tokenCount, a_tokenOp, a_tokenValue, a_scriptInUse, a_stack, a_inputCount, a_inputCoin, a_inputA, a_inputB, a_outputCount, a_outputAmount, a_outputScript, a_feeOf, a_putRow, a_parentOf, a_heightOf, a_chainWork, a_blockState, a_rewardAmount, a_rewardScript, a_blockSize, a_blockTransaction, a_laidBlock, a_coinHeight, a_coinSpent, a_transactionHeight, a_poolRow, a_marked, a_queue) (nI c) := by
  refine pk_le 120 c (fun h => ?_) (fun h => ?_)
  · have ex : nI c - 120 = nI (c - 120) := pk_sub (b := 120) h
    refine ⟨pk_in (c - 120) 32 (by omega) ex, ?_⟩
    rw [pk_cl (c - 120) ex]
    rw [if_neg (by omega)] at H; exact H
  · refine ⟨pk_in c 123 (by omega), ?_⟩
    rw [pk_cl c]
    rw [if_pos h] at H; exact H
end

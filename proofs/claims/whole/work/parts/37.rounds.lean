/-! forge's four rounds, side by side -/
theorem bs_eq {el el' : Nat → Prop} {fe fe' : Nat → Int32} : ∀ n, (∀ k, k < n → (el k ↔ el' k) ∧ fe k = fe' k) → bs_f el fe n = bs_f el' fe' n := by
  intro n
  induction n with
  | zero => intro _; rfl
  | succ n ih =>
    intro h
    have e := ih fun k hk => h k (by omega)
    obtain ⟨h1, h2⟩ := h n (by omega)
    rcases Classical.em (el n) with q | q
    · rw [bs_t q, bs_t (h1.mp q), e]
      cases hb : bs_f el' fe' n with
      | none => rfl
      | some b =>
        have := (h b (by have := (bs_lt n b hb).1; omega)).2
        dsimp only
        rw [h2, this]
    · rw [bs_n q, bs_n (fun z => q (h1.mpr z)), e]
def hc_set (f q : pd_F) (base : Nat) : Nat → pd_F
  | 0 => f
  | k + 1 => upd (hc_set f q base k) (base + k) (q k)
theorem hc_in {f q : pd_F} {base j : Nat} : ∀ n, j < n → hc_set f q base n (base + j) = q j := by
  intro n
  induction n with
  | zero => intro h; omega
  | succ n ih =>
    intro h
    by_cases e : j = n
    · subst e; rw [hc_set, pk_us]
    · rw [hc_set, pk_un (by omega)]; exact ih (by omega)
theorem hc_no {f q : pd_F} {base j : Nat} : ∀ n, ¬ (base ≤ j ∧ j < base + n) → hc_set f q base n j = f j := by
  intro n
  induction n with
  | zero => intro _; rfl
  | succ n ih => intro h; rw [hc_set, pk_un (by omega)]; exact ih (by omega)
theorem hc_eq {f q q' : pd_F} {base : Nat} : ∀ n, (∀ j, j < n → q' j = q j) → hc_set f q' base n = hc_set f q base n := by
  intro n
  induction n with
  | zero => intro _; rfl
  | succ n ih => intro h; rw [hc_set, hc_set, h n (by omega), ih fun j hj => h j (by omega)]
theorem el_ag {D E : pd_D} {made blocks np k : Nat} {pl mk : pd_F} (hm : made ≤ 40) (a : pd_ag D E made blocks) (hp : pd_pl pl np made) (hk : k < np) : el_p E pl mk np k ↔ el_p D pl mk np k := by
  obtain ⟨u, hu, eu⟩ := hp k hk
  unfold el_p
  rw [pd_cl eu (by omega)]
  refine and_congr_right fun _ => not_congr (exists_congr fun j => and_congr_right fun _ => and_congr_right fun _ => pd_ag_needs a hu)
theorem nb_I_q {bs0 bt0 rw0 fe q q' bs bt rw : pd_F} {x i : Nat} {x0 : Int32} (hq : ∀ j, j < i → q' j = q j) (h : nb_I bs0 bt0 rw0 fe q x x0 i bs bt rw) : nb_I bs0 bt0 rw0 fe q' x x0 i bs bt rw := by
  obtain ⟨h1, h2, h3, h4, h5, h6⟩ := h
  exact ⟨h1, h2, h3, fun j hj => (h4 j hj).trans (hq j hj).symm, h5, h6⟩
section
variable {f_stackSize f_transactions f_putCount f_blocks f_tip f_poolCount f_queueCount : Int32} {a_tokenCount a_tokenOp a_tokenValue a_scriptInUse a_stack a_inputCount a_inputCoin a_inputA a_inputB a_outputCount a_outputAmount a_outputScript a_feeOf a_putRow a_parentOf a_heightOf a_chainWork a_blockState a_rewardAmount a_rewardScript a_blockSize a_blockTransaction a_laidBlock a_coinHeight a_coinSpent a_transactionHeight a_poolRow a_marked a_queue : Nat → Int32}
theorem ag_part {made blocks i : Nat} {q bs bt rw : Nat → Int32} {x0 : Int32} (w : pd_wf (a_tokenCount, a_tokenOp, a_tokenValue, a_inputCount, a_inputCoin, a_inputA, a_inputB, a_outputCount, a_outputAmount, a_outputScript, a_parentOf, a_heightOf, a_rewardScript, a_blockSize, a_blockTransaction, a_feeOf, a_rewardAmount) made blocks) (h : nb_I a_blockSize a_blockTransaction a_rewardAmount a_feeOf q blocks x0 i bs bt rw) : pd_ag (a_tokenCount, a_tokenOp, a_tokenValue, a_inputCount, a_inputCoin, a_inputA, a_inputB, a_outputCount, a_outputAmount, a_outputScript, a_parentOf, a_heightOf, a_rewardScript, a_blockSize, a_blockTransaction, a_feeOf, a_rewardAmount) (a_tokenCount, a_tokenOp, a_tokenValue, a_inputCount, a_inputCoin, a_inputA, a_inputB, a_outputCount, a_outputAmount, a_outputScript, a_parentOf, a_heightOf, a_rewardScript, bs, bt, a_feeOf, rw) made blocks := by
  obtain ⟨_, h2, h3, _, h5, _⟩ := h
  refine ⟨fun t _ => ⟨rfl, rfl, rfl, fun _ _ => ⟨rfl, rfl, rfl⟩, fun _ _ => ⟨rfl, rfl⟩⟩, fun b hb => ⟨rfl, rfl, h2 b (by omega), h5 b (by omega), fun _ => rfl, fun j hj => h3 _ ?_⟩, fun s _ => ⟨rfl, fun _ _ => ⟨rfl, rfl⟩⟩⟩
  obtain ⟨_, _, ⟨n, hn, en, _⟩, _⟩ := w.2.2.2.2.2 b hb
  rw [pd_cl en (by omega)] at hj
  omega
end
section
variable {f_stackSize f_transactions f_putCount f_blocks f_tip f_poolCount f_queueCount : Int32} {a_tokenCount a_tokenOp a_tokenValue a_scriptInUse a_stack a_inputCount a_inputCoin a_inputA a_inputB a_outputCount a_outputAmount a_outputScript a_feeOf a_putRow a_parentOf a_heightOf a_chainWork a_blockState a_rewardAmount a_rewardScript a_blockSize a_blockTransaction a_laidBlock a_coinHeight a_coinSpent a_transactionHeight a_poolRow a_marked a_queue : Nat → Int32}
variable {g_made g_blocks g_arrivals g_tip g_pooled g_chainLength : Int32} {b_op b_arg b_length b_ins b_inCoin b_inA b_inB b_outs b_amount b_lock b_parent b_work b_rewardLock b_height b_many b_holds b_delivered b_arrived b_pool b_chain b_from b_worth b_within b_spent b_stack b_again b_chosen gfe grw : Nat → Int32}
theorem fr_both {made blocks np : Nat} {pl : Nat → Int32} {x0 : Int32} {W : (Nat → Int32) → Prop} (w : pd_wf (a_tokenCount, a_tokenOp, a_tokenValue, a_inputCount, a_inputCoin, a_inputA, a_inputB, a_outputCount, a_outputAmount, a_outputScript, a_parentOf, a_heightOf, a_rewardScript, a_blockSize, a_blockTransaction, a_feeOf, a_rewardAmount) made blocks) (wE : pd_wf (b_length, b_op, b_arg, b_ins, b_inCoin, b_inA, b_inB, b_outs, b_amount, b_lock, b_parent, b_height, b_rewardLock, b_many, b_holds, gfe, grw) made blocks) (ag : pd_ag (a_tokenCount, a_tokenOp, a_tokenValue, a_inputCount, a_inputCoin, a_inputA, a_inputB, a_outputCount, a_outputAmount, a_outputScript, a_parentOf, a_heightOf, a_rewardScript, a_blockSize, a_blockTransaction, a_feeOf, a_rewardAmount) (b_length, b_op, b_arg, b_ins, b_inCoin, b_inA, b_inB, b_outs, b_amount, b_lock, b_parent, b_height, b_rewardLock, b_many, b_holds, gfe, grw) made blocks) (fq : pd_feq (b_length, b_op, b_arg, b_ins, b_inCoin, b_inA, b_inB, b_outs, b_amount, b_lock, b_parent, b_height, b_rewardLock, b_many, b_holds, gfe, grw) made) (h32 : blocks < 32) (hnp : np ≤ 12) (hp : pd_pl pl np made) (inj : ∀ k j, k < np → j < np → pl k = pl j → k = j)
    (hW : ∀ wo, W wo → ∀ k, k < np → ∀ i, i < (pd_ic (b_length, b_op, b_arg, b_ins, b_inCoin, b_inA, b_inB, b_outs, b_amount, b_lock, b_parent, b_height, b_rewardLock, b_many, b_holds, gfe, grw) (pl k).toNatClampNeg).toNatClampNeg → 120 ≤ (b_inCoin (3 * (pl k).toNatClampNeg + i)).toNatClampNeg → wo (b_inCoin (3 * (pl k).toNatClampNeg + i)).toNatClampNeg = grw ((b_inCoin (3 * (pl k).toNatClampNeg + i)).toNatClampNeg - 120)) :
    ∀ (d i : Nat), i + d = 4 → ∀ (mk q : Nat → Int32), (∀ k, k < np → (mk k = 0 ↔ ¬ ∃ j, j < i ∧ q j = pl k)) → (∀ j, j < i → ∃ t, t < made ∧ q j = nI t) →
    ∃ (m : Nat) (q' : Nat → Int32), m ≤ 4 ∧ i ≤ m ∧ (∀ j, j < m → ∃ t, t < made ∧ q' j = nI t) ∧ (∀ j, j < i → q' j = q j)
      ∧ (∀ (post : Int32 → SX → Prop) (bs bt rw : Nat → Int32), nb_I a_blockSize a_blockTransaction a_rewardAmount a_feeOf q blocks x0 i bs bt rw → (∀ mk' bs' bt' rw', nb_I a_blockSize a_blockTransaction a_rewardAmount a_feeOf q' blocks x0 m bs' bt' rw' → wX_forge_135 post (nI blocks) f_stackSize f_transactions f_putCount f_blocks f_tip (nI np) f_queueCount a_tokenCount a_tokenOp a_tokenValue a_scriptInUse a_stack a_inputCount a_inputCoin a_inputA a_inputB a_outputCount a_outputAmount a_outputScript a_feeOf a_putRow a_parentOf a_heightOf a_chainWork a_blockState rw' a_rewardScript bs' bt' a_laidBlock a_coinHeight a_coinSpent a_transactionHeight pl mk' a_queue) → ∀ fuel, d < fuel → wX_forge_89 post (nI blocks) fuel (nI i) f_stackSize f_transactions f_putCount f_blocks f_tip (nI np) f_queueCount a_tokenCount a_tokenOp a_tokenValue a_scriptInUse a_stack a_inputCount a_inputCoin a_inputA a_inputB a_outputCount a_outputAmount a_outputScript a_feeOf a_putRow a_parentOf a_heightOf a_chainWork a_blockState rw a_rewardScript bs bt a_laidBlock a_coinHeight a_coinSpent a_transactionHeight pl mk a_queue)
      ∧ (∀ (post : Int32 → SY → Prop) (x1 x2 cl : Int32) (wo st ch : Nat → Int32), W wo → wY_forge_167 post x1 x2 (nI m) g_made g_blocks g_arrivals g_tip (nI np) cl b_op b_arg b_length b_ins b_inCoin b_inA b_inB b_outs b_amount b_lock b_parent b_work b_rewardLock b_height b_many b_holds b_delivered b_arrived pl ch b_from wo b_within b_spent st b_again (hc_set b_chosen q' 0 m) → ∀ fuel, d < fuel → wY_forge_48 post x1 x2 g_made g_blocks g_arrivals g_tip (nI np) cl fuel (nI i) (nI i) b_op b_arg b_length b_ins b_inCoin b_inA b_inB b_outs b_amount b_lock b_parent b_work b_rewardLock b_height b_many b_holds b_delivered b_arrived pl ch b_from wo b_within b_spent st b_again (hc_set b_chosen q 0 i)) := by
  have hm := w.2.2.1
  intro d
  induction d with
  | zero =>
    intro i hi mk q hsr hq
    obtain rfl : i = 4 := by omega
    refine ⟨4, q, by omega, by omega, hq, fun _ _ => rfl, fun post bs bt rw hI H fuel hf => ?_, fun post x1 x2 cl wo st ch hw H fuel hf => ?_⟩
    · obtain ⟨fuel, rfl⟩ : ∃ q, fuel = q + 1 := ⟨fuel - 1, by omega⟩
      exact br_t (by decide) (H _ _ _ _ hI)
    · obtain ⟨fuel, rfl⟩ : ∃ q, fuel = q + 1 := ⟨fuel - 1, by omega⟩
      exact br_t (by decide) H
  | succ d ih =>
    intro i hi mk q hsr hq
    have eE : bs_f (el_p (b_length, b_op, b_arg, b_ins, b_inCoin, b_inA, b_inB, b_outs, b_amount, b_lock, b_parent, b_height, b_rewardLock, b_many, b_holds, gfe, grw) pl mk np) (fun k => gfe (pl k).toNatClampNeg) np = bs_f (el_p (a_tokenCount, a_tokenOp, a_tokenValue, a_inputCount, a_inputCoin, a_inputA, a_inputB, a_outputCount, a_outputAmount, a_outputScript, a_parentOf, a_heightOf, a_rewardScript, a_blockSize, a_blockTransaction, a_feeOf, a_rewardAmount) pl mk np) (fun k => a_feeOf (pl k).toNatClampNeg) np := bs_eq np fun k hk => by
      refine ⟨el_ag hm ag hp hk, ?_⟩
      obtain ⟨u, hu, eu⟩ := hp k hk
      rw [pd_cl eu (by omega)]
      exact (ag.1 u hu).2.2.1
    have eX : ∀ (bs bt rw : Nat → Int32), nb_I a_blockSize a_blockTransaction a_rewardAmount a_feeOf q blocks x0 i bs bt rw → bs_f (el_p (a_tokenCount, a_tokenOp, a_tokenValue, a_inputCount, a_inputCoin, a_inputA, a_inputB, a_outputCount, a_outputAmount, a_outputScript, a_parentOf, a_heightOf, a_rewardScript, bs, bt, a_feeOf, rw) pl mk np) (fun k => a_feeOf (pl k).toNatClampNeg) np = bs_f (el_p (a_tokenCount, a_tokenOp, a_tokenValue, a_inputCount, a_inputCoin, a_inputA, a_inputB, a_outputCount, a_outputAmount, a_outputScript, a_parentOf, a_heightOf, a_rewardScript, a_blockSize, a_blockTransaction, a_feeOf, a_rewardAmount) pl mk np) (fun k => a_feeOf (pl k).toNatClampNeg) np := fun bs bt rw hI => bs_eq np fun k hk => ⟨el_ag hm (ag_part w hI) hp hk, rfl⟩
    have i4 : ¬ (4 : Int32) ≤ nI i := nI_ge (b := 4) (by omega) (by omega)
    cases hb : bs_f (el_p (a_tokenCount, a_tokenOp, a_tokenValue, a_inputCount, a_inputCoin, a_inputA, a_inputB, a_outputCount, a_outputAmount, a_outputScript, a_parentOf, a_heightOf, a_rewardScript, a_blockSize, a_blockTransaction, a_feeOf, a_rewardAmount) pl mk np) (fun k => a_feeOf (pl k).toNatClampNeg) np with
    | none =>
      refine ⟨i, q, by omega, Nat.le_refl _, hq, fun _ _ => rfl, fun post bs bt rw hI H fuel hf => ?_, fun post x1 x2 cl wo st ch hw H fuel hf => ?_⟩
      · obtain ⟨fuel, rfl⟩ : ∃ q, fuel = q + 1 := ⟨fuel - 1, by omega⟩
        refine br_f i4 (xm_best (pd_wf_ag w (ag_part w hI)) hnp rfl hp ?_)
        rw [eX bs bt rw hI, hb]
        exact br_f (pd_m1 : ¬ (0 : Int32) ≤ -1) (H _ _ _ _ hI)
      · obtain ⟨fuel, rfl⟩ : ∃ q, fuel = q + 1 := ⟨fuel - 1, by omega⟩
        refine br_f i4 (ym_best (mk := mk) wE fq hnp rfl hp (by omega) (fun k hk => ?_) (hW wo hw) (fun _ => H) (fun b hb' => ?_) (by omega))
        · rw [hsr k hk]
          refine not_congr (exists_congr fun j => and_congr_right fun hj => ?_)
          have := hc_in (f := b_chosen) (q := q) (base := 0) i hj
          rw [Nat.zero_add] at this
          rw [this]
        · rw [eE, hb] at hb'
          exact nomatch hb'
    | some b =>
      obtain ⟨hbl, hel⟩ := bs_lt np b hb
      obtain ⟨t, ht, et⟩ := hp b hbl
      have hsr1 : ∀ k, k < np → (upd mk b 1 k = 0 ↔ ¬ ∃ j, j < i + 1 ∧ upd q i (pl b) j = pl k) := by
        intro k hk
        by_cases e : k = b
        · subst e
          rw [pk_us]
          exact ⟨fun z => absurd z (by decide), fun z => (z ⟨i, by omega, pk_us⟩).elim⟩
        · rw [pk_un e, hsr k hk]
          refine not_congr ⟨fun ⟨j, j1, j2⟩ => ⟨j, by omega, by rw [pk_un (by omega)]; exact j2⟩, fun ⟨j, j1, j2⟩ => ?_⟩
          by_cases ej : j = i
          · subst ej
            rw [pk_us] at j2
            exact (e (inj k b hk hbl j2.symm)).elim
          · rw [pk_un ej] at j2
            exact ⟨j, by omega, j2⟩
      have hq1 : ∀ j, j < i + 1 → ∃ t, t < made ∧ upd q i (pl b) j = nI t := by
        intro j hj
        by_cases ej : j = i
        · subst ej; exact ⟨t, ht, by rw [pk_us]; exact et⟩
        · rw [pk_un ej]; exact hq j (by omega)
      obtain ⟨m, q', m4, im, hq', hqq, hX, hY⟩ := ih (i + 1) (by omega) (upd mk b 1) (upd q i (pl b)) hsr1 hq1
      refine ⟨m, q', m4, by omega, hq', fun j hj => by rw [hqq j (by omega), pk_un (by omega)], fun post bs bt rw hI H fuel hf => ?_, fun post x1 x2 cl wo st ch hw H fuel hf => ?_⟩
      · obtain ⟨fuel, rfl⟩ : ∃ q, fuel = q + 1 := ⟨fuel - 1, by omega⟩
        refine br_f i4 (xm_best (pd_wf_ag w (ag_part w hI)) hnp rfl hp ?_)
        rw [eX bs bt rw hI, hb]
        have ebc : (bs_x (some b)).toNatClampNeg = b := pk_cl b
        refine br_t (nI_pos' (by omega) : (0 : Int32) ≤ nI b) ⟨pk_in b 12 (by omega), nm_r (by rw [ebc, xb_1]) ⟨pk_in b 12 (by omega), ?_⟩⟩
        rw [ebc, et]
        have hI1 : nb_I a_blockSize a_blockTransaction a_rewardAmount a_feeOf (upd q i (pl b)) blocks x0 i bs bt rw := nb_I_q (fun j hj => pk_un (by omega)) hI
        refine xm_addTo h32 (by omega) (by omega) hI.1 (nm_r (nI_1 i) ?_)
        exact hX post _ _ _ (nb_I_s (by omega) (by rw [pk_us]; exact et) hI1) H fuel (by omega)
      · obtain ⟨fuel, rfl⟩ : ∃ q, fuel = q + 1 := ⟨fuel - 1, by omega⟩
        refine br_f i4 (ym_best (mk := mk) wE fq hnp rfl hp (by omega) (fun k hk => ?_) (hW wo hw) (fun hb' => ?_) (fun b' hb' _ => ?_) (by omega))
        · rw [hsr k hk]
          refine not_congr (exists_congr fun j => and_congr_right fun hj => ?_)
          have := hc_in (f := b_chosen) (q := q) (base := 0) i hj
          rw [Nat.zero_add] at this
          rw [this]
        · rw [eE, hb] at hb'
          exact nomatch hb'
        · rw [eE, hb] at hb'
          obtain rfl : b = b' := Option.some.inj hb'
          have := hY post x1 x2 cl wo st ch hw H fuel (by omega)
          rw [hc_set, pk_us, Nat.zero_add, hc_eq (q' := upd q i (pl b)) (q := q) i (fun j hj => pk_un (by omega))] at this
          exact this
end

/-! Y: the script machine -/
theorem fx_run_jump (op arg : Nat → Int32) (h g : Int32) (s r p : Nat) (a : Nat → Int32) (n : Nat) : fx_run op arg h g r p s a n ↔ fx_run op arg h g (r - s) (p + s) 0 a n := by
  by_cases hs : s ≤ r
  · exact fx_run_skip op arg h g s r p a n hs
  · rw [fx_run_past op arg h g r s p a n (by omega), show r - s = 0 by omega, fx_run]
theorem fx_ar1 {L i r v : Nat} (h : L - i = r + 1) : r - v = L - (i + v + 1) := by omega
theorem fx_ar2 {L i r : Nat} (h : L - i = r + 1) : r = L - (i + 1) := by omega
theorem fx_hash_y (x : Int32) : fx_hash x = if 0 ≤ (31 * x.toInt64 + 7) - (31 * x.toInt64 + 7) / 1009 * 1009 then ((31 * x.toInt64 + 7) - (31 * x.toInt64 + 7) / 1009 * 1009).toInt32 else (((31 * x.toInt64 + 7) - (31 * x.toInt64 + 7) / 1009 * 1009) + 1009).toInt32 := by
  unfold fx_hash; rw [Int64.mul_comm x.toInt64 31]
section
variable {g_made g_blocks g_arrivals g_tip g_pooled g_chainLength : Int32} {b_op b_arg b_length b_ins b_inCoin b_inA b_inB b_outs b_amount b_lock b_parent b_work b_rewardLock b_height b_many b_holds b_delivered b_arrived b_pool b_chain b_from b_worth b_within b_spent b_stack b_again b_chosen gfe grw : Nat → Int32}
theorem ym_d145 {k n : Nat} (hk : 4 ≤ k) (hk7 : k ≤ 7) (hn : 2 ≤ n) (h6 : n ≤ 6) (v w x y : Int32) (hx : x = b_stack (n - 1)) (hy : y = b_stack (n - 2)) {post : Int32 → SY → Prop} (h : post (nI (fx_do b_stack n k v w).2) (g_made, g_blocks, g_arrivals, g_tip, g_pooled, g_chainLength, b_op, b_arg, b_length, b_ins, b_inCoin, b_inA, b_inB, b_outs, b_amount, b_lock, b_parent, b_work, b_rewardLock, b_height, b_many, b_holds, b_delivered, b_arrived, b_pool, b_chain, b_from, b_worth, b_within, b_spent, (fx_do b_stack n k v w).1, b_again, b_chosen)) : wY_done_145 post (nI k) (nI n) x y g_made g_blocks g_arrivals g_tip g_pooled g_chainLength b_op b_arg b_length b_ins b_inCoin b_inA b_inB b_outs b_amount b_lock b_parent b_work b_rewardLock b_height b_many b_holds b_delivered b_arrived b_pool b_chain b_from b_worth b_within b_spent b_stack b_again b_chosen := by
  have e1 : nI n - 1 = nI (n - 1) := fx_e1 (by omega)
  have e2 : nI n - 2 = nI (n - 2) := fx_e2 (by omega)
  have ec := pk_cl (n - 2) e2
  have hi := pk_in (n - 2) 6 (by omega) e2
  subst hx hy
  unfold wY_done_145
  rw [e1]
  rcases (by omega : k = 4 ∨ k = 5 ∨ k = 6 ∨ k = 7) with rfl | rfl | rfl | rfl
  · exact br_t (by decide) ⟨hi, nm_r (by rw [ec] <;> rfl) h⟩
  · exact br_f (by decide) (br_t (by decide) ⟨hi, nm_r (by rw [ec] <;> rfl) h⟩)
  · refine br_f (by decide) (br_f (by decide) (br_t (by decide) (br_c (fun z => ⟨hi, nm_r (by rw [ec] <;> rfl) ?_⟩) (fun z => ⟨hi, nm_r (by rw [ec] <;> rfl) ?_⟩))))
    · have e : (fx_do b_stack n 6 v w).1 = upd b_stack (n - 2) 1 := by show upd _ _ _ = _; rw [if_pos z]
      rw [e] at h; exact h
    · have e : (fx_do b_stack n 6 v w).1 = upd b_stack (n - 2) 0 := by show upd _ _ _ = _; rw [if_neg z]
      rw [e] at h; exact h
  · refine br_f (by decide) (br_f (by decide) (br_f (by decide) (br_c (fun z => ⟨hi, nm_r (by rw [ec] <;> rfl) ?_⟩) (fun z => ⟨hi, nm_r (by rw [ec] <;> rfl) ?_⟩))))
    · have e : (fx_do b_stack n 7 v w).1 = upd b_stack (n - 2) 0 := by show upd _ _ _ = _; rw [if_pos z]
      rw [e] at h; exact h
    · have e : (fx_do b_stack n 7 v w).1 = upd b_stack (n - 2) 1 := by show upd _ _ _ = _; rw [if_neg z]
      rw [e] at h; exact h
theorem ym_d35 {k n : Nat} (hk : k ≤ 12) (hn : fx_need k ≤ n) (h6 : n + fx_more k ≤ 6) (v w x y : Int32) (hx : 1 ≤ n → x = b_stack (n - 1)) (hy : 2 ≤ n → y = b_stack (n - 2)) {post : Int32 → SY → Prop} (h : post (nI (fx_do b_stack n k v w).2) (g_made, g_blocks, g_arrivals, g_tip, g_pooled, g_chainLength, b_op, b_arg, b_length, b_ins, b_inCoin, b_inA, b_inB, b_outs, b_amount, b_lock, b_parent, b_work, b_rewardLock, b_height, b_many, b_holds, b_delivered, b_arrived, b_pool, b_chain, b_from, b_worth, b_within, b_spent, (fx_do b_stack n k v w).1, b_again, b_chosen)) : wY_done_35 post (nI k) v (nI n) w x y g_made g_blocks g_arrivals g_tip g_pooled g_chainLength b_op b_arg b_length b_ins b_inCoin b_inA b_inB b_outs b_amount b_lock b_parent b_work b_rewardLock b_height b_many b_holds b_delivered b_arrived b_pool b_chain b_from b_worth b_within b_spent b_stack b_again b_chosen := by
  rcases (by omega : k = 0 ∨ k = 1 ∨ k = 2 ∨ k = 3 ∨ k = 4 ∨ k = 5 ∨ k = 6 ∨ k = 7 ∨ k = 8 ∨ k = 9 ∨ k = 10 ∨ k = 11 ∨ k = 12) with rfl | rfl | rfl | rfl | rfl | rfl | rfl | rfl | rfl | rfl | rfl | rfl | rfl
  · have h5 : n < 6 := by have : fx_more 0 = 1 := rfl; omega
    unfold wY_done_35
    repeat (first | refine br_f (by decide) ?_ | refine br_t (by decide) ?_)
    rw [nI_1 n]
    exact ⟨pk_in n 6 h5, nm_r (by rw [pk_cl n] <;> rfl) h⟩
  · have h5 : n < 6 := by have : fx_more 1 = 1 := rfl; omega
    have h1 : 1 ≤ n := hn
    obtain rfl := hx h1
    unfold wY_done_35
    repeat (first | refine br_f (by decide) ?_ | refine br_t (by decide) ?_)
    rw [nI_1 n]
    exact ⟨pk_in n 6 h5, nm_r (by rw [pk_cl n] <;> rfl) h⟩
  · have h1 : 1 ≤ n := hn
    unfold wY_done_35
    repeat (first | refine br_f (by decide) ?_ | refine br_t (by decide) ?_)
    rw [fx_e1 h1]; exact h
  · have h2 : 2 ≤ n := hn
    have h5 : n ≤ 6 := h6
    obtain rfl := hx (by omega)
    obtain rfl := hy h2
    unfold wY_done_35
    repeat (first | refine br_f (by decide) ?_ | refine br_t (by decide) ?_)
    rw [fx_e1 (by omega), fx_e2 h2]
    exact ⟨pk_in (n - 1) 6 (by omega), nm_r (by rw [pk_cl (n - 1)] <;> rfl) ⟨pk_in (n - 2) 6 (by omega), nm_r (by rw [pk_cl (n - 2)] <;> rfl) h⟩⟩
  · have h2 : 2 ≤ n := hn
    unfold wY_done_35
    iterate 6 (refine br_f (by decide) ?_)
    exact br_t (by decide) (ym_d145 (by omega) (by omega) h2 h6 v w x y (hx (by omega)) (hy h2) h)
  · have h2 : 2 ≤ n := hn
    unfold wY_done_35
    iterate 7 (refine br_f (by decide) ?_)
    exact br_t (by decide) (ym_d145 (by omega) (by omega) h2 h6 v w x y (hx (by omega)) (hy h2) h)
  · have h2 : 2 ≤ n := hn
    unfold wY_done_35
    iterate 8 (refine br_f (by decide) ?_)
    exact br_t (by decide) (ym_d145 (by omega) (by omega) h2 h6 v w x y (hx (by omega)) (hy h2) h)
  · have h2 : 2 ≤ n := hn
    unfold wY_done_35
    iterate 9 (refine br_f (by decide) ?_)
    exact br_t (by decide) (ym_d145 (by omega) (by omega) h2 h6 v w x y (hx (by omega)) (hy h2) h)
  · have h1 : 1 ≤ n := hn
    unfold wY_done_35
    repeat (first | refine br_f (by decide) ?_ | refine br_t (by decide) ?_)
    rw [fx_e1 h1]; exact h
  · have h1 : 1 ≤ n := hn
    have h5 : n ≤ 6 := h6
    obtain rfl := hx h1
    unfold wY_done_35
    repeat (first | refine br_f (by decide) ?_ | refine br_t (by decide) ?_)
    have e1 := fx_e1 h1
    have ec := pk_cl (n - 1) e1
    refine ⟨by decide, nm_e (br_c (fun z => ⟨pk_in (n - 1) 6 (by omega) e1, nm_r (by rw [ec] <;> rfl) ?_⟩) (fun z => ⟨pk_in (n - 1) 6 (by omega) e1, nm_r (by rw [ec] <;> rfl) ?_⟩))⟩
    · have e : (fx_do b_stack n 9 v w).1 = upd b_stack (n - 1) (fx_hash (b_stack (n - 1))) := rfl
      rw [e, fx_hash_y, if_pos z] at h; exact h
    · have e : (fx_do b_stack n 9 v w).1 = upd b_stack (n - 1) (fx_hash (b_stack (n - 1))) := rfl
      rw [e, fx_hash_y, if_neg z] at h; exact h
  · unfold wY_done_35
    repeat (first | refine br_f (by decide) ?_ | refine br_t (by decide) ?_)
    exact h
  · have h5 : n < 6 := by have : fx_more 11 = 1 := rfl; omega
    unfold wY_done_35
    repeat (first | refine br_f (by decide) ?_ | refine br_t (by decide) ?_)
    rw [nI_1 n]
    exact ⟨pk_in n 6 h5, nm_r (by rw [pk_cl n] <;> rfl) h⟩
  · have h1 : 1 ≤ n := hn
    unfold wY_done_35
    repeat (first | refine br_f (by decide) ?_ | refine br_t (by decide) ?_)
    rw [fx_e1 h1]; exact h
theorem ym_done {k n : Nat} (hk : k ≤ 12) (hn : fx_need k ≤ n) (h6 : n + fx_more k ≤ 6) (v w : Int32) {post : Int32 → SY → Prop} (h : post (nI (fx_do b_stack n k v w).2) (g_made, g_blocks, g_arrivals, g_tip, g_pooled, g_chainLength, b_op, b_arg, b_length, b_ins, b_inCoin, b_inA, b_inB, b_outs, b_amount, b_lock, b_parent, b_work, b_rewardLock, b_height, b_many, b_holds, b_delivered, b_arrived, b_pool, b_chain, b_from, b_worth, b_within, b_spent, (fx_do b_stack n k v w).1, b_again, b_chosen)) : wpY_done post (g_made, g_blocks, g_arrivals, g_tip, g_pooled, g_chainLength, b_op, b_arg, b_length, b_ins, b_inCoin, b_inA, b_inB, b_outs, b_amount, b_lock, b_parent, b_work, b_rewardLock, b_height, b_many, b_holds, b_delivered, b_arrived, b_pool, b_chain, b_from, b_worth, b_within, b_spent, b_stack, b_again, b_chosen) (nI k) v (nI n) w := by
  refine pk_le n 0 (fun h0 => pk_le n 1 (fun _ => ym_d35 hk hn h6 v w _ _ (fun _ => by omega) (fun _ => by omega) h) (fun _ => by omega)) (fun h0 => ?_)
  have e1 := fx_e1 h0
  have ec := congrArg b_stack (pk_cl (n - 1) e1)
  refine ⟨pk_in (n - 1) 6 (by omega) e1, pk_le n 1 (fun _ => ym_d35 hk hn h6 v w _ _ (fun _ => ec) (fun _ => by omega) h) (fun h2 => ?_)⟩
  have e2 := fx_e2 h2
  have ec2 := congrArg b_stack (pk_cl (n - 2) e2)
  exact ⟨pk_in (n - 2) 6 (by omega) e2, ym_d35 hk hn h6 v w _ _ (fun _ => ec) (fun _ => ec2) h⟩
theorem ym_f118 {k : Nat} (hk : k ≤ 12) {post : Int32 → SY → Prop} {J : Int32 → Int32 → Int32 → Int32 → Int32 → Int32 → Int32 → Int32 → (Nat → Int32) → (Nat → Int32) → (Nat → Int32) → (Nat → Int32) → (Nat → Int32) → (Nat → Int32) → (Nat → Int32) → (Nat → Int32) → (Nat → Int32) → (Nat → Int32) → (Nat → Int32) → (Nat → Int32) → (Nat → Int32) → (Nat → Int32) → (Nat → Int32) → (Nat → Int32) → (Nat → Int32) → (Nat → Int32) → (Nat → Int32) → (Nat → Int32) → (Nat → Int32) → (Nat → Int32) → (Nat → Int32) → (Nat → Int32) → (Nat → Int32) → (Nat → Int32) → (Nat → Int32) → Prop} {x4 x5 x6 x7 x8 z : Int32} (h : wY_fits_143 post J x4 x5 x6 x7 x8 (nI k) z (nI (fx_more k)) g_made g_blocks g_arrivals g_tip g_pooled g_chainLength b_op b_arg b_length b_ins b_inCoin b_inA b_inB b_outs b_amount b_lock b_parent b_work b_rewardLock b_height b_many b_holds b_delivered b_arrived b_pool b_chain b_from b_worth b_within b_spent b_stack b_again b_chosen) : wY_fits_118 post J x4 x5 x6 x7 x8 (nI k) z g_made g_blocks g_arrivals g_tip g_pooled g_chainLength b_op b_arg b_length b_ins b_inCoin b_inA b_inB b_outs b_amount b_lock b_parent b_work b_rewardLock b_height b_many b_holds b_delivered b_arrived b_pool b_chain b_from b_worth b_within b_spent b_stack b_again b_chosen := by
  rcases (by omega : k = 0 ∨ k = 1 ∨ k = 2 ∨ k = 3 ∨ k = 4 ∨ k = 5 ∨ k = 6 ∨ k = 7 ∨ k = 8 ∨ k = 9 ∨ k = 10 ∨ k = 11 ∨ k = 12) with rfl | rfl | rfl | rfl | rfl | rfl | rfl | rfl | rfl | rfl | rfl | rfl | rfl <;>
  · unfold wY_fits_118
    unfold wY_fits_138
    repeat (first | refine br_f (by decide) ?_ | refine br_t (by decide) ?_)
    exact h
theorem ym_f96 {k : Nat} (hk : k ≤ 12) {post : Int32 → SY → Prop} {J : Int32 → Int32 → Int32 → Int32 → Int32 → Int32 → Int32 → Int32 → (Nat → Int32) → (Nat → Int32) → (Nat → Int32) → (Nat → Int32) → (Nat → Int32) → (Nat → Int32) → (Nat → Int32) → (Nat → Int32) → (Nat → Int32) → (Nat → Int32) → (Nat → Int32) → (Nat → Int32) → (Nat → Int32) → (Nat → Int32) → (Nat → Int32) → (Nat → Int32) → (Nat → Int32) → (Nat → Int32) → (Nat → Int32) → (Nat → Int32) → (Nat → Int32) → (Nat → Int32) → (Nat → Int32) → (Nat → Int32) → (Nat → Int32) → (Nat → Int32) → (Nat → Int32) → Prop} {x4 x5 x6 x7 x8 : Int32} (h : wY_fits_118 post J x4 x5 x6 x7 x8 (nI k) (nI (fx_need k)) g_made g_blocks g_arrivals g_tip g_pooled g_chainLength b_op b_arg b_length b_ins b_inCoin b_inA b_inB b_outs b_amount b_lock b_parent b_work b_rewardLock b_height b_many b_holds b_delivered b_arrived b_pool b_chain b_from b_worth b_within b_spent b_stack b_again b_chosen) :
    ((nI k = 0 → (wY_fits_96 post J x4 x5 x6 x7 x8 (nI k) g_made g_blocks g_arrivals g_tip g_pooled g_chainLength b_op b_arg b_length b_ins b_inCoin b_inA b_inB b_outs b_amount b_lock b_parent b_work b_rewardLock b_height b_many b_holds b_delivered b_arrived b_pool b_chain b_from b_worth b_within b_spent b_stack b_again b_chosen)) ∧ (¬ nI k = 0 → (((nI k = 10 → (wY_fits_96 post J x4 x5 x6 x7 x8 (nI k) g_made g_blocks g_arrivals g_tip g_pooled g_chainLength b_op b_arg b_length b_ins b_inCoin b_inA b_inB b_outs b_amount b_lock b_parent b_work b_rewardLock b_height b_many b_holds b_delivered b_arrived b_pool b_chain b_from b_worth b_within b_spent b_stack b_again b_chosen)) ∧ (¬ nI k = 10 → (((nI k = 11 → (wY_fits_96 post J x4 x5 x6 x7 x8 (nI k) g_made g_blocks g_arrivals g_tip g_pooled g_chainLength b_op b_arg b_length b_ins b_inCoin b_inA b_inB b_outs b_amount b_lock b_parent b_work b_rewardLock b_height b_many b_holds b_delivered b_arrived b_pool b_chain b_from b_worth b_within b_spent b_stack b_again b_chosen)) ∧ (¬ nI k = 11 → (((nI k ≤ 2 → (wY_fits_117 post J x4 x5 x6 x7 x8 (nI k) g_made g_blocks g_arrivals g_tip g_pooled g_chainLength b_op b_arg b_length b_ins b_inCoin b_inA b_inB b_outs b_amount b_lock b_parent b_work b_rewardLock b_height b_many b_holds b_delivered b_arrived b_pool b_chain b_from b_worth b_within b_spent b_stack b_again b_chosen)) ∧ (¬ nI k ≤ 2 → (((8 ≤ nI k → (wY_fits_117 post J x4 x5 x6 x7 x8 (nI k) g_made g_blocks g_arrivals g_tip g_pooled g_chainLength b_op b_arg b_length b_ins b_inCoin b_inA b_inB b_outs b_amount b_lock b_parent b_work b_rewardLock b_height b_many b_holds b_delivered b_arrived b_pool b_chain b_from b_worth b_within b_spent b_stack b_again b_chosen)) ∧ (¬ 8 ≤ nI k → (wY_fits_118 post J x4 x5 x6 x7 x8 (nI k) 2 g_made g_blocks g_arrivals g_tip g_pooled g_chainLength b_op b_arg b_length b_ins b_inCoin b_inA b_inB b_outs b_amount b_lock b_parent b_work b_rewardLock b_height b_many b_holds b_delivered b_arrived b_pool b_chain b_from b_worth b_within b_spent b_stack b_again b_chosen))))))))))))))) := by
  rcases (by omega : k = 0 ∨ k = 1 ∨ k = 2 ∨ k = 3 ∨ k = 4 ∨ k = 5 ∨ k = 6 ∨ k = 7 ∨ k = 8 ∨ k = 9 ∨ k = 10 ∨ k = 11 ∨ k = 12) with rfl | rfl | rfl | rfl | rfl | rfl | rfl | rfl | rfl | rfl | rfl | rfl | rfl <;>
  · unfold wY_fits_96 wY_fits_117
    repeat (first | exact h | refine br_f (by decide) ?_ | refine br_t (by decide) ?_)
theorem ym_f188 {k n p : Nat} (hk : k ≤ 12) (hn : fx_need k ≤ n) (h6 : n + fx_more k ≤ 6) (hp : p < 64) (w g x6 : Int32) {post : Int32 → SY → Prop} {J : Int32 → Int32 → Int32 → Int32 → Int32 → Int32 → Int32 → Int32 → (Nat → Int32) → (Nat → Int32) → (Nat → Int32) → (Nat → Int32) → (Nat → Int32) → (Nat → Int32) → (Nat → Int32) → (Nat → Int32) → (Nat → Int32) → (Nat → Int32) → (Nat → Int32) → (Nat → Int32) → (Nat → Int32) → (Nat → Int32) → (Nat → Int32) → (Nat → Int32) → (Nat → Int32) → (Nat → Int32) → (Nat → Int32) → (Nat → Int32) → (Nat → Int32) → (Nat → Int32) → (Nat → Int32) → (Nat → Int32) → (Nat → Int32) → (Nat → Int32) → (Nat → Int32) → Prop}
    (h8 : k = 8 → b_stack (n - 1) = 0 → post 0 (g_made, g_blocks, g_arrivals, g_tip, g_pooled, g_chainLength, b_op, b_arg, b_length, b_ins, b_inCoin, b_inA, b_inB, b_outs, b_amount, b_lock, b_parent, b_work, b_rewardLock, b_height, b_many, b_holds, b_delivered, b_arrived, b_pool, b_chain, b_from, b_worth, b_within, b_spent, b_stack, b_again, b_chosen))
    (h1 : k = 12 → b_stack (n - 1) = 0 → J (nI (fx_do b_stack n k (b_arg p) w).2) (nI p + b_arg p + 1) g_made g_blocks g_arrivals g_tip g_pooled g_chainLength b_op b_arg b_length b_ins b_inCoin b_inA b_inB b_outs b_amount b_lock b_parent b_work b_rewardLock b_height b_many b_holds b_delivered b_arrived b_pool b_chain b_from b_worth b_within b_spent ((fx_do b_stack n k (b_arg p) w).1) b_again b_chosen)
    (h2 : ¬ (k = 12 ∧ b_stack (n - 1) = 0) → ¬ (k = 8 ∧ b_stack (n - 1) = 0) → J (nI (fx_do b_stack n k (b_arg p) w).2) (nI p + 1) g_made g_blocks g_arrivals g_tip g_pooled g_chainLength b_op b_arg b_length b_ins b_inCoin b_inA b_inB b_outs b_amount b_lock b_parent b_work b_rewardLock b_height b_many b_holds b_delivered b_arrived b_pool b_chain b_from b_worth b_within b_spent ((fx_do b_stack n k (b_arg p) w).1) b_again b_chosen) :
    wY_fits_188 post J w g x6 (nI n) (nI p) (nI k) g_made g_blocks g_arrivals g_tip g_pooled g_chainLength b_op b_arg b_length b_ins b_inCoin b_inA b_inB b_outs b_amount b_lock b_parent b_work b_rewardLock b_height b_many b_holds b_delivered b_arrived b_pool b_chain b_from b_worth b_within b_spent b_stack b_again b_chosen := by
  have epc : b_arg (nI p).toNatClampNeg = b_arg p := congrArg b_arg (pk_cl p)
  refine pk_eq k 8 (fun e => ?_) (fun e => ?_)
  · subst e
    have hn1 : 1 ≤ n := hn
    have h5 : n ≤ 6 := h6
    have e1 : nI n - 1 = nI (n - 1) := fx_e1 (by omega)
    have ec := congrArg b_stack (pk_cl (n - 1) e1)
    refine ⟨pk_in (n - 1) 6 (by omega) e1, br_c (fun z => h8 rfl (ec ▸ z)) (fun z => ⟨pk_in p 64 hp, nm_r epc (br_f (by decide) (ym_done hk hn h6 _ w (nm_e (h2 (fun q => by omega) (fun q => z (ec.trans q.2))))))⟩)⟩
  · refine ⟨pk_in p 64 hp, nm_r epc (pk_eq k 12 (fun e => ?_) (fun e2 => ?_))⟩
    · subst e
      have hn1 : 1 ≤ n := hn
      have h5 : n ≤ 6 := h6
      have e1 : nI n - 1 = nI (n - 1) := fx_e1 (by omega)
      have ec := congrArg b_stack (pk_cl (n - 1) e1)
      refine ⟨pk_in (n - 1) 6 (by omega) e1, br_c (fun z => nm_e (ym_done hk hn h6 _ w (nm_e (h1 rfl (ec ▸ z))))) (fun z => ym_done hk hn h6 _ w (nm_e (h2 (fun q => z (ec.trans q.2)) (fun q => by omega))))⟩
    · exact ym_done hk hn h6 _ w (nm_e (h2 (fun q => e2 q.1) (fun q => e q.1)))
theorem ym_f50 {s L : Nat} {h g : Int32} (hs : s < 8) (hL : L ≤ 8) (eL : b_length s = nI L) (hop : ∀ i, i < L → ∃ k, k ≤ 12 ∧ b_op (8 * s + i) = nI k ∧ (k = 12 → ∃ v, v ≤ 8 ∧ b_arg (8 * s + i) = nI v)) {post : Int32 → SY → Prop} : ∀ (fuel i n : Nat) (a : Nat → Int32), L < i + fuel → i ≤ 100 → n ≤ 6 →
    (fx_run b_op b_arg h g (L - i) (8 * s + i) 0 a n → ∀ st, post 1 (g_made, g_blocks, g_arrivals, g_tip, g_pooled, g_chainLength, b_op, b_arg, b_length, b_ins, b_inCoin, b_inA, b_inB, b_outs, b_amount, b_lock, b_parent, b_work, b_rewardLock, b_height, b_many, b_holds, b_delivered, b_arrived, b_pool, b_chain, b_from, b_worth, b_within, b_spent, st, b_again, b_chosen)) →
    (¬ fx_run b_op b_arg h g (L - i) (8 * s + i) 0 a n → ∀ st, post 0 (g_made, g_blocks, g_arrivals, g_tip, g_pooled, g_chainLength, b_op, b_arg, b_length, b_ins, b_inCoin, b_inA, b_inB, b_outs, b_amount, b_lock, b_parent, b_work, b_rewardLock, b_height, b_many, b_holds, b_delivered, b_arrived, b_pool, b_chain, b_from, b_worth, b_within, b_spent, st, b_again, b_chosen)) →
    wY_fits_50 post h g (nI s) (fuel + 1) (nI n) (nI (8 * s + i)) g_made g_blocks g_arrivals g_tip g_pooled g_chainLength b_op b_arg b_length b_ins b_inCoin b_inA b_inB b_outs b_amount b_lock b_parent b_work b_rewardLock b_height b_many b_holds b_delivered b_arrived b_pool b_chain b_from b_worth b_within b_spent a b_again b_chosen := by
  have ec : b_length (nI s).toNatClampNeg = nI L := by rw [nI_clamp (by omega)]; exact eL
  have e8 : 8 * nI s + b_length (nI s).toNatClampNeg = nI (8 * s + L) := by rw [ec, show (8 : Int32) = nI 8 from rfl, pk_mul, nI_add]
  intro fuel
  induction fuel with
  | zero =>
    intro i n a hi hi2 h6 H1 H0
    rw [show L - i = 0 by omega, fx_run] at H1 H0
    refine ⟨vp_in_nI hs (by omega), pk_le (8 * s + L) (8 * s + i) (fun _ => pk_le n 0 (fun hn => H0 (fun z => by omega) _) (fun hn => ?_)) (fun z => by omega) e8⟩
    have e1 : nI n - 1 = nI (n - 1) := fx_e1 (by omega)
    have ea := congrArg a (pk_cl (n - 1) e1)
    exact ⟨pk_in (n - 1) 6 (by omega) e1, br_c (fun z => H0 (fun q => q.2 (ea ▸ z)) _) (fun z => H1 ⟨hn, fun q => z (ea.trans q)⟩ _)⟩
  | succ fuel ih =>
    intro i n a hi hi2 h6 H1 H0
    refine ⟨vp_in_nI hs (by omega), pk_le (8 * s + L) (8 * s + i) (fun hx => ?_) (fun hx => ?_) e8⟩
    · rw [show L - i = 0 by omega, fx_run] at H1 H0
      refine pk_le n 0 (fun hn => H0 (fun z => by omega) _) (fun hn => ?_)
      have e1 : nI n - 1 = nI (n - 1) := fx_e1 (by omega)
      have ea := congrArg a (pk_cl (n - 1) e1)
      exact ⟨pk_in (n - 1) 6 (by omega) e1, br_c (fun z => H0 (fun q => q.2 (ea ▸ z)) _) (fun z => H1 ⟨hn, fun q => z (ea.trans q)⟩ _)⟩
    · obtain ⟨r, hr⟩ : ∃ r, L - i = r + 1 := ⟨L - i - 1, by omega⟩
      rw [hr, fx_run] at H1 H0
      obtain ⟨k, hk, ek, hv⟩ := hop i (by omega)
      have ekc : (b_op (8 * s + i)).toNatClampNeg = k := by rw [ek]; exact nI_clamp (by omega)
      rw [ekc] at H1 H0
      have hneed : fx_need k ≤ 2 := by unfold fx_need; split <;> omega
      have hmore : fx_more k ≤ 1 := by unfold fx_more; split <;> omega
      have epc : b_arg (nI (8 * s + i)).toNatClampNeg = b_arg (8 * s + i) := congrArg b_arg (pk_cl (8 * s + i))
      refine ⟨pk_in (8 * s + i) 64 (by omega), nm_r ((congrArg b_op (pk_cl (8 * s + i))).trans ek) (ym_f96 hk (ym_f118 hk ?_))⟩
      refine pk_lt n (fx_need k) (fun hlt => H0 (fun q => by have := q.1; omega) _) (fun hge => ?_)
      have main : n + fx_more k ≤ 6 → ((k = 10 → b_arg (8 * s + i) ≤ h - g)) → wY_fits_188 post (wY_fits_50 post h g (nI s) (fuel + 1)) h g (nI s) (nI n) (nI (8 * s + i)) (nI k) g_made g_blocks g_arrivals g_tip g_pooled g_chainLength b_op b_arg b_length b_ins b_inCoin b_inA b_inB b_outs b_amount b_lock b_parent b_work b_rewardLock b_height b_many b_holds b_delivered b_arrived b_pool b_chain b_from b_worth b_within b_spent a b_again b_chosen := by
        intro hm h10
        have hdn : (fx_do a n k (b_arg (8 * s + i)) h).2 ≤ 6 := by
          unfold fx_do; unfold fx_more at hm; split <;> dsimp only at hm ⊢ <;> omega
        refine ym_f188 hk hge hm (by omega) _ _ _ (fun e z => H0 (fun q => q.2.2.2.1 e z) _) (fun e z => ?_) (fun q1 q2 => ?_)
        · obtain ⟨v, hv8, ev⟩ := hv e
          have evc : (b_arg (8 * s + i)).toNatClampNeg = v := by rw [ev]; exact nI_clamp (by omega)
          rw [evc] at H1 H0
          have en : nI (8 * s + i) + b_arg (8 * s + i) + 1 = nI (8 * s + (i + v + 1)) := by rw [ev, nI_add, nI_1]; exact congrArg nI (by omega)
          have ej := fx_run_jump b_op b_arg h g v r (8 * s + i + 1) (fx_do a n k (b_arg (8 * s + i)) h).1 (fx_do a n k (b_arg (8 * s + i)) h).2
          rw [fx_ar1 hr, show 8 * s + i + 1 + v = 8 * s + (i + v + 1) by omega] at ej
          rw [en]
          exact ih (i + v + 1) _ _ (by omega) (by omega) hdn (fun hr' => H1 ⟨hge, hm, h10, fun e8 => by omega, fun _ => ej.mpr hr', fun q => (q ⟨e, z⟩).elim⟩) (fun hr' => H0 fun q => hr' (ej.mp (q.2.2.2.2.1 ⟨e, z⟩)))
        · rw [nI_1]
          have er : r = L - (i + 1) := fx_ar2 hr
          rw [er, show 8 * s + i + 1 = 8 * s + (i + 1) by omega] at H1 H0
          exact ih (i + 1) _ _ (by omega) (by omega) hdn (fun hr => H1 ⟨hge, hm, h10, fun e8 z => q2 ⟨e8, z⟩, fun q => (q1 q).elim, fun _ => hr⟩) (fun hr => H0 fun q => hr (q.2.2.2.2.2 q1))
      have main2 : n + fx_more k ≤ 6 → wY_fits_164 post (wY_fits_50 post h g (nI s) (fuel + 1)) h g (nI s) (nI n) (nI (8 * s + i)) (nI k) g_made g_blocks g_arrivals g_tip g_pooled g_chainLength b_op b_arg b_length b_ins b_inCoin b_inA b_inB b_outs b_amount b_lock b_parent b_work b_rewardLock b_height b_many b_holds b_delivered b_arrived b_pool b_chain b_from b_worth b_within b_spent a b_again b_chosen := by
        intro hm
        refine pk_eq k 10 (fun e => ⟨pk_in (8 * s + i) 64 (by omega), ?_⟩) (fun e => main hm fun q => (e q).elim)
        rw [epc]
        exact br_c (fun z => main hm fun _ => z) (fun z => H0 (fun q => z (q.2.2.1 e)) _)
      exact pk_eq (fx_more k) 0 (fun e => main2 (by omega)) (fun e => pk_eq n 6 (fun e6 => H0 (fun q => by have := q.2.1; omega) _) (fun e6 => main2 (by omega)))
theorem ym_fits {c s : Nat} {A B h g : Int32} (hc : c < 152) (hs : s < 8) (e1 : c < 120 → b_lock c = nI s) (e2 : 120 ≤ c → b_rewardLock (c - 120) = nI s) (ht : fx_tok b_length b_op b_arg) {post : Int32 → SY → Prop}
    (H1 : fx_fits b_length b_op b_arg s A B h g → ∀ st, post 1 (g_made, g_blocks, g_arrivals, g_tip, g_pooled, g_chainLength, b_op, b_arg, b_length, b_ins, b_inCoin, b_inA, b_inB, b_outs, b_amount, b_lock, b_parent, b_work, b_rewardLock, b_height, b_many, b_holds, b_delivered, b_arrived, b_pool, b_chain, b_from, b_worth, b_within, b_spent, st, b_again, b_chosen))
    (H0 : ¬ fx_fits b_length b_op b_arg s A B h g → ∀ st, post 0 (g_made, g_blocks, g_arrivals, g_tip, g_pooled, g_chainLength, b_op, b_arg, b_length, b_ins, b_inCoin, b_inA, b_inB, b_outs, b_amount, b_lock, b_parent, b_work, b_rewardLock, b_height, b_many, b_holds, b_delivered, b_arrived, b_pool, b_chain, b_from, b_worth, b_within, b_spent, st, b_again, b_chosen)) :
    wpY_fits post (g_made, g_blocks, g_arrivals, g_tip, g_pooled, g_chainLength, b_op, b_arg, b_length, b_ins, b_inCoin, b_inA, b_inB, b_outs, b_amount, b_lock, b_parent, b_work, b_rewardLock, b_height, b_many, b_holds, b_delivered, b_arrived, b_pool, b_chain, b_from, b_worth, b_within, b_spent, b_stack, b_again, b_chosen) (nI c) A B h g := by
  obtain ⟨L, hL, eL, hop⟩ := ht s hs
  have eLc : (b_length s).toNatClampNeg = L := by rw [eL]; exact nI_clamp (by omega)
  rw [← fx_fits_of _ _ _ b_stack, eLc] at H1 H0
  have e8 : 8 * nI s = nI (8 * s + 0) := by rw [show (8 : Int32) = nI 8 from rfl, pk_mul]; rfl
  have main : wY_fits_24 post A B h g (nI s) g_made g_blocks g_arrivals g_tip g_pooled g_chainLength b_op b_arg b_length b_ins b_inCoin b_inA b_inB b_outs b_amount b_lock b_parent b_work b_rewardLock b_height b_many b_holds b_delivered b_arrived b_pool b_chain b_from b_worth b_within b_spent b_stack b_again b_chosen :=
    nm_e (nm_e (nm_r e8 ⟨L + 1 + 1, ym_f50 hs hL eL hop (L + 1) 0 2 _ (by omega) (by omega) (by omega) H1 H0⟩))
  refine pk_le 120 c (fun h120 => ?_) (fun h120 => ?_)
  · have ex : nI c - 120 = nI (c - 120) := pk_sub (b := 120) h120
    refine ⟨pk_in (c - 120) 33 (by omega) ex, ?_⟩
    rw [pk_cl (c - 120) ex, e2 h120]; exact main
  · refine ⟨pk_in c 123 (by omega), ?_⟩
    rw [pk_cl c, e1 h120]; exact main
end

/-! the pool: what holds of it, and how a transaction comes in -/
def pd_pool (D : pd_D) (S : pd_S) (made : Nat) (pl : pd_F) (np : Nat) : Prop := np ≤ 12 ∧ ∀ k, k < np → ∃ t, t < made ∧ pl k = nI t ∧ S.2.2 t < 0
    ∧ (∀ i, i < (pd_ic D t).toNatClampNeg → (0 ≤ S.1 (pd_co D (3 * t + i)).toNatClampNeg ∧ S.2.1 (pd_co D (3 * t + i)).toNatClampNeg = 0) ∨ ((pd_co D (3 * t + i)).toNatClampNeg < 120 ∧ ∃ j, j < k ∧ pl j = nI ((pd_co D (3 * t + i)).toNatClampNeg / 3)))
    ∧ (∀ j, j < k → pl j ≠ pl k)
theorem pd_pool_pl {D : pd_D} {S : pd_S} {made np : Nat} {pl : pd_F} (P : pd_pool D S made pl np) : pd_pl pl np made := fun k hk => by
  obtain ⟨t, h1, h2, _⟩ := P.2 k hk
  exact ⟨t, h1, h2⟩
theorem pd_pool_inj {D : pd_D} {S : pd_S} {made np : Nat} {pl : pd_F} (P : pd_pool D S made pl np) {i j : Nat} (hi : i < np) (hj : j < np) (e : pl i = pl j) : i = j := by
  obtain ⟨_, _, _, _, _, d1⟩ := P.2 i hi
  obtain ⟨_, _, _, _, _, d2⟩ := P.2 j hj
  rcases Nat.lt_trichotomy i j with h | h | h
  · exact (d2 i h e).elim
  · exact h
  · exact (d1 j h e.symm).elim
theorem pd_pool_topo {D : pd_D} {S : pd_S} {made blocks np : Nat} {pl : pd_F} (hm : made ≤ 40) (I : pd_inv D made blocks S) (P : pd_pool D S made pl np) {i j : Nat} (hi : i < np) (hj : j < np) (h : pd_needs D (pl i).toNatClampNeg (pl j).toNatClampNeg) : j < i := by
  obtain ⟨t, h1, h2, h3, h4, h5⟩ := P.2 i hi
  obtain ⟨u, q1, q2, q3, _⟩ := P.2 j hj
  rw [pd_cl h2 (by omega), pd_cl q2 (by omega)] at h
  obtain ⟨k, k1, k2, k3⟩ := h
  rcases h4 k k1 with ⟨z, _⟩ | ⟨_, j', z1, z2⟩
  · have := I.2.2.2.2.1 _ k2 z
    rw [k3] at this
    exact absurd this (Int32.not_le.mpr q3)
  · rw [k3, ← q2] at z2
    have := pd_pool_inj P (by omega) hj z2
    omega
theorem pd_rm_sub (mk pl : pd_F) : ∀ n, ∃ f : Nat → Nat, (∀ j, j < (pd_rm mk pl n).2 → f j < n ∧ mk (f j) = 0 ∧ (pd_rm mk pl n).1 j = pl (f j)) ∧ (∀ i j, i < j → j < (pd_rm mk pl n).2 → f i < f j) ∧ (∀ k, k < n → mk k = 0 → ∃ j, j < (pd_rm mk pl n).2 ∧ f j = k) ∧ (∀ k, (pd_rm mk pl n).2 ≤ k → (pd_rm mk pl n).1 k = pl k) := by
  intro n
  induction n with
  | zero => exact ⟨fun j => j, fun j hj => (Nat.not_lt_zero _ hj).elim, fun i j _ hj => (Nat.not_lt_zero _ hj).elim, fun k hk => (Nat.not_lt_zero _ hk).elim, fun k _ => rfl⟩
  | succ n ih =>
    obtain ⟨f, h1, h2, h3, h4⟩ := ih
    have hle := pd_rm_le mk pl n
    by_cases e : mk n = 0
    · rw [pd_rm, if_pos e]
      generalize pd_rm mk pl n = R at *
      refine ⟨fun j => if j = R.2 then n else f j, fun j hj => ?_, fun i j hij hj => ?_, fun k hk hm => ?_, fun k hk => ?_⟩
      · have hj' : j < R.2 + 1 := hj
        show (if j = R.2 then n else f j) < n + 1 ∧ mk (if j = R.2 then n else f j) = 0 ∧ upd R.1 R.2 (R.1 n) j = pl (if j = R.2 then n else f j)
        by_cases q : j = R.2
        · rw [if_pos q, q, pk_us]
          exact ⟨by omega, e, h4 n hle⟩
        · rw [if_neg q, pk_un q]
          obtain ⟨z1, z2, z3⟩ := h1 j (by omega)
          exact ⟨by omega, z2, z3⟩
      · have hj' : j < R.2 + 1 := hj
        show (if i = R.2 then n else f i) < if j = R.2 then n else f j
        rw [if_neg (by omega)]
        by_cases q : j = R.2
        · rw [if_pos q]; exact (h1 i (by omega)).1
        · rw [if_neg q]; exact h2 i j hij (by omega)
      · by_cases q : k = n
        · exact ⟨R.2, Nat.lt_succ_self _, by show (if R.2 = R.2 then n else f R.2) = k; rw [if_pos rfl]; omega⟩
        · obtain ⟨j, z1, z2⟩ := h3 k (by omega) hm
          refine ⟨j, Nat.lt_succ_of_lt z1, ?_⟩
          show (if j = R.2 then n else f j) = k
          rw [if_neg (by omega)]; exact z2
      · have hk' : R.2 + 1 ≤ k := hk
        show upd R.1 R.2 (R.1 n) k = pl k
        rw [pk_un (by omega)]; exact h4 k (by omega)
    · rw [pd_rm, if_neg e]
      refine ⟨f, fun j hj => ?_, h2, fun k hk hm => ?_, h4⟩
      · obtain ⟨z1, z2, z3⟩ := h1 j hj
        exact ⟨by omega, z2, z3⟩
      · by_cases q : k = n
        · subst q; exact (e hm).elim
        · exact h3 k (by omega) hm
theorem pd_rm_none {mk pl : pd_F} : ∀ n, (∀ k, k < n → mk k = 0) → pd_rm mk pl n = (pl, n) := by
  intro n
  induction n with
  | zero => intro _; rfl
  | succ n ih =>
    intro h
    rw [pd_rm, if_pos (h n (by omega)), ih fun k hk => h k (by omega)]
    refine Prod.ext ?_ rfl
    funext j
    show upd pl n (pl n) j = pl j
    by_cases e : j = n
    · rw [e, pk_us]
    · rw [pk_un e]
theorem pd_rm_eq {mk mk' pl : pd_F} : ∀ n, (∀ k, k < n → mk k = mk' k) → pd_rm mk pl n = pd_rm mk' pl n := by
  intro n
  induction n with
  | zero => intro _; rfl
  | succ n ih => intro h; rw [pd_rm, pd_rm, h n (by omega), ih fun k hk => h k (by omega)]
theorem pd_mf_eq {mk mk' fe fe' pl : pd_F} : ∀ n, (∀ k, k < n → mk k = mk' k) → (∀ k, k < n → fe (pl k).toNatClampNeg = fe' (pl k).toNatClampNeg) → pd_mf mk fe pl n = pd_mf mk' fe' pl n := by
  intro n
  induction n with
  | zero => intro _ _; rfl
  | succ n ih => intro h h'; rw [pd_mf, pd_mf, h n (by omega), h' n (by omega), ih (fun k hk => h k (by omega)) (fun k hk => h' k (by omega))]
theorem pd_ms_ex (D : pd_D) (pl : pd_F) (t : Nat) : ∀ n, ∃ mk, pd_ms D pl n t mk := by
  intro n
  induction n with
  | zero => exact ⟨fun _ => 0, fun k hk => by omega⟩
  | succ n ih =>
    obtain ⟨mk, h⟩ := ih
    have aux : ∀ z : Int32, (z = 0 ∨ z = 1) → (z = 1 ↔ (pd_share D t (pl n).toNatClampNeg ∨ ∃ j, j < n ∧ mk j = 1 ∧ pd_needs D (pl n).toNatClampNeg (pl j).toNatClampNeg)) → pd_ms D pl (n + 1) t (upd mk n z) := by
      intro z hz hiff k hk
      by_cases e : k = n
      · subst e
        rw [pk_us]
        refine ⟨hz, hiff.trans (or_congr Iff.rfl (exists_congr fun j => and_congr_right fun hj => ?_))⟩
        rw [pk_un (by omega)]
      · rw [pk_un e]
        obtain ⟨q1, q2⟩ := h k (by omega)
        refine ⟨q1, q2.trans (or_congr Iff.rfl (exists_congr fun j => and_congr_right fun hj => ?_))⟩
        rw [pk_un (by omega)]
    by_cases c : (pd_share D t (pl n).toNatClampNeg ∨ ∃ j, j < n ∧ mk j = 1 ∧ pd_needs D (pl n).toNatClampNeg (pl j).toNatClampNeg)
    · exact ⟨_, aux 1 (Or.inr rfl) ⟨fun _ => c, fun _ => rfl⟩⟩
    · exact ⟨_, aux 0 (Or.inl rfl) ⟨fun z => absurd z (by decide), fun z => (c z).elim⟩⟩
theorem pd_ms_uniq {D : pd_D} {pl mk mk' : pd_F} {t np : Nat} (m : pd_ms D pl np t mk) (m' : pd_ms D pl np t mk') : ∀ k, k < np → mk k = mk' k := by
  have key : ∀ n k, k < n → k < np → mk k = mk' k := by
    intro n
    induction n with
    | zero => intro k hk; omega
    | succ n ih =>
      intro k hk hk2
      obtain ⟨a1, a2⟩ := m k hk2
      obtain ⟨b1, b2⟩ := m' k hk2
      have : mk k = 1 ↔ mk' k = 1 := by
        rw [a2, b2]
        refine or_congr Iff.rfl (exists_congr fun j => and_congr_right fun hj => ?_)
        rw [ih j (by omega) (by omega)]
      rcases a1 with a | a <;> rcases b1 with b | b
      · rw [a, b]
      · rw [this.mpr b, b]
      · rw [a, this.mp a]
      · rw [a, b]
  exact fun k hk => key (k + 1) k (by omega) hk
theorem pd_pool_rm {D : pd_D} {S : pd_S} {made np t : Nat} {pl mk : pd_F} (hm : made ≤ 40) (P : pd_pool D S made pl np) (m : pd_ms D pl np t mk) : pd_pool D S made (pd_rm mk pl np).1 (pd_rm mk pl np).2 := by
  obtain ⟨f, h1, h2, h3, h4⟩ := pd_rm_sub mk pl np
  have hle := pd_rm_le mk pl np
  have hnp := P.1
  refine ⟨by omega, fun k hk => ?_⟩
  obtain ⟨z1, z2, z3⟩ := h1 k hk
  obtain ⟨u, p1, p2, p3, p4, p5⟩ := P.2 (f k) z1
  refine ⟨u, p1, z3.trans p2, p3, fun i hi => ?_, fun j hj => ?_⟩
  · rcases p4 i hi with q | ⟨q1, j, q2, q3⟩
    · exact Or.inl q
    · refine Or.inr ⟨q1, ?_⟩
      have hmj : mk j = 0 := by
        rcases (m j (by omega)).1 with e | e
        · exact e
        · have : mk (f k) = 1 := (m (f k) z1).2.mpr (Or.inr ⟨j, q2, e, by
            rw [pd_cl p2 (by omega), pd_cl q3 (by omega)]
            exact ⟨i, hi, q1, rfl⟩⟩)
          rw [z2] at this
          exact absurd this (by decide)
      obtain ⟨j', j1, j2⟩ := h3 j (by omega) hmj
      refine ⟨j', ?_, by rw [(h1 j' j1).2.2, j2]; exact q3⟩
      rcases Nat.lt_trichotomy j' k with h | h | h
      · exact h
      · subst h; omega
      · have := h2 k j' h j1; omega
  · rw [(h1 j (by omega)).2.2, z3]
    exact p5 (f j) (h2 j k hj hk)
theorem pd_pool_app {D : pd_D} {S : pd_S} {made np t : Nat} {pl : pd_F} (P : pd_pool D S made pl np) (h12 : np < 12) (ht : t < made) (hth : S.2.2 t < 0) (hno : ∀ j, j < np → pl j ≠ nI t)
    (hin : ∀ i, i < (pd_ic D t).toNatClampNeg → (0 ≤ S.1 (pd_co D (3 * t + i)).toNatClampNeg ∧ S.2.1 (pd_co D (3 * t + i)).toNatClampNeg = 0) ∨ ((pd_co D (3 * t + i)).toNatClampNeg < 120 ∧ ∃ j, j < np ∧ pl j = nI ((pd_co D (3 * t + i)).toNatClampNeg / 3))) : pd_pool D S made (upd pl np (nI t)) (np + 1) := by
  refine ⟨by omega, fun k hk => ?_⟩
  by_cases e : k = np
  · subst e
    rw [pk_us]
    refine ⟨t, ht, rfl, hth, fun i hi => ?_, fun j hj => by rw [pk_un (by omega)]; exact hno j hj⟩
    rcases hin i hi with q | ⟨q1, j, q2, q3⟩
    · exact Or.inl q
    · exact Or.inr ⟨q1, j, q2, by rw [pk_un (by omega)]; exact q3⟩
  · rw [pk_un e]
    obtain ⟨u, p1, p2, p3, p4, p5⟩ := P.2 k (by omega)
    refine ⟨u, p1, p2, p3, fun i hi => ?_, fun j hj => by rw [pk_un (by omega)]; exact p5 j hj⟩
    rcases p4 i hi with q | ⟨q1, j, q2, q3⟩
    · exact Or.inl q
    · exact Or.inr ⟨q1, j, q2, by rw [pk_un (by omega)]; exact q3⟩
theorem pd_ag_may {D E : pd_D} {made blocks t : Nat} {h : Int32} {S : pd_S} {P : Nat → Prop} (w : pd_wf D made blocks) (a : pd_ag D E made blocks) (ht : t < made) : pd_may E S h P t ↔ pd_may D S h P t := by
  obtain ⟨e1, e2, e3, e4, e5⟩ := a.1 _ ht
  unfold pd_may
  rw [e1, e3]
  refine and_congr (forall_congr' fun i => imp_congr_right fun hi => ?_) Iff.rfl
  obtain ⟨c, hc, _, ec, hq⟩ := pd_wf_co w ht hi
  obtain ⟨q1, q2, q3⟩ := e4 i hi
  unfold pd_okG
  rw [q1, q2, q3, ec]
  exact and_congr Iff.rfl (and_congr Iff.rfl (and_congr Iff.rfl (pd_ag_fit w a hc (pd_coin_mono (Nat.le_of_lt ht) hq))))
section
variable {g_made g_blocks g_arrivals g_tip g_pooled g_chainLength : Int32} {b_op b_arg b_length b_ins b_inCoin b_inA b_inB b_outs b_amount b_lock b_parent b_work b_rewardLock b_height b_many b_holds b_delivered b_arrived b_pool b_chain b_from b_worth b_within b_spent b_stack b_again b_chosen gfe grw : Nat → Int32}
theorem yq_poolCoin {np c : Nat} (hnp : np ≤ 12) (ep : g_pooled = nI np) (hc : c < 152) {post : Int32 → Prop} (H1 : (c < 120 ∧ ∃ k, k < np ∧ b_pool k = nI (c / 3)) → post 1) (H0 : ¬ (c < 120 ∧ ∃ k, k < np ∧ b_pool k = nI (c / 3)) → post 0) : wpY_isPoolCoin post (g_made, g_blocks, g_arrivals, g_tip, g_pooled, g_chainLength, b_op, b_arg, b_length, b_ins, b_inCoin, b_inA, b_inB, b_outs, b_amount, b_lock, b_parent, b_work, b_rewardLock, b_height, b_many, b_holds, b_delivered, b_arrived, b_pool, b_chain, b_from, b_worth, b_within, b_spent, b_stack, b_again, b_chosen) (nI c) := by
  refine pk_le 120 c (fun z => H0 fun q => by omega) (fun z => ⟨by decide, ?_⟩)
  rw [xb_d3 hc]
  exact yq_pooled hnp ep (fun q => br_f (by decide) (H1 ⟨z, q⟩)) (fun q => br_t rfl (H0 fun q' => q q'.2))
theorem ym_isLate {made blocks t np tp n : Nat} (w : pd_wf (b_length, b_op, b_arg, b_ins, b_inCoin, b_inA, b_inB, b_outs, b_amount, b_lock, b_parent, b_height, b_rewardLock, b_many, b_holds, gfe, grw) made blocks) (tk : fx_tok b_length b_op b_arg) (fq : pd_feq (b_length, b_op, b_arg, b_ins, b_inCoin, b_inA, b_inB, b_outs, b_amount, b_lock, b_parent, b_height, b_rewardLock, b_many, b_holds, gfe, grw) made) (ht : t < made) (hnp : np ≤ 12) (ep : g_pooled = nI np) (et : g_tip = nI tp) (htp : tp < 33) (eh : b_height tp = nI n) (hn : n < 32) (rg : pd_rng b_from) (wr : pd_wor (b_length, b_op, b_arg, b_ins, b_inCoin, b_inA, b_inB, b_outs, b_amount, b_lock, b_parent, b_height, b_rewardLock, b_many, b_holds, gfe, grw) b_from b_worth)
    (hP : ∀ c, c < 152 → (∃ k, k < np ∧ b_pool k = nI (c / 3)) → c < 120 ∧ b_spent c = 0) {post : Int32 → SY → Prop}
    (H0 : pd_may (b_length, b_op, b_arg, b_ins, b_inCoin, b_inA, b_inB, b_outs, b_amount, b_lock, b_parent, b_height, b_rewardLock, b_many, b_holds, gfe, grw) (b_from, b_spent, b_within) (nI (n + 1)) (fun c => ∃ k, k < np ∧ b_pool k = nI (c / 3)) t → ∀ st, post 0 (g_made, g_blocks, g_arrivals, g_tip, g_pooled, g_chainLength, b_op, b_arg, b_length, b_ins, b_inCoin, b_inA, b_inB, b_outs, b_amount, b_lock, b_parent, b_work, b_rewardLock, b_height, b_many, b_holds, b_delivered, b_arrived, b_pool, b_chain, b_from, b_worth, b_within, b_spent, st, b_again, b_chosen))
    (H1 : ¬ pd_may (b_length, b_op, b_arg, b_ins, b_inCoin, b_inA, b_inB, b_outs, b_amount, b_lock, b_parent, b_height, b_rewardLock, b_many, b_holds, gfe, grw) (b_from, b_spent, b_within) (nI (n + 1)) (fun c => ∃ k, k < np ∧ b_pool k = nI (c / 3)) t → ∀ st, post 1 (g_made, g_blocks, g_arrivals, g_tip, g_pooled, g_chainLength, b_op, b_arg, b_length, b_ins, b_inCoin, b_inA, b_inB, b_outs, b_amount, b_lock, b_parent, b_work, b_rewardLock, b_height, b_many, b_holds, b_delivered, b_arrived, b_pool, b_chain, b_from, b_worth, b_within, b_spent, st, b_again, b_chosen)) :
    wpY_isLate post (g_made, g_blocks, g_arrivals, g_tip, g_pooled, g_chainLength, b_op, b_arg, b_length, b_ins, b_inCoin, b_inA, b_inB, b_outs, b_amount, b_lock, b_parent, b_work, b_rewardLock, b_height, b_many, b_holds, b_delivered, b_arrived, b_pool, b_chain, b_from, b_worth, b_within, b_spent, b_stack, b_again, b_chosen) (nI t) := by
  have hm := w.2.2.1
  obtain ⟨nn, m, _, hnn, _, hm3, en, em, hc, _⟩ := w.2.2.2.2.1 _ ht
  have en' : b_ins t = nI nn := en
  have enc : (pd_ic (b_length, b_op, b_arg, b_ins, b_inCoin, b_inA, b_inB, b_outs, b_amount, b_lock, b_parent, b_height, b_rewardLock, b_many, b_holds, gfe, grw) t).toNatClampNeg = nn := pd_cl en (by omega)
  have e3 : 3 * nI t + b_ins (nI t).toNatClampNeg = nI (3 * t + nn) := by rw [pk_cl t, en']; exact yb_3 t nn
  unfold pd_may at H0 H1
  rw [enc] at H0 H1
  have key : ∀ (d i fuel : Nat) (st : Nat → Int32), i + d = nn → d < fuel → (∀ j, j < i → pd_okG (b_length, b_op, b_arg, b_ins, b_inCoin, b_inA, b_inB, b_outs, b_amount, b_lock, b_parent, b_height, b_rewardLock, b_many, b_holds, gfe, grw) (b_from, b_spent, b_within) (nI (n + 1)) (3 * t + j) (pd_from (b_from, b_spent, b_within) (nI (n + 1)) (pd_co (b_length, b_op, b_arg, b_ins, b_inCoin, b_inA, b_inB, b_outs, b_amount, b_lock, b_parent, b_height, b_rewardLock, b_many, b_holds, gfe, grw) (3 * t + j)).toNatClampNeg (∃ k, k < np ∧ b_pool k = nI ((pd_co (b_length, b_op, b_arg, b_ins, b_inCoin, b_inA, b_inB, b_outs, b_amount, b_lock, b_parent, b_height, b_rewardLock, b_many, b_holds, gfe, grw) (3 * t + j)).toNatClampNeg / 3)))) → wY_isLate_16 post (nI t) (nI (n + 1)) fuel (nI (3 * t + i)) g_made g_blocks g_arrivals g_tip g_pooled g_chainLength b_op b_arg b_length b_ins b_inCoin b_inA b_inB b_outs b_amount b_lock b_parent b_work b_rewardLock b_height b_many b_holds b_delivered b_arrived b_pool b_chain b_from b_worth b_within b_spent st b_again b_chosen := by
    intro d
    induction d with
    | zero =>
      intro i fuel st hi hf hj
      obtain ⟨fuel, rfl⟩ : ∃ q, fuel = q + 1 := ⟨fuel - 1, by omega⟩
      obtain rfl : i = nn := by omega
      refine ⟨pk_in t 41 (by omega), br_t (by rw [e3]; exact nI_le (Nat.le_refl _) (by omega)) (yq_fee w fq ht (fun i' hi' h120 => ?_) (br_c (fun z => H0 ⟨hj, z⟩ st) (fun z => H1 (fun q => z q.2) st)))⟩
      rw [enc] at hi'
      obtain ⟨g0, _, _, _⟩ := hj i' hi'
      obtain ⟨c, hc1, hc2, _⟩ := hc i' hi'
      have ecc : (pd_co (b_length, b_op, b_arg, b_ins, b_inCoin, b_inA, b_inB, b_outs, b_amount, b_lock, b_parent, b_height, b_rewardLock, b_many, b_holds, gfe, grw) (3 * t + i')).toNatClampNeg = c := pd_cl hc2 (by omega)
      have ecc' : (b_inCoin (3 * t + i')).toNatClampNeg = c := ecc
      rw [ecc'] at h120 ⊢
      rw [ecc, pd_from_f (fun q => by have := (hP c hc1 q).1; omega)] at g0
      rw [wr c hc1 g0]
      exact if_neg (by omega)
    | succ d ih =>
      intro i fuel st hi hf hj
      obtain ⟨fuel, rfl⟩ : ∃ q, fuel = q + 1 := ⟨fuel - 1, by omega⟩
      obtain ⟨c, hc1, hc2, hc3⟩ := hc i (by omega)
      have hqc := pd_coin_mono (Nat.le_of_lt ht) hc3
      have ecc : (pd_co (b_length, b_op, b_arg, b_ins, b_inCoin, b_inA, b_inB, b_outs, b_amount, b_lock, b_parent, b_height, b_rewardLock, b_many, b_holds, gfe, grw) (3 * t + i)).toNatClampNeg = c := pd_cl hc2 (by omega)
      have ecx : (nI c).toNatClampNeg = c := pk_cl c
      obtain ⟨s8, so, sr⟩ := pd_sc_eq w hqc
      have fail : (∀ g, g = pd_from (b_from, b_spent, b_within) (nI (n + 1)) c (∃ k, k < np ∧ b_pool k = nI (c / 3)) → ¬ (0 ≤ g ∧ b_spent c = 0 ∧ (120 ≤ c → 2 ≤ nI (n + 1) - g) ∧ pd_fit (b_length, b_op, b_arg, b_ins, b_inCoin, b_inA, b_inB, b_outs, b_amount, b_lock, b_parent, b_height, b_rewardLock, b_many, b_holds, gfe, grw) c (b_inA (3 * t + i)) (b_inB (3 * t + i)) (nI (n + 1)) g)) → ∀ st', post 1 (g_made, g_blocks, g_arrivals, g_tip, g_pooled, g_chainLength, b_op, b_arg, b_length, b_ins, b_inCoin, b_inA, b_inB, b_outs, b_amount, b_lock, b_parent, b_work, b_rewardLock, b_height, b_many, b_holds, b_delivered, b_arrived, b_pool, b_chain, b_from, b_worth, b_within, b_spent, st', b_again, b_chosen) := by
        intro hno st'
        refine H1 (fun q => ?_) st'
        have := q.1 i (by omega)
        unfold pd_okG at this
        rw [ecc] at this
        exact hno _ rfl this
      have m135 : ∀ g, g = pd_from (b_from, b_spent, b_within) (nI (n + 1)) c (∃ k, k < np ∧ b_pool k = nI (c / 3)) → 0 ≤ g → b_spent c = 0 → (120 ≤ c → 2 ≤ nI (n + 1) - g) → wY_isLate_135 post (wY_isLate_16 post (nI t) (nI (n + 1)) fuel) (nI t) (nI (n + 1)) (nI (3 * t + i)) g (nI (n + 1)) (b_inB (3 * t + i)) (b_inA (3 * t + i)) (nI c) g_made g_blocks g_arrivals g_tip g_pooled g_chainLength b_op b_arg b_length b_ins b_inCoin b_inA b_inB b_outs b_amount b_lock b_parent b_work b_rewardLock b_height b_many b_holds b_delivered b_arrived b_pool b_chain b_from b_worth b_within b_spent st b_again b_chosen := by
        intro g eg g0 g1 g2
        refine ym_fits hc1 s8 so sr tk (fun hf' st' => br_f (by decide) (nm_r (nI_1 (3 * t + i)) (ih (i + 1) fuel st' (by omega) (by omega) fun j hj' => ?_))) (fun hf' st' => br_t rfl (fail (fun g' eg' q => ?_) st'))
        · by_cases e : j = i
          · subst e
            unfold pd_okG
            rw [ecc, ← eg]
            exact ⟨g0, g1, g2, hf'⟩
          · exact hj j (by omega)
        · rw [← eg] at eg'
          subst eg'
          exact hf' q.2.2.2
      refine ⟨pk_in t 41 (by omega), pk_le (3 * t + nn) (3 * t + i) (fun z => by omega) (fun z => ⟨pk_in (3 * t + i) 123 (by omega), nm_r ((congrArg b_inCoin (pk_cl (3 * t + i))).trans hc2) (yq_poolCoin hnp ep hc1 (fun hin => ⟨pk_in c 152 hc1, ?_⟩) (fun hin => ⟨pk_in c 152 hc1, ?_⟩))⟩) e3⟩
      · have h103 : wY_isLate_103 post (wY_isLate_16 post (nI t) (nI (n + 1)) fuel) (nI t) (nI (n + 1)) (nI (3 * t + i)) (nI c) 1 g_made g_blocks g_arrivals g_tip g_pooled g_chainLength b_op b_arg b_length b_ins b_inCoin b_inA b_inB b_outs b_amount b_lock b_parent b_work b_rewardLock b_height b_many b_holds b_delivered b_arrived b_pool b_chain b_from b_worth b_within b_spent st b_again b_chosen := by
          refine ⟨pk_in (3 * t + i) 123 (by omega), pk_in (3 * t + i) 123 (by omega), br_f (by decide) ?_⟩
          rw [pk_cl (x := nI (3 * t + i)) (3 * t + i)]
          exact m135 _ (pd_from_t hin.2).symm (nI_pos' (by omega)) (hP c hc1 hin.2).2 (fun z => by omega)
        have h91 : ∀ z, wY_isLate_91 post (wY_isLate_16 post (nI t) (nI (n + 1)) fuel) (nI t) (nI (n + 1)) (nI (3 * t + i)) (nI c) 1 z g_made g_blocks g_arrivals g_tip g_pooled g_chainLength b_op b_arg b_length b_ins b_inCoin b_inA b_inB b_outs b_amount b_lock b_parent b_work b_rewardLock b_height b_many b_holds b_delivered b_arrived b_pool b_chain b_from b_worth b_within b_spent st b_again b_chosen := fun z => br_f (by decide) h103
        exact br_c (fun _ => h91 0) (fun _ => ⟨pk_in c 152 hc1, br_c (fun _ => br_c (fun _ => h91 1) (fun _ => ⟨pk_in c 152 hc1, br_c (fun _ => h91 0) (fun _ => h91 1)⟩)) (fun _ => h91 0)⟩)
      · rw [ecx]
        have hin' : ¬ ∃ k, k < np ∧ b_pool k = nI (c / 3) := fun q => hin ⟨(hP c hc1 q).1, q⟩
        have efr : b_from c = pd_from (b_from, b_spent, b_within) (nI (n + 1)) c (∃ k, k < np ∧ b_pool k = nI (c / 3)) := (pd_from_f (S := (b_from, b_spent, b_within)) hin').symm
        rw [← efr] at fail m135
        have h86 : 0 ≤ b_from c → b_spent c = 0 → (120 ≤ c → 2 ≤ nI (n + 1) - b_from c) → wY_isLate_86 post (wY_isLate_16 post (nI t) (nI (n + 1)) fuel) (nI t) (nI (n + 1)) (nI (3 * t + i)) (nI c) 0 g_made g_blocks g_arrivals g_tip g_pooled g_chainLength b_op b_arg b_length b_ins b_inCoin b_inA b_inB b_outs b_amount b_lock b_parent b_work b_rewardLock b_height b_many b_holds b_delivered b_arrived b_pool b_chain b_from b_worth b_within b_spent st b_again b_chosen := by
          intro g0 g1 g2
          refine br_t rfl (br_f (by decide) ⟨pk_in (3 * t + i) 123 (by omega), pk_in (3 * t + i) 123 (by omega), br_t rfl ⟨pk_in c 152 hc1, ?_⟩⟩)
          rw [pk_cl (x := nI (3 * t + i)) (3 * t + i), ecx]
          exact m135 _ rfl g0 g1 g2
        have h90 : (∀ g, g = b_from c → ¬ (0 ≤ g ∧ b_spent c = 0 ∧ (120 ≤ c → 2 ≤ nI (n + 1) - g) ∧ pd_fit (b_length, b_op, b_arg, b_ins, b_inCoin, b_inA, b_inB, b_outs, b_amount, b_lock, b_parent, b_height, b_rewardLock, b_many, b_holds, gfe, grw) c (b_inA (3 * t + i)) (b_inB (3 * t + i)) (nI (n + 1)) g)) → wY_isLate_90 post (wY_isLate_16 post (nI t) (nI (n + 1)) fuel) (nI t) (nI (n + 1)) (nI (3 * t + i)) (nI c) 0 g_made g_blocks g_arrivals g_tip g_pooled g_chainLength b_op b_arg b_length b_ins b_inCoin b_inA b_inB b_outs b_amount b_lock b_parent b_work b_rewardLock b_height b_many b_holds b_delivered b_arrived b_pool b_chain b_from b_worth b_within b_spent st b_again b_chosen := fun q => br_t rfl (br_t rfl (fail q st))
        refine br_c (fun z1 => h90 fun g eg q => ?_) (fun z1 => ⟨pk_in c 152 hc1, br_c (fun z2 => ?_) (fun z2 => h90 fun g eg q => z2 q.2.1)⟩)
        · rw [eg] at q
          exact absurd q.1 (Int32.not_le.mpr z1)
        · have z1' : 0 ≤ b_from c := Int32.not_lt.mp z1
          obtain ⟨g, hg, eg⟩ : ∃ g, g < 32 ∧ b_from c = nI g := by
            rcases rg c hc1 with e | e
            · rw [e] at z1'; exact (pd_m1 z1').elim
            · exact e
          refine pk_lt c 120 (fun z3 => h86 z1' z2 (fun q => by omega)) (fun z3 => ⟨pk_in c 152 hc1, br_c (fun z4 => h90 fun g' eg' q => ?_) (fun z4 => h86 z1' z2 (fun _ => ?_))⟩)
          · have := q.2.2.1 z3
            rw [eg', eg] at this
            rw [eg] at z4
            exact (pd_deep (by omega) (by omega)).mpr this z4
          · rw [eg] at z4 ⊢
            exact (pd_deep (by omega) (by omega)).mp z4
  subst et
  refine ⟨pk_in tp 33 htp, nm_r (e' := nI (n + 1)) (by rw [pk_cl tp, eh, nI_1]) (nm_r (yb_30 t) ⟨nn + 1, key nn 0 (nn + 1) _ (by omega) (by omega) (fun j hj => by omega)⟩)⟩
theorem ym_tk142 {np t : Nat} {s : Int32} {mk : Nat → Int32} (hnp : np ≤ 12) (h01 : ∀ k, k < np → mk k = 0 ∨ mk k = 1) (hs : ∀ k, k < 32 → (bt s k = true ↔ (k < np ∧ mk k = 1))) {post : Int32 → SY → Prop}
    (H5 : (pd_rm mk b_pool np).2 = 12 → post (-5) (g_made, g_blocks, g_arrivals, g_tip, nI (pd_rm mk b_pool np).2, g_chainLength, b_op, b_arg, b_length, b_ins, b_inCoin, b_inA, b_inB, b_outs, b_amount, b_lock, b_parent, b_work, b_rewardLock, b_height, b_many, b_holds, b_delivered, b_arrived, (pd_rm mk b_pool np).1, b_chain, b_from, b_worth, b_within, b_spent, b_stack, b_again, b_chosen))
    (H1 : (pd_rm mk b_pool np).2 < 12 → post (nI ((pd_rm mk b_pool np).2 + 1)) (g_made, g_blocks, g_arrivals, g_tip, nI ((pd_rm mk b_pool np).2 + 1), g_chainLength, b_op, b_arg, b_length, b_ins, b_inCoin, b_inA, b_inB, b_outs, b_amount, b_lock, b_parent, b_work, b_rewardLock, b_height, b_many, b_holds, b_delivered, b_arrived, upd (pd_rm mk b_pool np).1 (pd_rm mk b_pool np).2 (nI t), b_chain, b_from, b_worth, b_within, b_spent, b_stack, b_again, b_chosen)) :
    ∃ fuel, wY_take_142 post (nI t) s g_made g_blocks g_arrivals g_tip (nI np) g_chainLength fuel 0 0 b_op b_arg b_length b_ins b_inCoin b_inA b_inB b_outs b_amount b_lock b_parent b_work b_rewardLock b_height b_many b_holds b_delivered b_arrived b_pool b_chain b_from b_worth b_within b_spent b_stack b_again b_chosen := by
  have key : ∀ (d i fuel : Nat), i + d = np → d < fuel → wY_take_142 post (nI t) s g_made g_blocks g_arrivals g_tip (nI np) g_chainLength fuel (nI (pd_rm mk b_pool i).2) (nI i) b_op b_arg b_length b_ins b_inCoin b_inA b_inB b_outs b_amount b_lock b_parent b_work b_rewardLock b_height b_many b_holds b_delivered b_arrived ((pd_rm mk b_pool i).1) b_chain b_from b_worth b_within b_spent b_stack b_again b_chosen := by
    intro d
    induction d with
    | zero =>
      intro i fuel hi hf
      obtain ⟨fuel, rfl⟩ : ∃ q, fuel = q + 1 := ⟨fuel - 1, by omega⟩
      obtain rfl : i = np := by omega
      have hle := pd_rm_le mk b_pool i
      refine br_t (nI_le (Nat.le_refl _) (by omega)) (pk_eq (pd_rm mk b_pool i).2 12 (fun e => H5 e) (fun e => ⟨pk_in (pd_rm mk b_pool i).2 12 (by omega), nm_r (by rw [pk_cl (pd_rm mk b_pool i).2]) (nm_r (nI_1 _) (H1 (by omega)))⟩))
    | succ d ih =>
      intro i fuel hi hf
      obtain ⟨fuel, rfl⟩ : ∃ q, fuel = q + 1 := ⟨fuel - 1, by omega⟩
      have hle := pd_rm_le mk b_pool i
      have hnx := ih (i + 1) fuel (by omega) (by omega)
      rw [pd_rm] at hnx
      refine pk_le np i (fun z => by omega) (fun z => br_c (fun q => ?_) (fun q => ?_))
      · rw [yb_bit1 s (by omega), hs i (by omega)] at q
        rw [if_neg (by rw [q.2]; decide)] at hnx
        exact nm_r (nI_1 i) hnx
      · rw [yb_bit1 s (by omega), hs i (by omega)] at q
        have e0 : mk i = 0 := by
          rcases h01 i (by omega) with e | e
          · exact e
          · exact (q ⟨by omega, e⟩).elim
        rw [if_pos e0] at hnx
        exact ⟨pk_in i 12 (by omega), pk_in (pd_rm mk b_pool i).2 12 (by omega), nm_r (by rw [pk_cl (pd_rm mk b_pool i).2, pk_cl i]) (nm_r (nI_1 _) (nm_r (nI_1 i) hnx))⟩
  exact ⟨np + 1, key np 0 (np + 1) (by omega) (by omega)⟩
theorem ym_tk54 {made blocks np t : Nat} {s rep : Int32} {mk : Nat → Int32} (w : pd_wf (b_length, b_op, b_arg, b_ins, b_inCoin, b_inA, b_inB, b_outs, b_amount, b_lock, b_parent, b_height, b_rewardLock, b_many, b_holds, gfe, grw) made blocks) (fq : pd_feq (b_length, b_op, b_arg, b_ins, b_inCoin, b_inA, b_inB, b_outs, b_amount, b_lock, b_parent, b_height, b_rewardLock, b_many, b_holds, gfe, grw) made) (ht : t < made) (hnp : np ≤ 12) (hp : pd_pl b_pool np made) (h01 : ∀ k, k < np → mk k = 0 ∨ mk k = 1) (hs : ∀ k, k < 32 → (bt s k = true ↔ (k < np ∧ mk k = 1)))
    (hwt : ∀ i, i < (pd_ic (b_length, b_op, b_arg, b_ins, b_inCoin, b_inA, b_inB, b_outs, b_amount, b_lock, b_parent, b_height, b_rewardLock, b_many, b_holds, gfe, grw) t).toNatClampNeg → 120 ≤ (b_inCoin (3 * t + i)).toNatClampNeg → b_worth (b_inCoin (3 * t + i)).toNatClampNeg = grw ((b_inCoin (3 * t + i)).toNatClampNeg - 120))
    (hw : ∀ k, k < np → ∀ i, i < (pd_ic (b_length, b_op, b_arg, b_ins, b_inCoin, b_inA, b_inB, b_outs, b_amount, b_lock, b_parent, b_height, b_rewardLock, b_many, b_holds, gfe, grw) (b_pool k).toNatClampNeg).toNatClampNeg → 120 ≤ (b_inCoin (3 * (b_pool k).toNatClampNeg + i)).toNatClampNeg → b_worth (b_inCoin (3 * (b_pool k).toNatClampNeg + i)).toNatClampNeg = grw ((b_inCoin (3 * (b_pool k).toNatClampNeg + i)).toNatClampNeg - 120)) {post : Int32 → SY → Prop}
    (H3 : (∃ k, k < np ∧ mk k = 1 ∧ pd_needs (b_length, b_op, b_arg, b_ins, b_inCoin, b_inA, b_inB, b_outs, b_amount, b_lock, b_parent, b_height, b_rewardLock, b_many, b_holds, gfe, grw) t (b_pool k).toNatClampNeg) → post (-3) (g_made, g_blocks, g_arrivals, g_tip, nI np, g_chainLength, b_op, b_arg, b_length, b_ins, b_inCoin, b_inA, b_inB, b_outs, b_amount, b_lock, b_parent, b_work, b_rewardLock, b_height, b_many, b_holds, b_delivered, b_arrived, b_pool, b_chain, b_from, b_worth, b_within, b_spent, b_stack, b_again, b_chosen))
    (H4 : (¬ ∃ k, k < np ∧ mk k = 1 ∧ pd_needs (b_length, b_op, b_arg, b_ins, b_inCoin, b_inA, b_inB, b_outs, b_amount, b_lock, b_parent, b_height, b_rewardLock, b_many, b_holds, gfe, grw) t (b_pool k).toNatClampNeg) → (∃ k, k < np ∧ mk k = 1) → (rep = 0 ∨ gfe t ≤ pd_mf mk gfe b_pool np) → post (-4) (g_made, g_blocks, g_arrivals, g_tip, nI np, g_chainLength, b_op, b_arg, b_length, b_ins, b_inCoin, b_inA, b_inB, b_outs, b_amount, b_lock, b_parent, b_work, b_rewardLock, b_height, b_many, b_holds, b_delivered, b_arrived, b_pool, b_chain, b_from, b_worth, b_within, b_spent, b_stack, b_again, b_chosen))
    (HG : (¬ ∃ k, k < np ∧ mk k = 1 ∧ pd_needs (b_length, b_op, b_arg, b_ins, b_inCoin, b_inA, b_inB, b_outs, b_amount, b_lock, b_parent, b_height, b_rewardLock, b_many, b_holds, gfe, grw) t (b_pool k).toNatClampNeg) → ((∀ k, k < np → mk k = 0) ∨ (¬ rep = 0 ∧ pd_mf mk gfe b_pool np < gfe t)) → ∃ fuel, wY_take_142 post (nI t) s g_made g_blocks g_arrivals g_tip (nI np) g_chainLength fuel 0 0 b_op b_arg b_length b_ins b_inCoin b_inA b_inB b_outs b_amount b_lock b_parent b_work b_rewardLock b_height b_many b_holds b_delivered b_arrived b_pool b_chain b_from b_worth b_within b_spent b_stack b_again b_chosen) :
    ∃ fuel, wY_take_54 post (nI t) rep s g_made g_blocks g_arrivals g_tip (nI np) g_chainLength b_op b_arg b_length b_ins b_inCoin b_inA b_inB b_outs b_amount b_lock b_parent b_work b_rewardLock b_height b_many b_holds b_delivered b_arrived b_pool b_chain b_from b_worth b_within b_spent b_stack b_again b_chosen fuel 0 0 := by
  have hm := w.2.2.1
  have key : ∀ (d i fuel : Nat), i + d = np → d < fuel → (¬ ∃ k, k < i ∧ mk k = 1 ∧ pd_needs (b_length, b_op, b_arg, b_ins, b_inCoin, b_inA, b_inB, b_outs, b_amount, b_lock, b_parent, b_height, b_rewardLock, b_many, b_holds, gfe, grw) t (b_pool k).toNatClampNeg) → wY_take_54 post (nI t) rep s g_made g_blocks g_arrivals g_tip (nI np) g_chainLength b_op b_arg b_length b_ins b_inCoin b_inA b_inB b_outs b_amount b_lock b_parent b_work b_rewardLock b_height b_many b_holds b_delivered b_arrived b_pool b_chain b_from b_worth b_within b_spent b_stack b_again b_chosen fuel (pd_mf mk gfe b_pool i) (nI i) := by
    intro d
    induction d with
    | zero =>
      intro i fuel hi hf hno
      obtain ⟨fuel, rfl⟩ : ∃ q, fuel = q + 1 := ⟨fuel - 1, by omega⟩
      obtain rfl : i = np := by omega
      refine br_t (nI_le (Nat.le_refl _) (by omega)) (br_c (fun z => HG hno (Or.inl fun k hk => ?_)) (fun z => ?_))
      · rcases h01 k hk with e | e
        · exact e
        · have := (hs k (by omega)).mpr ⟨hk, e⟩
          rw [z, b_0] at this
          exact absurd this (by decide)
      · have hex : ∃ k, k < i ∧ mk k = 1 := by
          rcases Classical.em (∃ k, k < i ∧ mk k = 1) with h | h
          · exact h
          · refine (z (b_ext fun q hq => ?_)).elim
            rw [b_0]
            cases e : bt s q
            · rfl
            · exact (h ⟨q, (hs q hq).mp e⟩).elim
        refine br_c (fun z1 => H4 hno hex (Or.inl z1)) (fun z1 => yq_fee w fq ht hwt (br_c (fun z2 => HG hno (Or.inr ⟨z1, z2⟩)) (fun z2 => H4 hno hex (Or.inr (Int32.not_lt.mp z2)))))
    | succ d ih =>
      intro i fuel hi hf hno
      obtain ⟨fuel, rfl⟩ : ∃ q, fuel = q + 1 := ⟨fuel - 1, by omega⟩
      obtain ⟨u, hu, eu⟩ := hp i (by omega)
      have euc := pd_cl eu (by omega)
      have hno' : ¬ (mk i = 1 ∧ pd_needs (b_length, b_op, b_arg, b_ins, b_inCoin, b_inA, b_inB, b_outs, b_amount, b_lock, b_parent, b_height, b_rewardLock, b_many, b_holds, gfe, grw) t u) → ¬ ∃ k, k < i + 1 ∧ mk k = 1 ∧ pd_needs (b_length, b_op, b_arg, b_ins, b_inCoin, b_inA, b_inB, b_outs, b_amount, b_lock, b_parent, b_height, b_rewardLock, b_many, b_holds, gfe, grw) t (b_pool k).toNatClampNeg := by
        intro q ⟨k, k1, k2, k3⟩
        by_cases e : k = i
        · subst e; rw [euc] at k3; exact q ⟨k2, k3⟩
        · exact hno ⟨k, by omega, k2, k3⟩
      have hnx := fun q => ih (i + 1) fuel (by omega) (by omega) (hno' q)
      rw [pd_mf] at hnx
      have hwi := hw i (by omega)
      rw [euc] at hwi
      refine pk_le np i (fun z => by omega) (fun z => br_c (fun q => ?_) (fun q => ⟨pk_in i 12 (by omega), ?_⟩))
      · rw [yb_bit0 s (by omega), hs i (by omega)] at q
        have e0 : mk i = 0 := by
          rcases h01 i (by omega) with e | e
          · exact e
          · exact (q ⟨by omega, e⟩).elim
        rw [if_pos e0] at hnx
        exact nm_r (nI_1 i) (hnx fun q' => by rw [e0] at q'; exact absurd q'.1 (by decide))
      · rw [yb_bit0 s (by omega), hs i (by omega)] at q
        have e1 : mk i = 1 := by
          rcases h01 i (by omega) with e | e
          · exact (q (fun q' => by rw [e] at q'; exact absurd q'.2 (by decide))).elim
          · exact e
        rw [if_neg (by rw [e1]; decide), euc] at hnx
        rw [pk_cl i, eu]
        exact yq_needs w ht (by omega) (fun z4 => br_f (by decide) (H3 ⟨i, by omega, e1, by rw [euc]; exact z4⟩)) (fun z4 => br_t rfl ⟨pk_in i 12 (by omega), yq_fee w fq hu hwi (nm_e (nm_r (nI_1 i) (hnx fun q' => z4 q'.2)))⟩)
  exact ⟨np + 1, key np 0 (np + 1) (by omega) (by omega) (fun ⟨k, hk, _⟩ => by omega)⟩
end

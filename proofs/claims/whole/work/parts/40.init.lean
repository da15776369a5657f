/-! the start -/
abbrev i0_z : Nat → Int32 := fun _ => 0
def i0_av : Nat → Int32 := pd_setH i0_z 1 31 (-1)
theorem i0_cnt : 1 = pd_cnt i0_av 32 := by decide
theorem i0_av0 : i0_av 0 = 0 := by decide
theorem i0_avn {b : Nat} (h1 : 1 ≤ b) (h2 : b < 32) : i0_av b = -1 := pd_setH_in (by omega)
theorem i0_c0 {x : Int32} (h : x = 0) : x.toNatClampNeg = 0 := by rw [h]; decide
theorem i0_wf : pd_wf (i0_z, i0_z, i0_z, i0_z, i0_z, i0_z, i0_z, i0_z, i0_z, i0_z, upd i0_z 0 0, upd i0_z 0 0, upd i0_z 0 0, i0_z, i0_z, i0_z, upd i0_z 0 ((64 : Int32) >>> (((0 : Int32) / 4) &&& 31))) 0 1 := by
  refine ⟨by omega, by omega, by omega, rfl, fun t ht => by omega, fun b hb => ?_⟩
  obtain rfl : b = 0 := by omega
  exact ⟨⟨0, by omega, rfl⟩, ⟨0, by omega, rfl⟩, ⟨0, by omega, rfl, fun i hi => by omega⟩, fun h => by omega⟩
theorem i0_ag {gf gr : Nat → Int32} : pd_ag (i0_z, i0_z, i0_z, i0_z, i0_z, i0_z, i0_z, i0_z, i0_z, i0_z, upd i0_z 0 0, upd i0_z 0 0, upd i0_z 0 0, i0_z, i0_z, gf, gr) (i0_z, i0_z, i0_z, i0_z, i0_z, i0_z, i0_z, i0_z, i0_z, i0_z, upd i0_z 0 (-1), i0_z, i0_z, i0_z, i0_z, gf, gr) 0 1 := by
  refine ⟨fun t ht => by omega, fun b hb => ?_, fun s _ => ⟨rfl, fun _ _ => ⟨rfl, rfl⟩⟩⟩
  obtain rfl : b = 0 := by omega
  refine ⟨rfl, rfl, rfl, rfl, fun h => by omega, fun i hi => rfl⟩
theorem i0_stat : cn_stat (i0_z, i0_z, i0_z, i0_z, i0_z, i0_z, i0_z, i0_z, i0_z, i0_z, upd i0_z 0 0, upd i0_z 0 0, upd i0_z 0 0, i0_z, i0_z, i0_z, upd i0_z 0 ((64 : Int32) >>> (((0 : Int32) / 4) &&& 31))) (i0_z, i0_z, i0_z, i0_z, i0_z, i0_z, i0_z, i0_z, i0_z, i0_z, upd i0_z 0 (-1), i0_z, i0_z, i0_z, i0_z, i0_z, upd i0_z 0 ((64 : Int32) >>> (((0 : Int32) / 4) &&& 31))) (upd i0_z 0 1) i0_z 0 1 0 := by
  refine ⟨fun s hs => ⟨0, by omega, rfl, fun i hi => by omega⟩, i0_wf, i0_ag, fun t ht => by omega, fun b hb => ?_, (pk_us : upd i0_z 0 (-1) 0 = -1), fun s hs => ?_, ⟨0, 0, by omega, by omega, rfl, rfl, rfl, rfl, fun i hi => by omega, fun i j hi => by omega, fun o ho => by omega, fun t h1 h2 => ⟨rfl, rfl⟩⟩, ⟨by omega, rfl, fun i hi => by omega⟩, fun b h1 h2 => rfl⟩
  · obtain rfl : b = 0 := by omega
    rw [i0_c0 (rfl : pd_bs (i0_z, i0_z, i0_z, i0_z, i0_z, i0_z, i0_z, i0_z, i0_z, i0_z, upd i0_z 0 0, upd i0_z 0 0, upd i0_z 0 0, i0_z, i0_z, i0_z, upd i0_z 0 ((64 : Int32) >>> (((0 : Int32) / 4) &&& 31))) 0 = 0), pd_srw]
    show upd i0_z 0 ((64 : Int32) >>> (((0 : Int32) / 4) &&& 31)) 0 = (64 : Int32) >>> ((upd i0_z 0 0 0 / 4) &&& 31)
    rw [pk_us, pk_us]
  · by_cases e : s = 0
    · subst e
      exact Or.inr ⟨pk_us, Or.inl ⟨0, by omega, rfl⟩⟩
    · refine Or.inl ⟨pk_un e, ?_⟩
      rintro (⟨b, b1, b2⟩ | ⟨t, o, h, _⟩)
      · obtain rfl : b = 0 := by omega
        have b2' : (0 : Int32) = nI s := b2
        exact e ((nI_eq (a := 0) (by omega) (by omega)).mp b2').symm
      · omega
theorem i0_blk : cn_blk (i0_z, i0_z, i0_z, i0_z, i0_z, i0_z, i0_z, i0_z, i0_z, i0_z, upd i0_z 0 0, upd i0_z 0 0, upd i0_z 0 0, i0_z, i0_z, i0_z, upd i0_z 0 ((64 : Int32) >>> (((0 : Int32) / 4) &&& 31))) (upd i0_z 0 3) (upd i0_z 0 1) i0_av (upd i0_z 0 1) (upd i0_z 0 1) 1 1 0 99 := by
  have va : pd_va (i0_z, i0_z, i0_z, i0_z, i0_z, i0_z, i0_z, i0_z, i0_z, i0_z, upd i0_z 0 0, upd i0_z 0 0, upd i0_z 0 0, i0_z, i0_z, i0_z, upd i0_z 0 ((64 : Int32) >>> (((0 : Int32) / 4) &&& 31))) 0 := by
    unfold pd_va
    rw [i0_c0 (rfl : pd_he (i0_z, i0_z, i0_z, i0_z, i0_z, i0_z, i0_z, i0_z, i0_z, i0_z, upd i0_z 0 0, upd i0_z 0 0, upd i0_z 0 0, i0_z, i0_z, i0_z, upd i0_z 0 ((64 : Int32) >>> (((0 : Int32) / 4) &&& 31))) 0 = 0)]
    exact trivial
  have a0 : (0 : Int32) ≤ i0_av 0 := by rw [i0_av0]; decide
  refine ⟨fun b hb _ => ?_, fun b c hb hc _ _ => by omega, i0_cnt, fun b h1 h2 => ⟨pk_un (by omega), i0_avn h1 h2, pk_un (by omega)⟩, ⟨rfl, fun b hb => ?_, fun b h0 hb => by omega⟩, ⟨by omega, by omega, a0, va⟩, fun b hb hne => by omega, a0⟩
  · obtain rfl : b = 0 := by omega
    exact Or.inr (Or.inr ⟨pk_us, ⟨0, by omega, i0_av0⟩, fun h => by omega, Or.inl ⟨pk_us, va⟩⟩)
  · obtain rfl : b = 0 := by omega
    exact ⟨1, by omega, pk_us⟩
section
variable {g_made g_blocks g_arrivals g_tip g_pooled g_chainLength : Int32} {b_op b_arg b_length b_ins b_inCoin b_inA b_inB b_outs b_amount b_lock b_parent b_work b_rewardLock b_height b_many b_holds b_delivered b_arrived b_pool b_chain b_from b_worth b_within b_spent b_stack b_again b_chosen gfe grw : Nat → Int32}
theorem ym_init257 {post : SY → Prop} (H : post (g_made, g_blocks, g_arrivals, g_tip, g_pooled, g_chainLength, b_op, b_arg, b_length, b_ins, b_inCoin, b_inA, b_inB, b_outs, b_amount, b_lock, b_parent, b_work, b_rewardLock, b_height, b_many, b_holds, b_delivered, i0_av, b_pool, b_chain, b_from, b_worth, b_within, b_spent, b_stack, b_again, b_chosen)) : ∃ fuel, wY_init_257 post g_made g_blocks g_arrivals g_tip g_pooled g_chainLength fuel 1 b_op b_arg b_length b_ins b_inCoin b_inA b_inB b_outs b_amount b_lock b_parent b_work b_rewardLock b_height b_many b_holds b_delivered i0_z b_pool b_chain b_from b_worth b_within b_spent b_stack b_again b_chosen := by
  have key : ∀ (d i fuel : Nat), i + d = 31 → d < fuel → wY_init_257 post g_made g_blocks g_arrivals g_tip g_pooled g_chainLength fuel (nI (1 + i)) b_op b_arg b_length b_ins b_inCoin b_inA b_inB b_outs b_amount b_lock b_parent b_work b_rewardLock b_height b_many b_holds b_delivered (pd_setH i0_z 1 i (-1)) b_pool b_chain b_from b_worth b_within b_spent b_stack b_again b_chosen := by
    intro d
    induction d with
    | zero =>
      intro i fuel hd hf
      obtain ⟨fuel, rfl⟩ : ∃ q, fuel = q + 1 := ⟨fuel - 1, by omega⟩
      obtain rfl : i = 31 := by omega
      exact br_t (by decide) H
    | succ d ih =>
      intro i fuel hd hf
      obtain ⟨fuel, rfl⟩ : ∃ q, fuel = q + 1 := ⟨fuel - 1, by omega⟩
      exact pk_le 32 (1 + i) (fun z => by omega) (fun z => ⟨pk_in (1 + i) 32 (by omega), nm_r (by rw [pk_cl (x := nI (1 + i)) (1 + i), ← pd_setH_s]) (nm_r (nI_1 (1 + i)) (ih (i + 1) fuel (by omega) (by omega)))⟩)
  have := key 31 0 32 (by omega) (by omega)
  rw [pd_setH_0] at this
  exact ⟨32, this⟩
end
theorem i_vc0 : wpX_init (fun u => wpY_init (fun v => i_Rel 0 u v)) := by
  unfold wpX_init
  refine xm_addBlock (x := 0) (p := 0) (s := 0) (by omega) (by omega) ?_
  refine nm_e ?_
  refine xm_layChain (b := 0) (n := 0) (S := (i0_z, i0_z, i0_z)) i0_wf (by omega) rfl (by omega) ⟨fun _ _ => rfl, fun _ _ => rfl, fun _ _ => rfl⟩ (fun laid hl => ?_)
  unfold wpY_init
  refine nm_e (nm_e (nm_r (by rw [xb_1]) ?_))
  refine ym_init257 ?_
  exact ⟨0, 1, 0, 0, 0, 0, 1, ⟨rfl, rfl, rfl, rfl, rfl⟩, ⟨rfl, rfl, rfl, rfl, rfl⟩, ⟨rfl, rfl, rfl, rfl⟩, ⟨rfl, rfl, rfl⟩, i0_stat, i0_blk, fun b h0 hb => by omega, ⟨rfl, by omega⟩, hl, ⟨by omega, fun k hk => by omega⟩, ⟨fun _ _ => rfl, fun _ _ => rfl, fun _ _ => rfl⟩⟩

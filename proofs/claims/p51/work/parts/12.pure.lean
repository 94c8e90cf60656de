/-! the mini-machine's instructions on the stack and the locals, and the machine's -/
section QP
variable {p : Program} {l : Launch} {e : Env} {R : Room} {s : State} {m : MethodId} {args : Array Value} {below : List Frame} {meth : Method} {c : Code} {H : Heap} {locs : List Loc} {cells slots : Nat} {Q : State → Prop}
set_option maxHeartbeats 4000000 in
theorem q_p1_ok {cc : ByteArray} (hx : p.tables.exec = Jvm.exec) (hb : c.code = cc) {i : Instr} {a b pc nL : Nat} {lv lv' : q_L} {st st' : List Value} {pc' : Nat} (h : q_p1 i a pc nL lv st = some (pc', lv', st')) (hdg : decode cc pc = .ok (i, q_len i b)) (hbr : q_br i a pc = true) {ad : Nat → Nat} {ls : Array Slot} (hl : lv_has ls nL (q_tl ad lv))
    (k : ∀ ls' : Array Slot, lv_has ls' nL (q_tl ad lv') → W p l e R s m args below meth c H locs cells slots Q (F0 m pc' ls' (q_ts ad st'))) : W p l e R s m args below meth c H locs cells slots Q (F0 m pc ls (q_ts ad st)) := by
  unfold q_p1 at h
  split at h
  · cases h; exact lv_iconst hx hb hdg rfl (k ls hl)
  · cases h; exact lv_bipush hx hb hdg rfl (k ls hl)
  · cases h; exact lv_sipush hx hb hdg rfl (k ls hl)
  · cases h; exact lv_lconst hx hb hdg rfl (k ls hl)
  · split at h
    · rename_i h0; subst h0; cases h; exact lv_fconst0 hx hb hdg (k ls hl)
    · cases h
  · split at h
    · rename_i h0; subst h0; cases h; exact lv_dconst0 hx hb hdg (k ls hl)
    · cases h
  · cases h; exact lv_null hx hb hdg (k ls hl)
  · split at h
    · rename_i hq; cases h; exact lv_iload hx hb hdg (q_ld_at hl hq) (k ls hl)
    · cases h
  · split at h
    · rename_i hq; cases h; exact lv_iload_n hx hb hdg rfl (q_ld_at hl hq) (k ls hl)
    · cases h
  · split at h
    · rename_i hq; cases h; exact lv_lload hx hb hdg (q_ld_at hl hq) (k ls hl)
    · cases h
  · split at h
    · rename_i hq; cases h; exact lv_lload_n hx hb hdg rfl (q_ld_at hl hq) (k ls hl)
    · cases h
  · split at h
    · rename_i hq; cases h; exact lv_fload hx hb hdg (q_ld_at hl hq) (k ls hl)
    · cases h
  · split at h
    · rename_i hq; cases h; exact lv_dload hx hb hdg (q_ld_at hl hq) (k ls hl)
    · cases h
  · split at h
    · rename_i hq; cases h; exact lv_aload hx hb hdg (q_ld_at hl hq) (k ls hl)
    · cases h
  · split at h
    · rename_i hq; cases h; exact lv_aload_n hx hb hdg rfl (q_ld_at hl hq) (k ls hl)
    · cases h
  · split at h
    · split at h
      · rename_i hk; cases h; exact lv_istore hx hb hdg hl hk (q_tl_s1 ad lv _ (.int _)) k
      · cases h
    · cases h
  · split at h
    · split at h
      · rename_i hk; cases h; exact lv_istore_n hx hb hdg rfl hl hk (q_tl_s1 ad lv _ (.int _)) k
      · cases h
    · cases h
  · split at h
    · split at h
      · rename_i hk; cases h; exact lv_lstore hx hb hdg hl hk (q_tl_s2 ad lv _ (.long _)) k
      · cases h
    · cases h
  · split at h
    · split at h
      · rename_i hk; cases h; exact lv_lstore_n hx hb hdg rfl hl hk (q_tl_s2 ad lv _ (.long _)) k
      · cases h
    · cases h
  · split at h
    · split at h
      · rename_i hk; cases h; exact lv_fstore hx hb hdg hl hk (q_tl_s1 ad lv _ (.float _)) k
      · cases h
    · cases h
  · split at h
    · split at h
      · rename_i hk; cases h; exact lv_dstore hx hb hdg hl hk (q_tl_s2 ad lv _ (.double _)) k
      · cases h
    · cases h
  · split at h
    · split at h
      · rename_i hk; cases h; exact lv_astore hx hb hdg hl hk (q_tl_s1 ad lv _ (.ref _)) k
      · cases h
    · cases h
  · split at h
    · split at h
      · rename_i hk; cases h; exact lv_astore_n hx hb hdg rfl hl hk (q_tl_s1 ad lv _ (.ref _)) k
      · cases h
    · cases h
  · split at h
    · rename_i hq
      split at h
      · rename_i hk
        cases h
        obtain ⟨k0, hk0⟩ := q_ld_k (ad := ad) hq
        exact lv_iinc hx hb hdg hl hk0 rfl hk (q_tl_s1 ad lv _ (.int _)) k
      · cases h
    · cases h
  · split at h
    · cases h; exact lv_iadd hx hb hdg (k ls hl)
    · cases h
  · split at h
    · cases h; exact lv_isub hx hb hdg (k ls hl)
    · cases h
  · split at h
    · cases h; exact lv_imul hx hb hdg (k ls hl)
    · cases h
  · split at h
    · split at h
      · cases h
      · rename_i hne; cases h; exact lv_idiv hx hb hdg hne (k ls hl)
    · cases h
  · split at h
    · split at h
      · cases h
      · rename_i hne; cases h; exact lv_irem hx hb hdg hne (k ls hl)
    · cases h
  · split at h
    · cases h; exact lv_ineg hx hb hdg (k ls hl)
    · cases h
  · split at h
    · cases h; exact lv_iand hx hb hdg (k ls hl)
    · cases h
  · split at h
    · cases h; exact lv_ior hx hb hdg (k ls hl)
    · cases h
  · split at h
    · cases h; exact lv_ixor hx hb hdg (k ls hl)
    · cases h
  · split at h
    · cases h; exact lv_ishl hx hb hdg (k ls hl)
    · cases h
  · split at h
    · cases h; exact lv_ishr hx hb hdg (k ls hl)
    · cases h
  · split at h
    · cases h; exact lv_ladd hx hb hdg (k ls hl)
    · cases h
  · split at h
    · cases h; exact lv_lsub hx hb hdg (k ls hl)
    · cases h
  · split at h
    · cases h; exact lv_lmul hx hb hdg (k ls hl)
    · cases h
  · split at h
    · cases h; exact lv_land hx hb hdg (k ls hl)
    · cases h
  · split at h
    · cases h; exact lv_lor hx hb hdg (k ls hl)
    · cases h
  · split at h
    · cases h; exact lv_lxor hx hb hdg (k ls hl)
    · cases h
  · split at h
    · cases h; exact lv_lshl hx hb hdg rfl (k ls hl)
    · cases h
  · split at h
    · cases h; exact lv_lshr hx hb hdg rfl (k ls hl)
    · cases h
  · split at h
    · cases h; exact lv_lushr hx hb hdg rfl (k ls hl)
    · cases h
  · split at h
    · cases h; exact lv_i2l hx hb hdg rfl (k ls hl)
    · cases h
  · split at h
    · cases h; exact lv_l2i hx hb hdg rfl (k ls hl)
    · cases h
  · split at h
    · cases h; exact lv_i2b hx hb hdg rfl (k ls hl)
    · cases h
  · split at h
    · cases h; exact lv_i2f hx hb hdg (k ls hl)
    · cases h
  · split at h
    · cases h; exact lv_i2d hx hb hdg (k ls hl)
    · cases h
  · split at h
    · split at h
      · rename_i hne; cases h; exact lv_f2d hx hb hdg hne (k ls hl)
      · cases h
    · cases h
  · split at h
    · split at h
      · rename_i hne; cases h; exact lv_fdiv hx hb hdg hne (k ls hl)
      · cases h
    · cases h
  · split at h
    · split at h
      · rename_i hne; cases h; exact lv_ddiv hx hb hdg hne (k ls hl)
      · cases h
    · cases h
  · split at h
    · cases h; exact W.lcmp hx hb hdg (k ls hl)
    · cases h
  · split at h
    · cases h; exact lv_fcmp hx hb hdg (k ls hl)
    · cases h
  · split at h
    · cases h; exact lv_dcmp hx hb hdg (k ls hl)
    · cases h
  · split at h
    · split at h
      · rename_i hv; cases h; exact lv_dup hx hb hdg ((q_tv_cat ad _).trans hv) (k ls hl)
      · cases h
    · cases h
  · split at h
    · split at h
      · rename_i hv; cases h; exact lv_dup2_11 hx hb hdg ((q_tv_cat ad _).trans hv.1) ((q_tv_cat ad _).trans hv.2) (k ls hl)
      · cases h
    · cases h
  · split at h
    · split at h
      · rename_i hv; cases h; exact lv_pop hx hb hdg ((q_tv_cat ad _).trans hv) (k ls hl)
      · cases h
    · cases h
  · cases h
    have ht : _ = _ := of_decide_eq_true hbr
    exact lv_goto hx hb hdg ht (k ls hl)
  · rename_i cd off
    have ht : (pc : Int) + off = (a : Int) := of_decide_eq_true hbr
    split at h
    · rename_i x r
      cases h
      cases cd
      · exact lv_if_eq hx hb hdg ht (fun z => by have q : q_c .eq x 0 = true := decide_eq_true z; rw [if_pos q] at k; exact k ls hl) (fun z => by have q : ¬ q_c .eq x 0 = true := fun w => z (of_decide_eq_true w); rw [if_neg q] at k; exact k ls hl)
      · exact lv_if_ne hx hb hdg ht (fun z => by have q : q_c .ne x 0 = true := decide_eq_true z; rw [if_pos q] at k; exact k ls hl) (fun z => by have q : ¬ q_c .ne x 0 = true := fun w => (of_decide_eq_true w : ¬ x = 0) z; rw [if_neg q] at k; exact k ls hl)
      · exact lv_if_lt hx hb hdg ht (fun z => by have q : q_c .lt x 0 = true := decide_eq_true z; rw [if_pos q] at k; exact k ls hl) (fun z => by have q : ¬ q_c .lt x 0 = true := fun w => z (of_decide_eq_true w); rw [if_neg q] at k; exact k ls hl)
      · exact lv_if_ge hx hb hdg ht (fun z => by have q : q_c .ge x 0 = true := decide_eq_true z; rw [if_pos q] at k; exact k ls hl) (fun z => by have q : ¬ q_c .ge x 0 = true := fun w => z (of_decide_eq_true w); rw [if_neg q] at k; exact k ls hl)
      · exact lv_if_gt hx hb hdg ht (fun z => by have q : q_c .gt x 0 = true := decide_eq_true z; rw [if_pos q] at k; exact k ls hl) (fun z => by have q : ¬ q_c .gt x 0 = true := fun w => z (of_decide_eq_true w); rw [if_neg q] at k; exact k ls hl)
      · exact lv_if_le hx hb hdg ht (fun z => by have q : q_c .le x 0 = true := decide_eq_true z; rw [if_pos q] at k; exact k ls hl) (fun z => by have q : ¬ q_c .le x 0 = true := fun w => z (of_decide_eq_true w); rw [if_neg q] at k; exact k ls hl)
    · cases h
  · rename_i cd off
    have ht : (pc : Int) + off = (a : Int) := of_decide_eq_true hbr
    split at h
    · rename_i y x r
      cases h
      cases cd
      · exact lv_icmp_eq hx hb hdg ht (fun z => by have q : q_c .eq x y = true := decide_eq_true z; rw [if_pos q] at k; exact k ls hl) (fun z => by have q : ¬ q_c .eq x y = true := fun w => z (of_decide_eq_true w); rw [if_neg q] at k; exact k ls hl)
      · exact lv_icmp_ne hx hb hdg ht (fun z => by have q : q_c .ne x y = true := decide_eq_true z; rw [if_pos q] at k; exact k ls hl) (fun z => by have q : ¬ q_c .ne x y = true := fun w => (of_decide_eq_true w : ¬ x = y) z; rw [if_neg q] at k; exact k ls hl)
      · exact lv_icmp_lt hx hb hdg ht (fun z => by have q : q_c .lt x y = true := decide_eq_true z; rw [if_pos q] at k; exact k ls hl) (fun z => by have q : ¬ q_c .lt x y = true := fun w => z (of_decide_eq_true w); rw [if_neg q] at k; exact k ls hl)
      · exact lv_icmp_ge hx hb hdg ht (fun z => by have q : q_c .ge x y = true := decide_eq_true z; rw [if_pos q] at k; exact k ls hl) (fun z => by have q : ¬ q_c .ge x y = true := fun w => z (of_decide_eq_true w); rw [if_neg q] at k; exact k ls hl)
      · exact lv_icmp_gt hx hb hdg ht (fun z => by have q : q_c .gt x y = true := decide_eq_true z; rw [if_pos q] at k; exact k ls hl) (fun z => by have q : ¬ q_c .gt x y = true := fun w => z (of_decide_eq_true w); rw [if_neg q] at k; exact k ls hl)
      · exact lv_icmp_le hx hb hdg ht (fun z => by have q : q_c .le x y = true := decide_eq_true z; rw [if_pos q] at k; exact k ls hl) (fun z => by have q : ¬ q_c .le x y = true := fun w => z (of_decide_eq_true w); rw [if_neg q] at k; exact k ls hl)
    · cases h
  · have ht : _ = _ := of_decide_eq_true hbr
    split at h
    · cases h; exact lv_ifnull hx hb hdg (k ls hl)
    · cases h; exact lv_ifnullN hx hb hdg ht (k ls hl)
    · cases h
  · have ht : _ = _ := of_decide_eq_true hbr
    split at h
    · cases h; exact lv_ifnonnull hx hb hdg ht (k ls hl)
    · cases h; exact lv_ifnonnullN hx hb hdg (k ls hl)
    · cases h
  · split at h
    · rename_i x r
      obtain ⟨t, ht, hz⟩ := Option.map_eq_some_iff.mp h
      cases hz
      unfold q_sw at ht
      split at ht
      · rename_i ho
        split at ht
        · rename_i hp; cases ht; exact lv_tableOut hx hb hdg ho (Int.toNat_of_nonneg hp).symm (k ls hl)
        · cases ht
      · rename_i ho
        split at ht
        · rename_i off hoff
          split at ht
          · rename_i hp; cases ht; exact lv_tableIn hx hb hdg (fun z => ho (Or.inl z)) (fun z => ho (Or.inr z)) hoff (Int.toNat_of_nonneg hp).symm (k ls hl)
          · cases ht
        · cases ht
    · cases h
  · cases h
end QP

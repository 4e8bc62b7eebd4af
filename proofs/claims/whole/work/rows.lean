section
-- ===== PART A: goes FIRST, ahead of the names: the tables' words, and 'selects' of the private methods out of them =====
/-- a private method of a class that the tables say can be made, by its rows of tables_1 -/
def lw_okq (q : MethodName × Nat) : Prop := (q.1.cls ≠ "java/lang/invoke/MethodHandle" ∧ q.1.cls ≠ "java/lang/invoke/VarHandle") ∧ Cond.instantiable q.1.cls q.2 ∈ tables_1 ∧ Cond.privateMethod q.1 ∈ tables_1 ∧ Cond.instanceMethod q.1 ∈ tables_1
theorem lw_p0 : lw_okq (⟨"SqueezedVolume", "requirePower", "()V"⟩, 6) := ⟨⟨by decide +kernel, by decide +kernel⟩, List.mem_of_getElem? (i := 16) (by decide +kernel), List.mem_of_getElem? (i := 139) (by decide +kernel), List.mem_of_getElem? (i := 140) (by decide +kernel)⟩
theorem lw_p1 : lw_okq (⟨"java/lang/Throwable", "fillInStackTrace", "(I)Ljava/lang/Throwable;"⟩, 6) := ⟨⟨by decide +kernel, by decide +kernel⟩, List.mem_of_getElem? (i := 183) (by decide +kernel), List.mem_of_getElem? (i := 181) (by decide +kernel), List.mem_of_getElem? (i := 182) (by decide +kernel)⟩
theorem lw_p2 : lw_okq (⟨"SqueezedVolume", "requireName", "(I)V"⟩, 6) := ⟨⟨by decide +kernel, by decide +kernel⟩, List.mem_of_getElem? (i := 16) (by decide +kernel), List.mem_of_getElem? (i := 213) (by decide +kernel), List.mem_of_getElem? (i := 214) (by decide +kernel)⟩
theorem lw_p3 : lw_okq (⟨"SqueezedVolume", "draftOpened", "(IIII)V"⟩, 6) := ⟨⟨by decide +kernel, by decide +kernel⟩, List.mem_of_getElem? (i := 16) (by decide +kernel), List.mem_of_getElem? (i := 271) (by decide +kernel), List.mem_of_getElem? (i := 272) (by decide +kernel)⟩
theorem lw_p4 : lw_okq (⟨"SqueezedVolume", "requireFewEntries", "()V"⟩, 6) := ⟨⟨by decide +kernel, by decide +kernel⟩, List.mem_of_getElem? (i := 16) (by decide +kernel), List.mem_of_getElem? (i := 305) (by decide +kernel), List.mem_of_getElem? (i := 306) (by decide +kernel)⟩
theorem lw_p5 : lw_okq (⟨"SqueezedVolume", "change", "()Z"⟩, 6) := ⟨⟨by decide +kernel, by decide +kernel⟩, List.mem_of_getElem? (i := 16) (by decide +kernel), List.mem_of_getElem? (i := 310) (by decide +kernel), List.mem_of_getElem? (i := 311) (by decide +kernel)⟩
theorem lw_p6 : lw_okq (⟨"SqueezedVolume", "requireTentative", "(I)I"⟩, 6) := ⟨⟨by decide +kernel, by decide +kernel⟩, List.mem_of_getElem? (i := 16) (by decide +kernel), List.mem_of_getElem? (i := 335) (by decide +kernel), List.mem_of_getElem? (i := 336) (by decide +kernel)⟩
theorem lw_p7 : lw_okq (⟨"SqueezedVolume", "requireBlock", "(II)V"⟩, 6) := ⟨⟨by decide +kernel, by decide +kernel⟩, List.mem_of_getElem? (i := 16) (by decide +kernel), List.mem_of_getElem? (i := 356) (by decide +kernel), List.mem_of_getElem? (i := 357) (by decide +kernel)⟩
theorem lw_p8 : lw_okq (⟨"SqueezedVolume", "writeBlock", "(II)Z"⟩, 6) := ⟨⟨by decide +kernel, by decide +kernel⟩, List.mem_of_getElem? (i := 16) (by decide +kernel), List.mem_of_getElem? (i := 365) (by decide +kernel), List.mem_of_getElem? (i := 366) (by decide +kernel)⟩
theorem lw_p9 : lw_okq (⟨"SqueezedVolume", "draftClosed", "(II)V"⟩, 6) := ⟨⟨by decide +kernel, by decide +kernel⟩, List.mem_of_getElem? (i := 16) (by decide +kernel), List.mem_of_getElem? (i := 378) (by decide +kernel), List.mem_of_getElem? (i := 379) (by decide +kernel)⟩
theorem lw_p10 : lw_okq (⟨"SqueezedVolume", "makeEmpty", "(I)I"⟩, 6) := ⟨⟨by decide +kernel, by decide +kernel⟩, List.mem_of_getElem? (i := 16) (by decide +kernel), List.mem_of_getElem? (i := 398) (by decide +kernel), List.mem_of_getElem? (i := 399) (by decide +kernel)⟩
theorem lw_p11 : lw_okq (⟨"SqueezedVolume", "requirePermanent", "(I)I"⟩, 6) := ⟨⟨by decide +kernel, by decide +kernel⟩, List.mem_of_getElem? (i := 16) (by decide +kernel), List.mem_of_getElem? (i := 409) (by decide +kernel), List.mem_of_getElem? (i := 410) (by decide +kernel)⟩
theorem lw_p12 : lw_okq (⟨"SqueezedVolume", "moveAll", "()I"⟩, 6) := ⟨⟨by decide +kernel, by decide +kernel⟩, List.mem_of_getElem? (i := 16) (by decide +kernel), List.mem_of_getElem? (i := 442) (by decide +kernel), List.mem_of_getElem? (i := 443) (by decide +kernel)⟩
theorem lw_p13 : lw_okq (⟨"SqueezedVolume", "moveDown", "(I)Z"⟩, 6) := ⟨⟨by decide +kernel, by decide +kernel⟩, List.mem_of_getElem? (i := 16) (by decide +kernel), List.mem_of_getElem? (i := 450) (by decide +kernel), List.mem_of_getElem? (i := 451) (by decide +kernel)⟩
theorem lw_p14 : lw_okq (⟨"SqueezedVolume", "copyDown", "(I)Z"⟩, 6) := ⟨⟨by decide +kernel, by decide +kernel⟩, List.mem_of_getElem? (i := 16) (by decide +kernel), List.mem_of_getElem? (i := 454) (by decide +kernel), List.mem_of_getElem? (i := 455) (by decide +kernel)⟩
theorem lw_p15 : lw_okq (⟨"SqueezedVolume", "writeLedger", "(I)Z"⟩, 6) := ⟨⟨by decide +kernel, by decide +kernel⟩, List.mem_of_getElem? (i := 16) (by decide +kernel), List.mem_of_getElem? (i := 460) (by decide +kernel), List.mem_of_getElem? (i := 461) (by decide +kernel)⟩
def lw_privs_1 : List (MethodName × Nat) := [(⟨"SqueezedVolume", "requirePower", "()V"⟩, 6), (⟨"java/lang/Throwable", "fillInStackTrace", "(I)Ljava/lang/Throwable;"⟩, 6), (⟨"SqueezedVolume", "requireName", "(I)V"⟩, 6), (⟨"SqueezedVolume", "draftOpened", "(IIII)V"⟩, 6), (⟨"SqueezedVolume", "requireFewEntries", "()V"⟩, 6), (⟨"SqueezedVolume", "change", "()Z"⟩, 6), (⟨"SqueezedVolume", "requireTentative", "(I)I"⟩, 6), (⟨"SqueezedVolume", "requireBlock", "(II)V"⟩, 6), (⟨"SqueezedVolume", "writeBlock", "(II)Z"⟩, 6), (⟨"SqueezedVolume", "draftClosed", "(II)V"⟩, 6), (⟨"SqueezedVolume", "makeEmpty", "(I)I"⟩, 6), (⟨"SqueezedVolume", "requirePermanent", "(I)I"⟩, 6), (⟨"SqueezedVolume", "moveAll", "()I"⟩, 6), (⟨"SqueezedVolume", "moveDown", "(I)Z"⟩, 6), (⟨"SqueezedVolume", "copyDown", "(I)Z"⟩, 6), (⟨"SqueezedVolume", "writeLedger", "(I)Z"⟩, 6)]
theorem lw_r1 : ∀ q ∈ lw_privs_1, lw_okq q := List.forall_mem_cons.mpr ⟨lw_p0, List.forall_mem_cons.mpr ⟨lw_p1, List.forall_mem_cons.mpr ⟨lw_p2, List.forall_mem_cons.mpr ⟨lw_p3, List.forall_mem_cons.mpr ⟨lw_p4, List.forall_mem_cons.mpr ⟨lw_p5, List.forall_mem_cons.mpr ⟨lw_p6, List.forall_mem_cons.mpr ⟨lw_p7, List.forall_mem_cons.mpr ⟨lw_p8, List.forall_mem_cons.mpr ⟨lw_p9, List.forall_mem_cons.mpr ⟨lw_p10, List.forall_mem_cons.mpr ⟨lw_p11, List.forall_mem_cons.mpr ⟨lw_p12, List.forall_mem_cons.mpr ⟨lw_p13, List.forall_mem_cons.mpr ⟨lw_p14, List.forall_mem_cons.mpr ⟨lw_p15, fun _ h => absurd h List.not_mem_nil⟩⟩⟩⟩⟩⟩⟩⟩⟩⟩⟩⟩⟩⟩⟩⟩
theorem lw_p16 : lw_okq (⟨"SqueezedVolume", "draftMovedBefore", "(I)V"⟩, 6) := ⟨⟨by decide +kernel, by decide +kernel⟩, List.mem_of_getElem? (i := 16) (by decide +kernel), List.mem_of_getElem? (i := 464) (by decide +kernel), List.mem_of_getElem? (i := 465) (by decide +kernel)⟩
theorem lw_p17 : lw_okq (⟨"SqueezedVolume", "draftWithoutTentative", "()V"⟩, 6) := ⟨⟨by decide +kernel, by decide +kernel⟩, List.mem_of_getElem? (i := 16) (by decide +kernel), List.mem_of_getElem? (i := 480) (by decide +kernel), List.mem_of_getElem? (i := 481) (by decide +kernel)⟩
theorem lw_p18 : lw_okq (⟨"SqueezedVolumeModel", "howMany", "(I)I"⟩, 20) := ⟨⟨by decide +kernel, by decide +kernel⟩, List.mem_of_getElem? (i := 551) (by decide +kernel), List.mem_of_getElem? (i := 629) (by decide +kernel), List.mem_of_getElem? (i := 630) (by decide +kernel)⟩
theorem lw_p19 : lw_okq (⟨"SqueezedVolumeModel", "longest", "(Z)I"⟩, 20) := ⟨⟨by decide +kernel, by decide +kernel⟩, List.mem_of_getElem? (i := 551) (by decide +kernel), List.mem_of_getElem? (i := 633) (by decide +kernel), List.mem_of_getElem? (i := 634) (by decide +kernel)⟩
theorem lw_p20 : lw_okq (⟨"SqueezedVolumeModel", "runFrom", "(I)I"⟩, 20) := ⟨⟨by decide +kernel, by decide +kernel⟩, List.mem_of_getElem? (i := 551) (by decide +kernel), List.mem_of_getElem? (i := 637) (by decide +kernel), List.mem_of_getElem? (i := 638) (by decide +kernel)⟩
theorem lw_p21 : lw_okq (⟨"SqueezedVolumeModel", "fit", "(I)Z"⟩, 20) := ⟨⟨by decide +kernel, by decide +kernel⟩, List.mem_of_getElem? (i := 551) (by decide +kernel), List.mem_of_getElem? (i := 641) (by decide +kernel), List.mem_of_getElem? (i := 642) (by decide +kernel)⟩
theorem lw_p22 : lw_okq (⟨"SqueezedVolumeModel", "lay", "()V"⟩, 20) := ⟨⟨by decide +kernel, by decide +kernel⟩, List.mem_of_getElem? (i := 551) (by decide +kernel), List.mem_of_getElem? (i := 645) (by decide +kernel), List.mem_of_getElem? (i := 646) (by decide +kernel)⟩
theorem lw_p23 : lw_okq (⟨"SqueezedVolumeModel", "runs", "()I"⟩, 20) := ⟨⟨by decide +kernel, by decide +kernel⟩, List.mem_of_getElem? (i := 551) (by decide +kernel), List.mem_of_getElem? (i := 649) (by decide +kernel), List.mem_of_getElem? (i := 650) (by decide +kernel)⟩
theorem lw_p24 : lw_okq (⟨"SqueezedVolumeModel", "change", "()Z"⟩, 20) := ⟨⟨by decide +kernel, by decide +kernel⟩, List.mem_of_getElem? (i := 551) (by decide +kernel), List.mem_of_getElem? (i := 653) (by decide +kernel), List.mem_of_getElem? (i := 654) (by decide +kernel)⟩
theorem lw_p25 : lw_okq (⟨"SqueezedVolumeModel", "write", "()Z"⟩, 20) := ⟨⟨by decide +kernel, by decide +kernel⟩, List.mem_of_getElem? (i := 551) (by decide +kernel), List.mem_of_getElem? (i := 657) (by decide +kernel), List.mem_of_getElem? (i := 658) (by decide +kernel)⟩
theorem lw_p26 : lw_okq (⟨"SqueezedVolumeModel", "byHandle", "(I)I"⟩, 20) := ⟨⟨by decide +kernel, by decide +kernel⟩, List.mem_of_getElem? (i := 551) (by decide +kernel), List.mem_of_getElem? (i := 661) (by decide +kernel), List.mem_of_getElem? (i := 662) (by decide +kernel)⟩
theorem lw_p27 : lw_okq (⟨"SqueezedVolumeModel", "lengthOf", "(I)I"⟩, 20) := ⟨⟨by decide +kernel, by decide +kernel⟩, List.mem_of_getElem? (i := 551) (by decide +kernel), List.mem_of_getElem? (i := 669) (by decide +kernel), List.mem_of_getElem? (i := 670) (by decide +kernel)⟩
theorem lw_p28 : lw_okq (⟨"SqueezedVolumeModel", "beginOf", "(I)I"⟩, 20) := ⟨⟨by decide +kernel, by decide +kernel⟩, List.mem_of_getElem? (i := 551) (by decide +kernel), List.mem_of_getElem? (i := 673) (by decide +kernel), List.mem_of_getElem? (i := 674) (by decide +kernel)⟩
theorem lw_p29 : lw_okq (⟨"SqueezedVolumeModel", "permanent", "(I)I"⟩, 20) := ⟨⟨by decide +kernel, by decide +kernel⟩, List.mem_of_getElem? (i := 551) (by decide +kernel), List.mem_of_getElem? (i := 681) (by decide +kernel), List.mem_of_getElem? (i := 682) (by decide +kernel)⟩
theorem lw_p30 : lw_okq (⟨"SqueezedVolumeModel", "giveUp", "(II)V"⟩, 20) := ⟨⟨by decide +kernel, by decide +kernel⟩, List.mem_of_getElem? (i := 551) (by decide +kernel), List.mem_of_getElem? (i := 685) (by decide +kernel), List.mem_of_getElem? (i := 686) (by decide +kernel)⟩
theorem lw_p31 : lw_okq (⟨"SqueezedVolumeModel", "vanish", "(I)I"⟩, 20) := ⟨⟨by decide +kernel, by decide +kernel⟩, List.mem_of_getElem? (i := 551) (by decide +kernel), List.mem_of_getElem? (i := 693) (by decide +kernel), List.mem_of_getElem? (i := 694) (by decide +kernel)⟩
def lw_privs_2 : List (MethodName × Nat) := [(⟨"SqueezedVolume", "draftMovedBefore", "(I)V"⟩, 6), (⟨"SqueezedVolume", "draftWithoutTentative", "()V"⟩, 6), (⟨"SqueezedVolumeModel", "howMany", "(I)I"⟩, 20), (⟨"SqueezedVolumeModel", "longest", "(Z)I"⟩, 20), (⟨"SqueezedVolumeModel", "runFrom", "(I)I"⟩, 20), (⟨"SqueezedVolumeModel", "fit", "(I)Z"⟩, 20), (⟨"SqueezedVolumeModel", "lay", "()V"⟩, 20), (⟨"SqueezedVolumeModel", "runs", "()I"⟩, 20), (⟨"SqueezedVolumeModel", "change", "()Z"⟩, 20), (⟨"SqueezedVolumeModel", "write", "()Z"⟩, 20), (⟨"SqueezedVolumeModel", "byHandle", "(I)I"⟩, 20), (⟨"SqueezedVolumeModel", "lengthOf", "(I)I"⟩, 20), (⟨"SqueezedVolumeModel", "beginOf", "(I)I"⟩, 20), (⟨"SqueezedVolumeModel", "permanent", "(I)I"⟩, 20), (⟨"SqueezedVolumeModel", "giveUp", "(II)V"⟩, 20), (⟨"SqueezedVolumeModel", "vanish", "(I)I"⟩, 20)]
theorem lw_r2 : ∀ q ∈ lw_privs_2, lw_okq q := List.forall_mem_cons.mpr ⟨lw_p16, List.forall_mem_cons.mpr ⟨lw_p17, List.forall_mem_cons.mpr ⟨lw_p18, List.forall_mem_cons.mpr ⟨lw_p19, List.forall_mem_cons.mpr ⟨lw_p20, List.forall_mem_cons.mpr ⟨lw_p21, List.forall_mem_cons.mpr ⟨lw_p22, List.forall_mem_cons.mpr ⟨lw_p23, List.forall_mem_cons.mpr ⟨lw_p24, List.forall_mem_cons.mpr ⟨lw_p25, List.forall_mem_cons.mpr ⟨lw_p26, List.forall_mem_cons.mpr ⟨lw_p27, List.forall_mem_cons.mpr ⟨lw_p28, List.forall_mem_cons.mpr ⟨lw_p29, List.forall_mem_cons.mpr ⟨lw_p30, List.forall_mem_cons.mpr ⟨lw_p31, fun _ h => absurd h List.not_mem_nil⟩⟩⟩⟩⟩⟩⟩⟩⟩⟩⟩⟩⟩⟩⟩⟩
theorem lw_p32 : lw_okq (⟨"SqueezedVolumeModel", "moveAll", "()Z"⟩, 20) := ⟨⟨by decide +kernel, by decide +kernel⟩, List.mem_of_getElem? (i := 551) (by decide +kernel), List.mem_of_getElem? (i := 713) (by decide +kernel), List.mem_of_getElem? (i := 714) (by decide +kernel)⟩
theorem lw_p33 : lw_okq (⟨"SqueezedVolumeModel", "findMover", "()Z"⟩, 20) := ⟨⟨by decide +kernel, by decide +kernel⟩, List.mem_of_getElem? (i := 551) (by decide +kernel), List.mem_of_getElem? (i := 717) (by decide +kernel), List.mem_of_getElem? (i := 718) (by decide +kernel)⟩
theorem lw_p34 : lw_okq (⟨"SqueezedVolumeModel", "move", "(IZ)Z"⟩, 20) := ⟨⟨by decide +kernel, by decide +kernel⟩, List.mem_of_getElem? (i := 551) (by decide +kernel), List.mem_of_getElem? (i := 721) (by decide +kernel), List.mem_of_getElem? (i := 722) (by decide +kernel)⟩
theorem lw_p35 : lw_okq (⟨"SqueezedVolumeModel", "run", "(I)Z"⟩, 20) := ⟨⟨by decide +kernel, by decide +kernel⟩, List.mem_of_getElem? (i := 551) (by decide +kernel), List.mem_of_getElem? (i := 737) (by decide +kernel), List.mem_of_getElem? (i := 738) (by decide +kernel)⟩
theorem lw_p36 : lw_okq (⟨"SqueezedVolumeModel", "runsNow", "()I"⟩, 20) := ⟨⟨by decide +kernel, by decide +kernel⟩, List.mem_of_getElem? (i := 551) (by decide +kernel), List.mem_of_getElem? (i := 745) (by decide +kernel), List.mem_of_getElem? (i := 746) (by decide +kernel)⟩
def lw_privs_3 : List (MethodName × Nat) := [(⟨"SqueezedVolumeModel", "moveAll", "()Z"⟩, 20), (⟨"SqueezedVolumeModel", "findMover", "()Z"⟩, 20), (⟨"SqueezedVolumeModel", "move", "(IZ)Z"⟩, 20), (⟨"SqueezedVolumeModel", "run", "(I)Z"⟩, 20), (⟨"SqueezedVolumeModel", "runsNow", "()I"⟩, 20)]
theorem lw_r3 : ∀ q ∈ lw_privs_3, lw_okq q := List.forall_mem_cons.mpr ⟨lw_p32, List.forall_mem_cons.mpr ⟨lw_p33, List.forall_mem_cons.mpr ⟨lw_p34, List.forall_mem_cons.mpr ⟨lw_p35, List.forall_mem_cons.mpr ⟨lw_p36, fun _ h => absurd h List.not_mem_nil⟩⟩⟩⟩⟩
def lw_privs : List (MethodName × Nat) := lw_privs_1 ++ (lw_privs_2 ++ (lw_privs_3))
def lw_tbl : List Cond := k2_sels lw_privs ++ tables_1
theorem lw_privs_ok : ∀ q ∈ lw_privs, lw_okq q := by
  show ∀ q ∈ lw_privs_1 ++ (lw_privs_2 ++ (lw_privs_3)), lw_okq q
  exact List.forall_mem_append.mpr ⟨lw_r1, List.forall_mem_append.mpr ⟨lw_r2, lw_r3⟩⟩
end
section
/-! ===== BEGIN words of one list among another's, by their places ===== -/
theorem goodIn_r {big : List Cond} (ws : List Cond) (ps : List Nat) (hp : ws = ps.filterMap (fun i => big[i]?)) (h : ws.all goodWord = true) : GoodIn big ws := by
  intro w hw
  have h1 := List.all_eq_true.mp h w hw
  rw [hp] at hw
  obtain ⟨i, -, hi⟩ := List.mem_filterMap.mp hw
  have hm : w ∈ big := by first | exact List.mem_of_getElem? hi | exact List.getElem?_mem hi
  exact ⟨hm, good_of_word h1⟩
theorem goodIn_app {big a b : List Cond} (ha : GoodIn big a) (hb : GoodIn big b) : GoodIn big (a ++ b) := fun w h => (List.mem_append.mp h).elim (ha w) (hb w)
theorem goodIn_ca {big a b : List Cond} {c : Cond} (ha : GoodIn big (c :: a)) (hb : GoodIn big b) : GoodIn big (c :: (a ++ b)) := fun w h => (List.mem_cons.mp h).elim (fun e => ha w (List.mem_cons.mpr (Or.inl e))) (fun h => (List.mem_append.mp h).elim (fun h => ha w (List.mem_cons.mpr (Or.inr h))) (hb w))
theorem goodIn_sub {big ws : List Cond} (hm : ∀ w ∈ ws, w ∈ big) (h : ws.all goodWord = true) : GoodIn big ws := fun w hw => ⟨hm w hw, good_of_word (List.all_eq_true.mp h w hw)⟩
/-! ===== END ===== -/

/-! ===== BEGIN exceptions that leave a method, and their catching by the caller (launches without stack traces) ===== -/
section VXA
/-! The laws vx_back, vx_callV, vx_callS, vx_callSW, vx_throw0, vx_throwS follow proofs of the library, with one case more: JvmDerived/Free/Laws.lean (Back.of_free), Shelf42/LK1.lean (callV, callS), Shelf/KitTraced.lean (throwNew0V, throwNewS). -/
/-- where a method has thrown q: the class by its name, the cell, what was written, the world -/
def vx_T (XC : String → State → State → Prop) (st : State) (q : Addr) (t : State) (mc ms : Nat) (free : Addr → Prop) : Prop :=
  ∃ (E : String) (ce : Cell) (L : List Loc), XC E st t ∧ t.heap[q]? = some ce ∧ ce.vm = .none ∧ st.vm.findClass E = some ce.cls ∧ st.WarmedH t.vm ∧ st.sameButNew ({ t with vm := st.vm } : State) L mc ms ∧ ∀ z ∈ L, free z.base
def vx_Q (Qc : Array Value → State → Outcome → State → Prop) (XC : String → State → State → Prop) (mc ms : Nat) (free : Addr → Prop) : Array Value → State → Outcome → State → Prop := fun a st o t =>
  (Qc a st o t ∧ ∃ L, FrameEnd st o t L mc ms ∧ ∀ q ∈ L, free q.base) ∨ ∃ q, o = .threw q ∧ vx_T XC st q t mc ms free
/-- a callee that returns or throws -/
def vx_Met (l : Launch) (y : MethodName) (ws : List Cond) (rm : Room) (Pc : Array Value → State → Prop) (Qc : Array Value → State → Outcome → State → Prop) (XC : String → State → State → Prop) (mc ms : Nat) (free : Addr → Prop) : Prop :=
  MetFree l y (headSpec ws rm) Pc (fun _ _ _ _ _ => True) (vx_Q Qc XC mc ms free)
def vx_Post (XC : String → State → State → Prop) (mc ms : Nat) (free : Addr → Prop) : Pt → Array Value → Addr → Pt → Prop := fun A a q B =>
  ∃ (g : JFrame) (mk : MethodId) (t : State) (L : List Loc) (E : String) (ce : Cell), B.U.heap = t.heap ∧ B.U.vm = t.vm ∧ XC E (A.U.calling g mk a) t ∧ t.heap[q]? = some ce ∧ ce.vm = .none ∧ A.U.vm.findClass E = some ce.cls ∧ B.locs = A.locs ++ L ∧ (∀ z ∈ L, free z.base) ∧ B.cells = A.cells + mc ∧ B.slots = A.slots + ms
def vx_Back (l : Launch) (R : Room) (p : Program) (e : Env) (below : List Frame) (s : State) (sargs : Array Value) (y : MethodName) (len W9 : Nat)
    (Pre : Pt → Array Value → Prop) (Post : Pt → Array Value → Option Value → Pt → Prop) (PostX : Pt → Array Value → Addr → Pt → Prop) : Prop :=
  ∀ (m : MethodId) (meth : Method) (c : Code) (A : Pt) (g : JFrame) (ig : Instr) (mk : MethodId) (a : Array Value),
    Stand p l e R s m sargs below meth c A.U A.locs A.cells A.slots → g.method = m → g.locals.size = c.maxLocals → decode c.code g.pc = .ok (ig, len) →
    2 * g.monitorRoom + (g.stack.map fun v => v.category).sum ≤ W9 → A.U.methodNamed? y = some mk → Pre A a →
    (∃ (v : Option Value) (B : Pt), Stand p l e R s m sargs below meth c B.U B.locs B.cells B.slots ∧ Post A a v B ∧
      Steps p.tables e below (doInvoke e (A.U.setTop g) [] mk a).1 (B.U.setTop { g with pc := g.pc + len, stack := v.toList ++ g.stack })) ∨
    (∃ (q : Addr) (B : Pt), Stand p l e R s m sargs below meth c B.U B.locs B.cells B.slots ∧ PostX A a q B ∧
      Steps p.tables e below (doInvoke e (A.U.setTop g) [] mk a).1 ((B.U.setTop g).pushFrame (.throwing q)))
section Payer
variable {l : Launch} {R : Room} {p : Program} {e : Env} {below : List Frame} {s : State} {sargs : Array Value} {y : MethodName} {len W9 : Nat}
theorem vx_back {ws : List Cond} {rm : Room} {Pc : Array Value → State → Prop} {Qc : Array Value → State → Outcome → State → Prop} {XC : String → State → State → Prop} {mc ms : Nat} {free : Addr → Prop} {bytes : ByteArray} {maxL : Nat} {ret : Option FieldType}
    (hM : vx_Met l y ws rm Pc Qc XC mc ms free) (hblind : FrameBlind Pc) (hrc : rm.cells = mc) (hrs : rm.slots = ms)
    (hframes : rm.frames + 1 ≤ R.frames) (hlocals : W9 + (maxL + 11) + rm.locals ≤ R.locals)
    (hws : ∀ w ∈ ws, ∀ a' U, s.WarmedH U.vm → w.before a' U = true) (hcode : Cond.code y bytes maxL ret ∈ ws) (hinit : ∀ a' U, s.WarmedH U.vm → (Cond.initialized y.cls).before a' U = true) :
    vx_Back l R p e below s sargs y len W9 (PreOf R mc ms Pc) (PostOf Qc mc ms free) (vx_Post XC mc ms free) := by
  intro m meth c A g ig mk a X hg hsize hdg hW hn hp
  have h1 : (headSpec ws rm).pre.before a A.U = true := atoms_intro fun w hw => hws w hw _ _ X.warmed
  have h2 : (Cond.code y bytes maxL ret).before a A.U = true := hws _ hcode _ _ X.warmed
  have h3 : (Cond.initialized y.cls).before a A.U = true := hinit _ _ X.warmed
  have h4 : A.cells + (headSpec ws rm).room.cells ≤ R.cells := by rw [show (headSpec ws rm).room.cells = mc from hrc]; exact hp.1
  have h5 : A.slots + (headSpec ws rm).room.slots ≤ R.slots := by rw [show (headSpec ws rm).room.slots = ms from hrs]; exact hp.2.1
  have hPc : Pc a (A.U.calling g mk a) := hblind _ _ _ _ hp.2.2
  obtain ⟨U, Ls, c0, s0⟩ := A
  dsimp only [Pt.U, Pt.locs, Pt.cells, Pt.slots] at h1 h2 h3 h4 h5 X hn hPc ⊢
  obtain ⟨methY, cY, hmY, hcY, -, hlY, -, -, -, -⟩ := Cond.code_spec hn h2
  obtain ⟨kY, hkY, -⟩ := className_of_methodNamed hn
  have hinitY : kY.init = .initialized := Cond.initialized_spec (findClass_of_methodNamed hn) hkY h3
  have h : At U g.method c below := by rw [hg]; exact X.here
  have hlocals9 : W9 + (maxL + 11) + (headSpec ws rm).room.locals ≤ R.locals := hlocals
  have happ : (headSpec ws rm).appliesLoose y e.platform (U.calling g mk a) = true :=
    Spec.appliesLoose_calling (g := g) h hdg hn hkY hinitY
      (X.room_calling (g := g) (R' := (headSpec ws rm).room) hsize hmY hcY hframes (by rw [hlY]; omega) h4 h5) h1
  obtain ⟨mid, hmid⟩ := h.above
  have hfr : (U.setTop g).frames = (.java g :: mid) ++ below := by rw [State.frames_setTop' g h.top, hmid]; rfl
  obtain ⟨o, s₂, hsteps, -, hend, hq⟩ := Steps.callFree hM p X.admits X.cas X.clock (acts := []) hfr happ hPc trivial
  have hq' : vx_Q Qc XC mc ms free a (U.calling g mk a) o s₂ := hq
  rw [State.frames_setTop' g h.top] at hend
  obtain ⟨g₀, hg0⟩ := Option.isSome_iff_exists.mp h.top
  obtain ⟨r, hr⟩ := State.topJava?_eq_some.mp hg0
  have hr' : (({ U with heap := s₂.heap, slotsUsed := s₂.slotsUsed } : State).setVm s₂.vm).frames = .java g₀ :: r := hr
  rcases hq' with ⟨hqc, L, hfe, hL⟩ | ⟨q, rfl, E, ce, L, hx, hce, hcv, hcl, hW₂, hsm, hL⟩
  · obtain ⟨⟨v, rfl⟩, hW₂, e2, q2, q3, q4, q5, q6⟩ := id hfe
    have e3 : s₂ = ({ (U.calling g mk a).setFrames s₂.frames with heap := s₂.heap, slotsUsed := s₂.slotsUsed } : State).setVm s₂.vm := by
      have : s₂ = ({ s₂ with vm := (U.calling g mk a).vm } : State).setVm s₂.vm := rfl
      rw [e2] at this
      exact this
    obtain ⟨c₂, i₂, len₂, hc₂, hd₂, hf₂⟩ := hend
    have hW' : U.WarmedH s₂.vm := hW₂
    have hcc : c₂ = c := by
      have h1 : s₂.code? g.method = U.code? g.method := by
        rw [State.code?_eq, State.code?_eq, hW'.alike.method?]
      exact Option.some.inj (hc₂.symm.trans (h1.trans h.code))
    subst hcc
    have hlen : len₂ = len := by rw [hdg] at hd₂; cases hd₂; rfl
    subst hlen
    have hs₂ : s₂ = (({ U with heap := s₂.heap, slotsUsed := s₂.slotsUsed } : State).setVm s₂.vm).setTop { g with pc := g.pc + len₂, stack := v.toList ++ g.stack } := by
      refine e3.trans ?_
      rw [hf₂, State.calling_eq h.top, State.setFrames_setFrames, State.setTop_of_frames _ hr', hr]
      rfl
    have hsame : U.sameButNew ({ U with heap := s₂.heap, slotsUsed := s₂.slotsUsed } : State) L mc ms := by
      refine ⟨?_, q2, q3, q4, q5, q6⟩
      obtain ⟨t, ht, -⟩ := State.frames_cons hr
      show ({ U with heap := s₂.heap, slotsUsed := s₂.slotsUsed } : State) = { U.setFrames U.frames with heap := s₂.heap, slotsUsed := s₂.slotsUsed }
      rw [State.setFrames_self ht]
    subst hg
    refine Or.inl ⟨v, ⟨(({ U with heap := s₂.heap, slotsUsed := s₂.slotsUsed } : State).setVm s₂.vm), Ls ++ L, c0 + mc, s0 + ms⟩,
      ⟨X.admits, X.cas, X.clock, X.frames, X.room, X.hears, X.method, X.code, (X.here.setHeapUsed s₂.heap s₂.slotsUsed).setVm hW'.alike, X.tail, State.WarmedH.trans X.warmed hW', X.limits, X.bytes, X.same.trans (hsame.setVm s.vm)⟩,
      ⟨g, mk, s₂, L, rfl, rfl, hqc, rfl, hL, rfl, rfl⟩, ?_⟩
    show Steps p.tables e below _ ((({ U with heap := s₂.heap, slotsUsed := s₂.slotsUsed } : State).setVm s₂.vm).setTop { g with pc := g.pc + len₂, stack := v.toList ++ g.stack })
    rw [← hs₂]
    exact hsteps
  · obtain ⟨e2, q2, q3, q4, q5, q6⟩ := id hsm
    have e3 : s₂ = ({ (U.calling g mk a).setFrames s₂.frames with heap := s₂.heap, slotsUsed := s₂.slotsUsed } : State).setVm s₂.vm := by
      have : s₂ = ({ s₂ with vm := (U.calling g mk a).vm } : State).setVm s₂.vm := rfl
      rw [e2] at this
      exact this
    have hf₂ : s₂.frames = .throwing q :: .java g :: U.frames.tail := hend
    have hW' : U.WarmedH s₂.vm := hW₂
    have hs₂ : s₂ = ((({ U with heap := s₂.heap, slotsUsed := s₂.slotsUsed } : State).setVm s₂.vm).setTop g).pushFrame (.throwing q) := by
      refine e3.trans ?_
      rw [hf₂, State.calling_eq h.top, State.setFrames_setFrames, State.pushFrame, State.frames_setTop _ hr', State.setTop_of_frames _ hr', State.setFrames_setFrames, hr]
      rfl
    have hsame : U.sameButNew ({ U with heap := s₂.heap, slotsUsed := s₂.slotsUsed } : State) L mc ms := by
      refine ⟨?_, q2, q3, q4, q5, q6⟩
      obtain ⟨t, ht, -⟩ := State.frames_cons hr
      show ({ U with heap := s₂.heap, slotsUsed := s₂.slotsUsed } : State) = { U.setFrames U.frames with heap := s₂.heap, slotsUsed := s₂.slotsUsed }
      rw [State.setFrames_self ht]
    subst hg
    refine Or.inr ⟨q, ⟨(({ U with heap := s₂.heap, slotsUsed := s₂.slotsUsed } : State).setVm s₂.vm), Ls ++ L, c0 + mc, s0 + ms⟩,
      ⟨X.admits, X.cas, X.clock, X.frames, X.room, X.hears, X.method, X.code, (X.here.setHeapUsed s₂.heap s₂.slotsUsed).setVm hW'.alike, X.tail, State.WarmedH.trans X.warmed hW', X.limits, X.bytes, X.same.trans (hsame.setVm s.vm)⟩,
      ⟨g, mk, s₂, L, E, ce, rfl, rfl, hx, hce, hcv, hcl, rfl, hL, rfl, rfl⟩, ?_⟩
    show Steps p.tables e below _ (((({ U with heap := s₂.heap, slotsUsed := s₂.slotsUsed } : State).setVm s₂.vm).setTop g).pushFrame (.throwing q))
    rw [← hs₂]
    exact hsteps
end Payer
section Calls
variable {p : Program} {l : Launch} {e : Env} {R : Room} {s : State} {m : MethodId} {args : Array Value} {below : List Frame} {meth : Method} {c : Code} {T : State} {locs : List Loc} {cells slots : Nat}
theorem vx_callV (X : Stand p l e R s m args below meth c T locs cells slots) (hexec : p.tables.exec = Jvm.exec) {own C : String} {index : Nat} {y : MethodName} {bytes : ByteArray} {maxL : Nat} {ret : Option FieldType}
    (hown : s.vm.findClass own = some m.cls) (hlink : (Cond.methodLink own index y).before args s = true) (hinst : (Cond.instanceMethod y).before args s = true) (hsel : (Cond.selects C y y).before args s = true)
    (hcode : (Cond.code y bytes maxL ret).before args s = true) (hy : y.cls ≠ "java/lang/invoke/MethodHandle" ∧ y.cls ≠ "java/lang/invoke/VarHandle")
    {W9 : Nat} {Pre : Pt → Array Value → Prop} {Post : Pt → Array Value → Option Value → Pt → Prop} {PostX : Pt → Array Value → Addr → Pt → Prop} (hK : vx_Back l R p e below s args y 3 W9 Pre Post PostX)
    {b : Addr} {cellB : Cell} (hcell : T.heap[b]? = some cellB) (hobj : cellB.vm.isStatics = false) (hcls : s.vm.findClass C = some cellB.cls)
    {g : JFrame} (hg : g.method = m) (hsize : g.locals.size = c.maxLocals) {argsL rest : List Value} (hlen : ∀ sig, parseMethodDescriptor y.desc = some sig → argsL.length = sig.parameters.length)
    (hstack : g.stack = argsL.reverse ++ .ref b :: rest) (hW : 2 * g.monitorRoom + (rest.map fun v => v.category).sum ≤ W9) (hdg : decode c.code g.pc = .ok (.invokevirtual index, 3))
    (hpre : ∀ vm₁, s.WarmedH vm₁ → Pre ⟨T.setVm vm₁, locs, cells, slots⟩ (Value.ref b :: argsL).toArray) :
    (∃ (v : Option Value) (vm₁ : Vm) (B : Pt), s.WarmedH vm₁ ∧ Stand p l e R s m args below meth c B.U B.locs B.cells B.slots ∧ Post ⟨T.setVm vm₁, locs, cells, slots⟩ (Value.ref b :: argsL).toArray v B ∧
      ∀ target, Steps p.tables e below (B.U.setTop { g with pc := g.pc + 3, stack := v.toList ++ rest }) target → Steps p.tables e below (T.setTop g) target) ∨
    (∃ (q : Addr) (vm₁ : Vm) (B : Pt), s.WarmedH vm₁ ∧ Stand p l e R s m args below meth c B.U B.locs B.cells B.slots ∧ PostX ⟨T.setVm vm₁, locs, cells, slots⟩ (Value.ref b :: argsL).toArray q B ∧
      Steps p.tables e below (T.setTop g) ((B.U.setTop { g with stack := rest }).pushFrame (.throwing q))) := by
  obtain ⟨mk, methM, hnamed, hmethM, hstM, habM⟩ := Cond.instanceMethod_spec hinst
  obtain ⟨methM', cM, hmethM', -, -, -, -, -, -, hsigM⟩ := Cond.code_spec hnamed hcode
  cases hmethM.symm.trans hmethM'
  obtain ⟨c2, r2, m2, q1, q2, q3, q4, kP, hkP, hkPi⟩ := Cond.selects_spec hsel
  cases hcls.symm.trans q1
  cases (State.methodFound?_of_named hnamed hy).symm.trans q2
  cases hnamed.symm.trans q3
  have hselP : selectMethod e.platform s.vm cellB.cls mk = .method mk := by rw [Launch.admits_selectMethod X.admits]; exact q4
  obtain ⟨vm₁, X₁, hstep₁⟩ := X.invokevirtual hexec hown hlink hnamed hmethM hstM hkP hkPi hy (a := b) (cell := cellB) hcell
    (fun z h => by rw [h] at hobj; cases hobj) hselP hmethM habM hkP hkPi (g := g) hg (argsL := argsL) (rest := rest) (hlen _ hsigM) hstack hdg
  rcases hK m meth c ⟨T.setVm vm₁, locs, cells, slots⟩ { g with stack := rest } (.invokevirtual index) mk (Value.ref b :: argsL).toArray X₁ hg hsize hdg hW (X₁.named hnamed) (hpre vm₁ X₁.warmed) with ⟨v, B, X', hpost, hsteps⟩ | ⟨q, B, X', hpost, hsteps⟩
  · exact Or.inl ⟨v, vm₁, B, X₁.warmed, X', hpost, fun target h => hstep₁ _ fun acts => by rw [doInvoke_state]; exact hsteps.trans h⟩
  · exact Or.inr ⟨q, vm₁, B, X₁.warmed, X', hpost, hstep₁ _ fun acts => by rw [doInvoke_state]; exact hsteps⟩
theorem vx_callS (X : Stand p l e R s m args below meth c T locs cells slots) (hexec : p.tables.exec = Jvm.exec) {own : String} {index : Nat} {y : MethodName} {bytes : ByteArray} {maxL : Nat} {ret : Option FieldType}
    (hown : s.vm.findClass own = some m.cls) (hlink : (Cond.methodLink own index y).before args s = true) (hstat : (Cond.static y).before args s = true) (hinit : (Cond.initialized y.cls).before args s = true)
    (hcode : (Cond.code y bytes maxL ret).before args s = true) (hy : y.cls ≠ "java/lang/invoke/MethodHandle" ∧ y.cls ≠ "java/lang/invoke/VarHandle")
    {W9 : Nat} {Pre : Pt → Array Value → Prop} {Post : Pt → Array Value → Option Value → Pt → Prop} {PostX : Pt → Array Value → Addr → Pt → Prop} (hK : vx_Back l R p e below s args y 3 W9 Pre Post PostX)
    {g : JFrame} (hg : g.method = m) (hsize : g.locals.size = c.maxLocals) {argsL rest : List Value} (hlen : ∀ sig, parseMethodDescriptor y.desc = some sig → argsL.length = sig.parameters.length)
    (hstack : g.stack = argsL.reverse ++ rest) (hW : 2 * g.monitorRoom + (rest.map fun v => v.category).sum ≤ W9) (hdg : decode c.code g.pc = .ok (.invokestatic index, 3))
    (hpre : ∀ vm₁, s.WarmedH vm₁ → Pre ⟨T.setVm vm₁, locs, cells, slots⟩ argsL.toArray) :
    (∃ (v : Option Value) (vm₁ : Vm) (B : Pt), s.WarmedH vm₁ ∧ Stand p l e R s m args below meth c B.U B.locs B.cells B.slots ∧ Post ⟨T.setVm vm₁, locs, cells, slots⟩ argsL.toArray v B ∧
      ∀ target, Steps p.tables e below (B.U.setTop { g with pc := g.pc + 3, stack := v.toList ++ rest }) target → Steps p.tables e below (T.setTop g) target) ∨
    (∃ (q : Addr) (vm₁ : Vm) (B : Pt), s.WarmedH vm₁ ∧ Stand p l e R s m args below meth c B.U B.locs B.cells B.slots ∧ PostX ⟨T.setVm vm₁, locs, cells, slots⟩ argsL.toArray q B ∧
      Steps p.tables e below (T.setTop g) ((B.U.setTop { g with stack := rest }).pushFrame (.throwing q))) := by
  obtain ⟨mk, hnamed⟩ := Cond.code_named hcode
  obtain ⟨methM, cM, hmethM, -, -, -, -, -, -, hsigM⟩ := Cond.code_spec hnamed hcode
  have hstatic : methM.isStatic = true := Cond.static_spec hnamed hmethM hstat
  obtain ⟨kP, hkP, -⟩ := className_of_methodNamed hnamed
  have hinitP : kP.init = .initialized := Cond.initialized_spec (findClass_of_methodNamed hnamed) hkP hinit
  obtain ⟨vm₁, X₁, hstep₁⟩ := X.invokestatic hexec hown hlink hnamed hmethM hstatic hkP hinitP hy (g := g) hg (argsL := argsL) (rest := rest) (hlen _ hsigM) hstack hdg
  rcases hK m meth c ⟨T.setVm vm₁, locs, cells, slots⟩ { g with stack := rest } (.invokestatic index) mk argsL.toArray X₁ hg hsize hdg hW (X₁.named hnamed) (hpre vm₁ X₁.warmed) with ⟨v, B, X', hpost, hsteps⟩ | ⟨q, B, X', hpost, hsteps⟩
  · exact Or.inl ⟨v, vm₁, B, X₁.warmed, X', hpost, fun target h => hstep₁ _ fun acts => by rw [doInvoke_state]; exact hsteps.trans h⟩
  · exact Or.inr ⟨q, vm₁, B, X₁.warmed, X', hpost, hstep₁ _ fun acts => by rw [doInvoke_state]; exact hsteps⟩
end Calls
theorem vx_cls {s : State} {T : State} {vm₁ : Vm} {E : String} {k : ClassId} (hW : s.WarmedH vm₁) (h : (T.setVm vm₁).vm.findClass E = some k) : s.vm.findClass E = some k := by
  have h1 : vm₁.findClass E = some k := h
  rw [hW.alike.findClass] at h1
  exact h1
/-- the method's frame g, with q thrown over it -/
def vx_W (p : Program) (l : Launch) (e : Env) (R : Room) (s : State) (m : MethodId) (args : Array Value) (below : List Frame) (meth : Method) (c : Code) (H : Heap) (locs : List Loc) (cells slots : Nat) (Q : State → Prop) (g : JFrame) (q : Addr) : Prop :=
  ∀ T : State, T.heap = H → Stand p l e R s m args below meth c T locs cells slots → ∃ t, Steps p.tables e below ((T.setTop g).pushFrame (.throwing q)) t ∧ Q t
def vx_Run (p : Program) (l : Launch) (e : Env) (R : Room) (s : State) (m : MethodId) (args : Array Value) (below : List Frame) (meth : Method) (c : Code) (H : Heap) (locs : List Loc) (cells slots mc ms : Nat) (g : JFrame) (rest : List Value) (Qa : State → Outcome → State → Prop) (XC : String → State → State → Prop) (free : Addr → Prop) : Prop :=
  ∀ T : State, T.heap = H → Stand p l e R s m args below meth c T locs cells slots →
    (∃ (v : Option Value) (st₀ t T' : State) (L : List Loc), st₀.heap = H ∧ Stand p l e R s m args below meth c T' (locs ++ L) (cells + mc) (slots + ms) ∧ (∀ q ∈ L, free q.base) ∧ T'.heap = t.heap ∧ T'.vm = t.vm ∧ Qa st₀ (.returned v) t ∧
      Goes p e below T g T' { g with pc := g.pc + 3, stack := v.toList ++ rest }) ∨
    (∃ (q : Addr) (st₀ t T' : State) (L : List Loc) (E : String) (ce : Cell), st₀.heap = H ∧ Stand p l e R s m args below meth c T' (locs ++ L) (cells + mc) (slots + ms) ∧ (∀ z ∈ L, free z.base) ∧ T'.heap = t.heap ∧ T'.vm = t.vm ∧ XC E st₀ t ∧ t.heap[q]? = some ce ∧ ce.vm = .none ∧ s.vm.findClass E = some ce.cls ∧
      Steps p.tables e below (T.setTop g) ((T'.setTop { g with stack := rest }).pushFrame (.throwing q)))
def vx_X {S : Type} (px : S → Prop) (B : String → S → State → Prop) (A : Nat → Prop) : String → State → State → Prop := fun E st t => ∃ u : S, px u ∧ B E u t ∧ va_F A st t
section Runs
variable {p : Program} {l : Launch} {e : Env} {R : Room} {s : State} {m : MethodId} {args : Array Value} {below : List Frame} {meth : Method} {c : Code} {H : Heap} {locs : List Loc} {cells slots : Nat}
variable {y : MethodName} {bytes cc : ByteArray} {maxL nL mc ms n index : Nat} {ret : Option FieldType} {ws : List Cond} {rm : Room} {Pc : Array Value → State → Prop} {Qc : Array Value → State → Outcome → State → Prop} {XC : String → State → State → Prop} {free : Addr → Prop} {Ts : List Cond} {own C : String} {b : Addr} {As rest : List Value} {g : JFrame}
theorem vx_callBack (cb : CallB R s args own index y bytes maxL ret ws rm mc ms n) (hM : vx_Met l y ws rm Pc Qc XC mc ms free) (hbl : FrameBlind Pc) : vx_Back l R p e below s args y 3 8 (PreOf R mc ms Pc) (PostOf Qc mc ms free) (vx_Post XC mc ms free) := by
  obtain ⟨hrc, hrs, hfr, hlo, hws, hcw, -, hini, -⟩ := cb
  exact vx_back (bytes := bytes) (maxL := maxL) (ret := ret) hM hbl hrc hrs hfr hlo hws hcw (fun a' U hW => word_at hW (Or.inl (by first | rfl | simp [Cond.onTables, Cond.keeps, Cond.steady])) hini)
theorem vx_runV (S : CallFix p m c cc nL s args Ts own) (hM : vx_Met l y ws rm Pc Qc XC mc ms free) (cw : CallW R s args own C index y bytes maxL ret ws rm mc ms n) (hp : PreV s H C b Pc As)
    (hg : g.method = m) (hn : As.length = n) (hsize : g.locals.size = nL) (hstack : g.stack = As.reverse ++ .ref b :: rest) (hW : 2 * g.monitorRoom + (rest.map fun v => v.category).sum ≤ 8) (hdg : decode cc g.pc = .ok (.invokevirtual index, 3)) (hf : cells + mc ≤ R.cells ∧ slots + ms ≤ R.slots) :
    vx_Run p l e R s m args below meth c H locs cells slots mc ms g rest (Qc (Value.ref b :: As).toArray) XC free := by
  have hK : vx_Back l R p e below s args y 3 8 (PreOf R mc ms Pc) (PostOf Qc mc ms free) (vx_Post XC mc ms free) := vx_callBack cw.1 hM hp.1
  obtain ⟨⟨-, -, -, -, -, -, hcode, -, hy, hlen, hl⟩, hin, hse⟩ := cw
  obtain ⟨hx, hb, hml, ho, -⟩ := S
  obtain ⟨-, ⟨cellB, hcB, hoB, hclB⟩, hPc⟩ := hp
  intro T hT X
  rcases vx_callV X hx (C := C) (bytes := bytes) (maxL := maxL) (ret := ret) ho hl hin hse hcode hy hK (by rw [hT]; exact hcB) hoB hclB hg (hsize.trans hml.symm) (argsL := As) (rest := rest) (fun sig h => hn.trans (hlen sig h)) hstack hW (by rw [hb]; exact hdg)
    (fun vm₁ hW₁ => ⟨hf.1, hf.2, hPc (T.setVm vm₁) hT hW₁⟩) with ⟨v, vm₁, ⟨U', l2, c2, s2⟩, hW₁, X', ⟨g', mk, t, L, e1, e2, hq, h1, hL, h2, h3⟩, st⟩ | ⟨q, vm₁, ⟨U', l2, c2, s2⟩, hW₁, X', ⟨g', mk, t, L, E, ce, e1, e2, hq, hce, hcv, hcl, h1, hL, h2, h3⟩, st⟩
  · dsimp only [Pt.U, Pt.locs, Pt.cells, Pt.slots] at X' e1 e2 h1 h2 h3 st
    subst h1; subst h2; subst h3
    exact Or.inl ⟨v, (T.setVm vm₁).calling g' mk (Value.ref b :: As).toArray, t, U', L, hT, X', hL, e1, e2, hq, st⟩
  · dsimp only [Pt.U, Pt.locs, Pt.cells, Pt.slots] at X' e1 e2 h1 h2 h3 st hcl
    subst h1; subst h2; subst h3
    exact Or.inr ⟨q, (T.setVm vm₁).calling g' mk (Value.ref b :: As).toArray, t, U', L, E, ce, hT, X', hL, e1, e2, hq, hce, hcv, vx_cls hW₁ hcl, st⟩
theorem vx_runS (S : CallFix p m c cc nL s args Ts own) (hM : vx_Met l y ws rm Pc Qc XC mc ms free) (cw : CallB R s args own index y bytes maxL ret ws rm mc ms n ∧ (Cond.static y).before args s = true) (hp : PreS s H Pc As)
    (hg : g.method = m) (hn : As.length = n) (hsize : g.locals.size = nL) (hstack : g.stack = As.reverse ++ rest) (hW : 2 * g.monitorRoom + (rest.map fun v => v.category).sum ≤ 8) (hdg : decode cc g.pc = .ok (.invokestatic index, 3)) (hf : cells + mc ≤ R.cells ∧ slots + ms ≤ R.slots) :
    vx_Run p l e R s m args below meth c H locs cells slots mc ms g rest (Qc As.toArray) XC free := by
  have hK : vx_Back l R p e below s args y 3 8 (PreOf R mc ms Pc) (PostOf Qc mc ms free) (vx_Post XC mc ms free) := vx_callBack cw.1 hM hp.1
  obtain ⟨⟨-, -, -, -, -, -, hcode, hini, hy, hlen, hl⟩, hstt⟩ := cw
  obtain ⟨hx, hb, hml, ho, -⟩ := S
  intro T hT X
  rcases vx_callS X hx (bytes := bytes) (maxL := maxL) (ret := ret) ho hl hstt hini hcode hy hK hg (hsize.trans hml.symm) (argsL := As) (rest := rest) (fun sig h => hn.trans (hlen sig h)) hstack hW (by rw [hb]; exact hdg)
    (fun vm₁ hW₁ => ⟨hf.1, hf.2, hp.2 (T.setVm vm₁) hT hW₁⟩) with ⟨v, vm₁, ⟨U', l2, c2, s2⟩, hW₁, X', ⟨g', mk, t, L, e1, e2, hq, h1, hL, h2, h3⟩, st⟩ | ⟨q, vm₁, ⟨U', l2, c2, s2⟩, hW₁, X', ⟨g', mk, t, L, E, ce, e1, e2, hq, hce, hcv, hcl, h1, hL, h2, h3⟩, st⟩
  · dsimp only [Pt.U, Pt.locs, Pt.cells, Pt.slots] at X' e1 e2 h1 h2 h3 st
    subst h1; subst h2; subst h3
    exact Or.inl ⟨v, (T.setVm vm₁).calling g' mk As.toArray, t, U', L, hT, X', hL, e1, e2, hq, st⟩
  · dsimp only [Pt.U, Pt.locs, Pt.cells, Pt.slots] at X' e1 e2 h1 h2 h3 st hcl
    subst h1; subst h2; subst h3
    exact Or.inr ⟨q, (T.setVm vm₁).calling g' mk As.toArray, t, U', L, E, ce, hT, X', hL, e1, e2, hq, hce, hcv, vx_cls hW₁ hcl, st⟩
end Runs
section Rows
variable {p : Program} {l : Launch} {e : Env} {R : Room} {s : State} {m : MethodId} {args : Array Value} {below : List Frame} {meth : Method} {c : Code} {H : Heap} {locs : List Loc} {cells slots : Nat} {Q : State → Prop}
variable {mc ms : Nat} {free : Addr → Prop} {A0 A1 : Nat → Prop} {H0 : Heap} {a : Array Value} {pc : Nat} {ls : Array Slot} {st0 rest : List Value}
theorem vx_keep {st₀ t T' : State} {L : List Loc} (h0 : st₀.heap = H) (e1 : T'.heap = t.heap) (hS : va_S A0 H0 H locs) (hA : ∀ q, q < H.size → A1 q → A0 q) (hf : ∀ q, free q → A0 q) (hL : ∀ q ∈ L, free q.base) (hF : va_F A1 st₀ t) :
    H.size ≤ T'.heap.size ∧ (∀ q : Nat, q < H.size → ¬ A1 q → T'.heap[q]? = H[q]?) ∧ va_S A0 H0 T'.heap (locs ++ L) := by
  obtain ⟨hz, hk⟩ := hF
  rw [h0] at hz hk
  exact ⟨by rw [e1]; exact hz, fun q h1 h2 => by rw [e1]; exact hk q h1 h2,
    ⟨Nat.le_trans hS.1 (by rw [e1]; exact hz), fun q h1 h2 => by rw [e1, hk q (Nat.lt_of_lt_of_le h1 hS.1) (fun z => h2 (hA q (Nat.lt_of_lt_of_le h1 hS.1) z))]; exact hS.2.1 q h1 h2, fun q hq => by
      rcases List.mem_append.mp hq with h | h
      · exact hS.2.2 q h
      · exact hf _ (hL q h)⟩⟩
theorem vx_calli {S SX : Type} {post : Int32 → S → Prop} {px : SX → Prop} {B : S → State → Prop} {BX : String → SX → State → Prop} {AX : Nat → Prop} (hr : vx_Run p l e R s m args below meth c H locs cells slots mc ms (F0 m pc ls st0) rest (va_Qi post B A1 a) (vx_X px BX AX) free) (hS : va_S A0 H0 H locs) (hA : ∀ q, q < H.size → A1 q → A0 q) (hf : ∀ q, free q → A0 q) (hAX : ∀ q, q < H.size → AX q → A0 q)
    (kx : ∀ (E : String) (ce : Cell) (q9 : Addr) (u : SX) (t : State) (H1 : Heap) (locs1 : List Loc), t.heap = H1 → s.vm.Alike t.vm → px u → BX E u t → H.size ≤ H1.size → (∀ q : Nat, q < H.size → ¬ AX q → H1[q]? = H[q]?) → va_S A0 H0 H1 locs1 → H1[q9]? = some ce → ce.vm = .none → s.vm.findClass E = some ce.cls → vx_W p l e R s m args below meth c H1 locs1 (cells + mc) (slots + ms) Q (F0 m pc ls rest) q9)
    (kk : ∀ (r : Int32) (u : S) (t : State) (H1 : Heap) (locs1 : List Loc), t.heap = H1 → s.vm.Alike t.vm → post r u → B u t → H.size ≤ H1.size → (∀ q : Nat, q < H.size → ¬ A1 q → H1[q]? = H[q]?) → va_S A0 H0 H1 locs1 → W p l e R s m args below meth c H1 locs1 (cells + mc) (slots + ms) Q (F0 m (pc + 3) ls (.int r :: rest))) : W p l e R s m args below meth c H locs cells slots Q (F0 m pc ls st0) := by
  intro T hT X
  rcases hr T hT X with ⟨v, st₀, t, T', L, h0, X', hL, e1, e2, ⟨⟨r, u, hv, hp, hb⟩, hF⟩, st⟩ | ⟨q, st₀, t, T', L, E, ce, h0, X', hL, e1, e2, ⟨u, hp, hb, hF⟩, hce, hcv, hcl, st⟩
  · cases hv
    obtain ⟨k1, k2, k3⟩ := vx_keep h0 e1 hS hA hf hL hF
    obtain ⟨t2, a1, b1⟩ := kk r u t T'.heap (locs ++ L) e1.symm (by rw [← e2]; exact X'.warmed.alike) hp hb k1 k2 k3 T' rfl X'
    exact ⟨t2, st t2 a1, b1⟩
  · obtain ⟨k1, k2, k3⟩ := vx_keep h0 e1 hS hAX hf hL hF
    obtain ⟨t2, a1, b1⟩ := kx E ce q u t T'.heap (locs ++ L) e1.symm (by rw [← e2]; exact X'.warmed.alike) hp hb k1 k2 k3 (by rw [e1]; exact hce) hcv hcl T' rfl X'
    exact ⟨t2, st.trans a1, b1⟩
theorem vx_calll {S SX : Type} {post : Int64 → S → Prop} {px : SX → Prop} {B : S → State → Prop} {BX : String → SX → State → Prop} {AX : Nat → Prop} (hr : vx_Run p l e R s m args below meth c H locs cells slots mc ms (F0 m pc ls st0) rest (va_Ql post B A1 a) (vx_X px BX AX) free) (hS : va_S A0 H0 H locs) (hA : ∀ q, q < H.size → A1 q → A0 q) (hf : ∀ q, free q → A0 q) (hAX : ∀ q, q < H.size → AX q → A0 q)
    (kx : ∀ (E : String) (ce : Cell) (q9 : Addr) (u : SX) (t : State) (H1 : Heap) (locs1 : List Loc), t.heap = H1 → s.vm.Alike t.vm → px u → BX E u t → H.size ≤ H1.size → (∀ q : Nat, q < H.size → ¬ AX q → H1[q]? = H[q]?) → va_S A0 H0 H1 locs1 → H1[q9]? = some ce → ce.vm = .none → s.vm.findClass E = some ce.cls → vx_W p l e R s m args below meth c H1 locs1 (cells + mc) (slots + ms) Q (F0 m pc ls rest) q9)
    (kk : ∀ (r : Int64) (u : S) (t : State) (H1 : Heap) (locs1 : List Loc), t.heap = H1 → s.vm.Alike t.vm → post r u → B u t → H.size ≤ H1.size → (∀ q : Nat, q < H.size → ¬ A1 q → H1[q]? = H[q]?) → va_S A0 H0 H1 locs1 → W p l e R s m args below meth c H1 locs1 (cells + mc) (slots + ms) Q (F0 m (pc + 3) ls (.long r :: rest))) : W p l e R s m args below meth c H locs cells slots Q (F0 m pc ls st0) := by
  intro T hT X
  rcases hr T hT X with ⟨v, st₀, t, T', L, h0, X', hL, e1, e2, ⟨⟨r, u, hv, hp, hb⟩, hF⟩, st⟩ | ⟨q, st₀, t, T', L, E, ce, h0, X', hL, e1, e2, ⟨u, hp, hb, hF⟩, hce, hcv, hcl, st⟩
  · cases hv
    obtain ⟨k1, k2, k3⟩ := vx_keep h0 e1 hS hA hf hL hF
    obtain ⟨t2, a1, b1⟩ := kk r u t T'.heap (locs ++ L) e1.symm (by rw [← e2]; exact X'.warmed.alike) hp hb k1 k2 k3 T' rfl X'
    exact ⟨t2, st t2 a1, b1⟩
  · obtain ⟨k1, k2, k3⟩ := vx_keep h0 e1 hS hAX hf hL hF
    obtain ⟨t2, a1, b1⟩ := kx E ce q u t T'.heap (locs ++ L) e1.symm (by rw [← e2]; exact X'.warmed.alike) hp hb k1 k2 k3 (by rw [e1]; exact hce) hcv hcl T' rfl X'
    exact ⟨t2, st.trans a1, b1⟩
theorem vx_callf {S SX : Type} {post : UInt32 → S → Prop} {px : SX → Prop} {B : S → State → Prop} {BX : String → SX → State → Prop} {AX : Nat → Prop} (hr : vx_Run p l e R s m args below meth c H locs cells slots mc ms (F0 m pc ls st0) rest (va_Qf post B A1 a) (vx_X px BX AX) free) (hS : va_S A0 H0 H locs) (hA : ∀ q, q < H.size → A1 q → A0 q) (hf : ∀ q, free q → A0 q) (hAX : ∀ q, q < H.size → AX q → A0 q)
    (kx : ∀ (E : String) (ce : Cell) (q9 : Addr) (u : SX) (t : State) (H1 : Heap) (locs1 : List Loc), t.heap = H1 → s.vm.Alike t.vm → px u → BX E u t → H.size ≤ H1.size → (∀ q : Nat, q < H.size → ¬ AX q → H1[q]? = H[q]?) → va_S A0 H0 H1 locs1 → H1[q9]? = some ce → ce.vm = .none → s.vm.findClass E = some ce.cls → vx_W p l e R s m args below meth c H1 locs1 (cells + mc) (slots + ms) Q (F0 m pc ls rest) q9)
    (kk : ∀ (r : UInt32) (u : S) (t : State) (H1 : Heap) (locs1 : List Loc), t.heap = H1 → s.vm.Alike t.vm → post r u → B u t → H.size ≤ H1.size → (∀ q : Nat, q < H.size → ¬ A1 q → H1[q]? = H[q]?) → va_S A0 H0 H1 locs1 → W p l e R s m args below meth c H1 locs1 (cells + mc) (slots + ms) Q (F0 m (pc + 3) ls (.float r :: rest))) : W p l e R s m args below meth c H locs cells slots Q (F0 m pc ls st0) := by
  intro T hT X
  rcases hr T hT X with ⟨v, st₀, t, T', L, h0, X', hL, e1, e2, ⟨⟨r, u, hv, hp, hb⟩, hF⟩, st⟩ | ⟨q, st₀, t, T', L, E, ce, h0, X', hL, e1, e2, ⟨u, hp, hb, hF⟩, hce, hcv, hcl, st⟩
  · cases hv
    obtain ⟨k1, k2, k3⟩ := vx_keep h0 e1 hS hA hf hL hF
    obtain ⟨t2, a1, b1⟩ := kk r u t T'.heap (locs ++ L) e1.symm (by rw [← e2]; exact X'.warmed.alike) hp hb k1 k2 k3 T' rfl X'
    exact ⟨t2, st t2 a1, b1⟩
  · obtain ⟨k1, k2, k3⟩ := vx_keep h0 e1 hS hAX hf hL hF
    obtain ⟨t2, a1, b1⟩ := kx E ce q u t T'.heap (locs ++ L) e1.symm (by rw [← e2]; exact X'.warmed.alike) hp hb k1 k2 k3 (by rw [e1]; exact hce) hcv hcl T' rfl X'
    exact ⟨t2, st.trans a1, b1⟩
theorem vx_calld {S SX : Type} {post : UInt64 → S → Prop} {px : SX → Prop} {B : S → State → Prop} {BX : String → SX → State → Prop} {AX : Nat → Prop} (hr : vx_Run p l e R s m args below meth c H locs cells slots mc ms (F0 m pc ls st0) rest (va_Qd post B A1 a) (vx_X px BX AX) free) (hS : va_S A0 H0 H locs) (hA : ∀ q, q < H.size → A1 q → A0 q) (hf : ∀ q, free q → A0 q) (hAX : ∀ q, q < H.size → AX q → A0 q)
    (kx : ∀ (E : String) (ce : Cell) (q9 : Addr) (u : SX) (t : State) (H1 : Heap) (locs1 : List Loc), t.heap = H1 → s.vm.Alike t.vm → px u → BX E u t → H.size ≤ H1.size → (∀ q : Nat, q < H.size → ¬ AX q → H1[q]? = H[q]?) → va_S A0 H0 H1 locs1 → H1[q9]? = some ce → ce.vm = .none → s.vm.findClass E = some ce.cls → vx_W p l e R s m args below meth c H1 locs1 (cells + mc) (slots + ms) Q (F0 m pc ls rest) q9)
    (kk : ∀ (r : UInt64) (u : S) (t : State) (H1 : Heap) (locs1 : List Loc), t.heap = H1 → s.vm.Alike t.vm → post r u → B u t → H.size ≤ H1.size → (∀ q : Nat, q < H.size → ¬ A1 q → H1[q]? = H[q]?) → va_S A0 H0 H1 locs1 → W p l e R s m args below meth c H1 locs1 (cells + mc) (slots + ms) Q (F0 m (pc + 3) ls (.double r :: rest))) : W p l e R s m args below meth c H locs cells slots Q (F0 m pc ls st0) := by
  intro T hT X
  rcases hr T hT X with ⟨v, st₀, t, T', L, h0, X', hL, e1, e2, ⟨⟨r, u, hv, hp, hb⟩, hF⟩, st⟩ | ⟨q, st₀, t, T', L, E, ce, h0, X', hL, e1, e2, ⟨u, hp, hb, hF⟩, hce, hcv, hcl, st⟩
  · cases hv
    obtain ⟨k1, k2, k3⟩ := vx_keep h0 e1 hS hA hf hL hF
    obtain ⟨t2, a1, b1⟩ := kk r u t T'.heap (locs ++ L) e1.symm (by rw [← e2]; exact X'.warmed.alike) hp hb k1 k2 k3 T' rfl X'
    exact ⟨t2, st t2 a1, b1⟩
  · obtain ⟨k1, k2, k3⟩ := vx_keep h0 e1 hS hAX hf hL hF
    obtain ⟨t2, a1, b1⟩ := kx E ce q u t T'.heap (locs ++ L) e1.symm (by rw [← e2]; exact X'.warmed.alike) hp hb k1 k2 k3 (by rw [e1]; exact hce) hcv hcl T' rfl X'
    exact ⟨t2, st.trans a1, b1⟩
theorem vx_callv {S SX : Type} {post : S → Prop} {px : SX → Prop} {B : S → State → Prop} {BX : String → SX → State → Prop} {AX : Nat → Prop} (hr : vx_Run p l e R s m args below meth c H locs cells slots mc ms (F0 m pc ls st0) rest (va_Qv post B A1 a) (vx_X px BX AX) free) (hS : va_S A0 H0 H locs) (hA : ∀ q, q < H.size → A1 q → A0 q) (hf : ∀ q, free q → A0 q) (hAX : ∀ q, q < H.size → AX q → A0 q)
    (kx : ∀ (E : String) (ce : Cell) (q9 : Addr) (u : SX) (t : State) (H1 : Heap) (locs1 : List Loc), t.heap = H1 → s.vm.Alike t.vm → px u → BX E u t → H.size ≤ H1.size → (∀ q : Nat, q < H.size → ¬ AX q → H1[q]? = H[q]?) → va_S A0 H0 H1 locs1 → H1[q9]? = some ce → ce.vm = .none → s.vm.findClass E = some ce.cls → vx_W p l e R s m args below meth c H1 locs1 (cells + mc) (slots + ms) Q (F0 m pc ls rest) q9)
    (kk : ∀ (u : S) (t : State) (H1 : Heap) (locs1 : List Loc), t.heap = H1 → s.vm.Alike t.vm → post u → B u t → H.size ≤ H1.size → (∀ q : Nat, q < H.size → ¬ A1 q → H1[q]? = H[q]?) → va_S A0 H0 H1 locs1 → W p l e R s m args below meth c H1 locs1 (cells + mc) (slots + ms) Q (F0 m (pc + 3) ls (rest))) : W p l e R s m args below meth c H locs cells slots Q (F0 m pc ls st0) := by
  intro T hT X
  rcases hr T hT X with ⟨v, st₀, t, T', L, h0, X', hL, e1, e2, ⟨⟨u, hv, hp, hb⟩, hF⟩, st⟩ | ⟨q, st₀, t, T', L, E, ce, h0, X', hL, e1, e2, ⟨u, hp, hb, hF⟩, hce, hcv, hcl, st⟩
  · cases hv
    obtain ⟨k1, k2, k3⟩ := vx_keep h0 e1 hS hA hf hL hF
    obtain ⟨t2, a1, b1⟩ := kk u t T'.heap (locs ++ L) e1.symm (by rw [← e2]; exact X'.warmed.alike) hp hb k1 k2 k3 T' rfl X'
    exact ⟨t2, st t2 a1, b1⟩
  · obtain ⟨k1, k2, k3⟩ := vx_keep h0 e1 hS hAX hf hL hF
    obtain ⟨t2, a1, b1⟩ := kx E ce q u t T'.heap (locs ++ L) e1.symm (by rw [← e2]; exact X'.warmed.alike) hp hb k1 k2 k3 (by rw [e1]; exact hce) hcv hcl T' rfl X'
    exact ⟨t2, st.trans a1, b1⟩
/-- caught by the row x of this method's table; the rows ahead don't take it -/
theorem vx_catch {own name : String} {E : String} {ce : Cell} {q : Addr} (hown : s.vm.findClass own = some m.cls) (pre : List ExceptionTableEntry) (x : ExceptionTableEntry) (suf : List ExceptionTableEntry) (hsplit : c.exceptionTable.toList = pre ++ x :: suf)
    (hpass : ∀ z ∈ pre, covers z pc = false ∨ (z.catchType ≠ 0 ∧ ∃ nm : String, (Cond.classLink own z.catchType nm).before args s = true ∧ va_Nc E nm s)) (hx : covers x pc = true) (h0 : x.catchType ≠ 0)
    (hlink : (Cond.classLink own x.catchType name).before args s = true) (hcast : (Cond.castable E name).before args s = true) (hcell : H[q]? = some ce) (hv : ce.vm = .none) (hcl : s.vm.findClass E = some ce.cls)
    (kk : W p l e R s m args below meth c H locs cells slots Q (F0 m x.handlerPc ls [.ref q])) : vx_W p l e R s m args below meth c H locs cells slots Q (F0 m pc ls rest) q := by
  intro T hT X
  have hpl : e.platform.magicAccessors = ({} : Platform).magicAccessors := by rw [X.admits.platform]
  obtain ⟨c3, c4, hc3, hc4, hasg⟩ := Cond.castable_spec hcast
  cases Option.some.inj (hc3.symm.trans hcl)
  obtain ⟨c5, hc5, hcl5⟩ := Cond.classLink_spec hown hlink e.platform hpl
  cases Option.some.inj (hc4.symm.trans hc5)
  obtain ⟨vm', X', st⟩ := X.thenCaughtThrough q (g := F0 m pc ls rest) rfl (Steps.refl _) (by rw [hT]; exact hcell) (by rw [hv]; rfl) (by obtain ⟨k9, h9, -⟩ := Vm.findClass_spec hcl; exact ⟨k9, h9⟩) pre x suf hsplit
    (fun z hz => by
      rcases hpass z hz with h | ⟨hz0, nm, hl1, hn1⟩
      · exact Or.inl h
      · obtain ⟨c6, hc6, hcl6⟩ := Cond.classLink_spec hown hl1 e.platform hpl
        obtain ⟨a8, b8, h1, h2, h3⟩ := hn1
        cases Option.some.inj (h1.symm.trans hcl)
        cases Option.some.inj (h2.symm.trans hc6)
        exact Or.inr ⟨hz0, _, hcl6, h3⟩) hx (Or.inr ⟨h0, c4, hcl5, hasg⟩)
  obtain ⟨t, a1, b1⟩ := kk (T.setVm vm') hT X'
  exact ⟨t, st.trans a1, b1⟩
end Rows
section Ends
variable {p : Program} {l : Launch} {e : Env} {R : Room} {s : State} {m : MethodId} {args : Array Value} {below : List Frame} {meth : Method} {c : Code} {H : Heap} {locs : List Loc} {cells slots : Nat} {Q : State → Prop}
variable {mc ms : Nat} {free : Addr → Prop} {A0 A1 : Nat → Prop} {H0 : Heap} {a : Array Value} {ls : Array Slot} {st0 rest : List Value}
variable {Qc : Array Value → State → Outcome → State → Prop} {XC : String → State → State → Prop}
/-- what a body that may throw owes at its end -/
def vx_MQ (below : List Frame) (Qc : Array Value → State → Outcome → State → Prop) (XC : String → State → State → Prop) (a : Array Value) (s : State) (mc ms : Nat) (free : Addr → Prop) : State → Prop := fun t =>
  ∃ o, t.status = .running ∧ Ended t below o ∧ vx_Q Qc XC mc ms free a s o t
theorem vx_ret {g : JFrame} {mc ms : Nat} (k : W p l e R s m args below meth c H locs cells slots (MQ below Qc args s mc ms free) g) : W p l e R s m args below meth c H locs cells slots (vx_MQ below Qc XC args s mc ms free) g := by
  intro T hT X
  obtain ⟨t, a1, o, b1, b2, b3, b4⟩ := k T hT X
  exact ⟨t, a1, o, b1, b2, Or.inl ⟨b3, b4⟩⟩
/-- not caught here: it goes on to the caller -/
theorem vx_widen {g : JFrame} {q : Addr} {k n : Nat} (h1 : cells ≤ k) (h2 : slots ≤ n) (kk : vx_W p l e R s m args below meth c H locs k n Q g q) : vx_W p l e R s m args below meth c H locs cells slots Q g q := fun T hT X => kk T hT (stand_widen X h1 h2)
theorem vx_out {pc : Nat} {E : String} {ce : Cell} {q : Addr} {mc ms : Nat} (hout : ∀ x ∈ c.exceptionTable.toList, covers x pc = false) (hlocks : meth.locks = false) (hcell : H[q]? = some ce) (hv : ce.vm = .none) (hcl : s.vm.findClass E = some ce.cls)
    (hx : ∀ t : State, t.heap = H → s.vm.Alike t.vm → XC E s t) (hf : ∀ z ∈ locs, free z.base) (hc : cells ≤ mc) (hs : slots ≤ ms) :
    vx_W p l e R s m args below meth c H locs cells slots (vx_MQ below Qc XC args s mc ms free) (F0 m pc ls rest) q := by
  intro T hT X
  obtain ⟨st1, hrun, hend, hW, hsm⟩ := X.leaveThrown q (g := F0 m pc ls rest) rfl rfl rfl hout hlocks
  have hcell9 : (T.setFrames (.throwing q :: below)).heap[q]? = some ce := by
    show T.heap[q]? = some ce
    rw [hT]; exact hcell
  exact ⟨_, st1, .threw q, hrun, hend, Or.inr ⟨q, rfl, E, ce, locs, hx _ hT hW.alike, hcell9, hv, hcl, hW, hsm.mono hc hs, hf⟩⟩
theorem vx_frame {U : State} {k n : Nat} (h : s.sameButNew ({ U with vm := s.vm } : State) locs k n) : s.heap.size ≤ U.heap.size ∧ ∀ q : Nat, q < s.heap.size → (∀ z ∈ locs, z.base ≠ q) → U.heap[q]? = s.heap[q]? := by
  obtain ⟨-, h2, -, -, -, h6⟩ := h
  refine ⟨h2, fun q hq hz => ?_⟩
  obtain ⟨c9, e1, e2, e3, e4⟩ := h6 q _ (Array.getElem?_eq_getElem hq)
  have hs : c9.slots = (s.heap[q]).slots := Array.ext_getElem? fun i => e4 i fun hm => hz _ hm rfl
  have h9 : c9 = s.heap[q] := by
    rw [hs] at e2
    exact e2
  have e5 : U.heap[q]? = some c9 := e1
  rw [e5, h9, Array.getElem?_eq_getElem hq]
/-- the words of a throw but the four that speak of the heap -/
def vx_no (w : Cond) : Bool := decide (w ≠ .isRef (.static Bundle.tN "UNASSIGNED_STACK" Bundle.steD)) && decide (w ≠ .isRef (.static Bundle.tN "SUPPRESSED_SENTINEL" Bundle.listD)) && decide (w ≠ .laysStatic Bundle.tN "UNASSIGNED_STACK" Bundle.steD) && decide (w ≠ .laysStatic Bundle.tN "SUPPRESSED_SENTINEL" Bundle.listD)
def vx_at0 (own : String) (ic : Nat) (X : String) (names : List String) : List Cond := (Bundle.ownAtoms0 own ic X names).filter vx_no
def vx_atS (own : String) (ic : Nat) (X : String) (names : List String) : List Cond := (Bundle.ownAtoms own ic X names).filter vx_no
/-- a word that the tables alone decide, or a good one -/
def vx_ot (w : Cond) : Bool := w.onTables || goodWord w
theorem vx_ot_at {args a' : Array Value} {s U : State} {w : Cond} (hW : s.WarmedH U.vm) (hvm : s.vm = U.vm) (hg : vx_ot w = true) (h : w.before args s = true) : w.before a' U = true := by
  simp only [vx_ot, Bool.or_eq_true] at hg
  rcases hg with hg | hg
  · exact va_tabs hg hvm h
  · exact word_at hW (good_of_word hg) h
/-- a list's words: the good ones out of the method's own list, the others by premises of their own -/
theorem vx_hat {args : Array Value} {s : State} {L B : List Cond} (h1 : ∀ w ∈ L.filter goodWord, w.before args s = true) (h2 : ∀ w ∈ L.filter (fun w => !goodWord w), w ∈ B) (h3 : ∀ w ∈ B, w.before args s = true) : ∀ w ∈ L, w.before args s = true := by
  intro w hw
  by_cases g : goodWord w = true
  · exact h1 w (List.mem_filter.mpr ⟨hw, g⟩)
  · refine h3 w (h2 w (List.mem_filter.mpr ⟨hw, ?_⟩))
    show (!goodWord w) = true
    cases hgw : goodWord w
    · rfl
    · exact absurd hgw g
theorem vx_c {args : Array Value} {s : State} {w : Cond} {B : List Cond} (h : w.before args s = true) (t : ∀ w ∈ B, w.before args s = true) : ∀ w' ∈ w :: B, w'.before args s = true := fun w' h' => (List.mem_cons.mp h').elim (fun e => by rw [e]; exact h) (t w')
theorem vx_n {args : Array Value} {s : State} : ∀ w ∈ ([] : List Cond), w.before args s = true := fun _ h => nomatch h
theorem vx_own {args : Array Value} {s : State} {L : List Cond} (h1 : ∀ w ∈ L.filter vx_no, w.before args s = true)
    (hU : (Cond.isRef (.static Bundle.tN "UNASSIGNED_STACK" Bundle.steD)).before args s = true) (hN : (Cond.isRef (.static Bundle.tN "SUPPRESSED_SENTINEL" Bundle.listD)).before args s = true)
    (lU : (Cond.laysStatic Bundle.tN "UNASSIGNED_STACK" Bundle.steD).before args s = true) (lN : (Cond.laysStatic Bundle.tN "SUPPRESSED_SENTINEL" Bundle.listD).before args s = true) : ∀ w ∈ L, w.before args s = true := by
  intro w hw
  by_cases e1 : w = .isRef (.static Bundle.tN "UNASSIGNED_STACK" Bundle.steD)
  · rw [e1]; exact hU
  · by_cases e2 : w = .isRef (.static Bundle.tN "SUPPRESSED_SENTINEL" Bundle.listD)
    · rw [e2]; exact hN
    · by_cases e3 : w = .laysStatic Bundle.tN "UNASSIGNED_STACK" Bundle.steD
      · rw [e3]; exact lU
      · by_cases e4 : w = .laysStatic Bundle.tN "SUPPRESSED_SENTINEL" Bundle.listD
        · rw [e4]; exact lN
        · exact h1 w (List.mem_filter.mpr ⟨hw, by unfold vx_no; rw [decide_eq_true e1, decide_eq_true e2, decide_eq_true e3, decide_eq_true e4]; rfl⟩)
/-- where a static field lies, its class's statics cell in H -/
def vx_L (C n d : String) (A : Nat → Prop) (U : State) (H : Heap) : Prop := ∃ (c : ClassId) (k : Class) (i : Nat) (f : Field) (a : Nat) (cell : Cell), U.vm.findClass C = some c ∧ U.fieldFound? C n d = some (c, k, i, f) ∧ f.isStatic = true ∧ k.statics = some a ∧ H[a]? = some cell ∧ cell.vm.isStatics = true ∧ cell.cls = c ∧ f.slot < cell.slots.size ∧ k.staticTypes[f.slot]? = some f.type ∧ ¬ A a
theorem vx_L.moved {C n d : String} {A : Nat → Prop} {u U : State} {H : Heap} (hvm : u.vm.Alike U.vm) (h : vx_L C n d A u H) : vx_L C n d A U H := by
  obtain ⟨c, k, i, f, a, cell, h1, h2, h3, h4, h5, h6, h7, h8, h9, h10⟩ := h
  obtain ⟨k', hi', he⟩ := State.fieldFound?_setVm hvm h2
  exact ⟨c, k', i, f, a, cell, by rw [hvm.findClass]; exact h1, hi', h3, by rw [he]; exact h4, h5, h6, h7, h8, by rw [he]; exact h9, h10⟩
theorem vx_L.kept {C n d : String} {A : Nat → Prop} {U : State} {H H1 : Heap} (h : vx_L C n d A U H) (hq : ∀ a : Nat, a < H.size → ¬ A a → H1[a]? = H[a]?) : vx_L C n d A U H1 := by
  obtain ⟨c, k, i, f, a, cell, h1, h2, h3, h4, h5, h6, h7, h8, h9, h10⟩ := h
  exact ⟨c, k, i, f, a, cell, h1, h2, h3, h4, by rw [hq a (Array.getElem?_eq_some_iff.mp h5).1 h10]; exact h5, h6, h7, h8, h9, h10⟩
theorem vx_L.narrow {C n d : String} {A B : Nat → Prop} {U : State} {H : Heap} (h : vx_L C n d A U H) (hAB : ∀ q, B q → A q) : vx_L C n d B U H := by
  obtain ⟨c, k, i, f, a, cell, h1, h2, h3, h4, h5, h6, h7, h8, h9, h10⟩ := h
  exact ⟨c, k, i, f, a, cell, h1, h2, h3, h4, h5, h6, h7, h8, h9, fun z => h10 (hAB _ z)⟩
theorem vx_L.word {C n d : String} {A : Nat → Prop} {s : State} {args : Array Value} (h : vx_L C n d A s s.heap) : (Cond.laysStatic C n d).before args s = true := by
  obtain ⟨c, k, i, f, a, cell, h1, h2, h3, h4, h5, h6, h7, h8, h9, -⟩ := h
  show (Cond.laysStatic C n d).holds args s none s [] = true
  exact Cond.laysStatic_of h1 h2 h3 h4 h5 h6 h7 h8 h9
/-- .. and what it holds: null or some reference -/
def vx_Zq (C n d : String) (A : Nat → Prop) (U : State) (H : Heap) : Prop := va_Zq C n d A U H ∧ vx_L C n d A U H
theorem vx_Zq.moved {C n d : String} {A : Nat → Prop} {u U : State} {H : Heap} (hvm : u.vm.Alike U.vm) (h : vx_Zq C n d A u H) : vx_Zq C n d A U H := ⟨va_Zq.moved hvm h.1, vx_L.moved hvm h.2⟩
theorem vx_Zq.kept {C n d : String} {A : Nat → Prop} {U : State} {H H1 : Heap} (h : vx_Zq C n d A U H) (hq : ∀ a : Nat, a < H.size → ¬ A a → H1[a]? = H[a]?) : vx_Zq C n d A U H1 := ⟨va_Zq.kept h.1 hq, vx_L.kept h.2 hq⟩
theorem vx_Zq.narrow {C n d : String} {A B : Nat → Prop} {U : State} {H : Heap} (h : vx_Zq C n d A U H) (hAB : ∀ q, B q → A q) : vx_Zq C n d B U H := ⟨va_Zq.narrow h.1 hAB, vx_L.narrow h.2 hAB⟩
theorem vx_Zqof {args : Array Value} {s : State} {C n d : String} {A : Nat → Prop} (hl : (Cond.laysStatic C n d).before args s = true) (hini : (Cond.initialized C).before args s = true) (h : (Cond.isRef (.static C n d)).before args s = true) (hA : ∀ a : Nat, a < s.heap.size → ¬ A a) : vx_Zq C n d A s s.heap := by
  refine ⟨va_Zqof hl hini h hA, ?_⟩
  obtain ⟨c, k, i, f, a, cell, h1, h2, h3, h4, h5, h6, h7, h8, h9⟩ := Cond.laysStatic_spec hl
  exact ⟨c, k, i, f, a, cell, h1, h2, h3, h4, h5, h6, h7, h8, h9, hA a (Array.getElem?_eq_some_iff.mp h5).1⟩
theorem vx_isRef {C n d : String} {v : Value} {A : Nat → Prop} {s : State} {args : Array Value} (h : va_Z C n d v A s s.heap) (hv : v.isRef = true) : (Cond.isRef (.static C n d)).before args s = true := by
  obtain ⟨cf, kf, fi, f, a, cell, h1, h2, h3, h4, h5, h6, h7, -⟩ := h
  have he : (Term.static C n d).eval args s none [] s = some v := by
    simp [Term.eval, State.fieldNamed?, h1, h2, h4, h5, h6, h7]
  simp only [Cond.before, Cond.holds, Cond.value, he]
  cases v <;> simp_all [Value.isRef]
theorem vx_isRefq {C n d : String} {A : Nat → Prop} {s : State} {args : Array Value} (h : va_Zq C n d A s s.heap) : (Cond.isRef (.static C n d)).before args s = true := by
  rcases h with h | ⟨t, h⟩
  · exact vx_isRef h rfl
  · exact vx_isRef h rfl
/-- the same frame, seen from here: as if the method were called anew in this heap -/
theorem vx_rebase {T : State} (X : Stand p l e R s m args below meth c T locs cells slots) {R' : Room} (hf : R'.frames ≤ R.frames) (hl : R'.locals ≤ R.locals) (hc : cells + R'.cells ≤ R.cells) (hs : slots + R'.slots ≤ R.slots) :
    Stand p l e R' ((T.setVm s.vm).setFrames (.invoking m args :: below)) m args below meth c T [] 0 0 := by
  have htop : (T.setVm s.vm).topJava?.isSome := X.here.top
  have hF : ((T.setVm s.vm).setFrames (.invoking m args :: below)).frames = .invoking m args :: below := State.frames_setFrames _ (State.cur_lt_of_top htop)
  obtain ⟨g₀, hg0⟩ := Option.isSome_iff_exists.mp htop
  obtain ⟨r, hr⟩ := State.topJava?_eq_some.mp hg0
  have hl9 : e.platform.stackLimits (T.setVm s.vm).me = e.platform.stackLimits s.me := X.limits
  have hb9 : (T.setVm s.vm).me.stackBytes = s.me.stackBytes := X.bytes
  refine ⟨X.admits, X.cas, X.clock, hF, ?_, X.hears, X.method, X.code, X.here, X.tail, X.warmed, ?_, ?_, ?_⟩
  · have h := X.room
    have hU : ((T.setVm s.vm).setFrames (.invoking m args :: below)).localsInUse = s.localsInUse := by
      rw [State.localsInUse_invoking hF (meth := meth) (c := c) X.method X.code, State.localsInUse_invoking X.frames X.method X.code]
    simp only [State.hasRoom, Bool.and_eq_true, decide_eq_true_eq] at h ⊢
    obtain ⟨⟨⟨⟨h1, h2, h3, h4, h5, h6⟩, h7⟩, h8⟩, h9⟩ := h
    rw [X.frames, List.length_cons] at h2 h3
    have q1 := X.heapSize
    have q2 := X.used
    simp only [hF, hU, List.length_cons, State.stackLimits_setFrames, State.stackBytes_setFrames, hl9, hb9]
    refine ⟨⟨⟨⟨by omega, by omega, by omega, by omega, by omega, h6⟩, ?_⟩, ?_⟩, X.book⟩
    · show T.heap.size + R'.cells ≤ e.platform.maxCells
      omega
    · show T.slotsUsed + R'.slots ≤ e.platform.maxSlots
      omega
  · rw [State.stackLimits_setFrames]; rfl
  · rw [State.stackBytes_setFrames]; rfl
  · refine ⟨?_, Nat.le_refl _, Nat.le_refl _, ?_, ?_, fun a c9 h9 => ⟨c9, h9, rfl, rfl, fun _ _ => rfl⟩⟩
    · obtain ⟨t, ht, -⟩ := State.frames_cons hr
      show T.setVm s.vm = { ((T.setVm s.vm).setFrames (.invoking m args :: below)).setFrames (T.setVm s.vm).frames with heap := T.heap, slotsUsed := T.slotsUsed }
      rw [State.setFrames_setFrames, State.setFrames_self ht]
      rfl
    · show T.slotsUsed = T.slotsUsed + ((T.heap.toList.drop T.heap.size).map (·.slots.size)).sum
      rw [List.drop_eq_nil_of_le (Nat.le_of_eq Array.length_toList)]
      rfl
    · show ((T.heap.toList.drop T.heap.size).map (·.slots.size)).sum ≤ 0
      rw [List.drop_eq_nil_of_le (Nat.le_of_eq Array.length_toList)]
      exact Nat.le_refl _
/-- 'throw new E()': new; dup; invokespecial; athrow -/
theorem vx_throw0 {cc : ByteArray} {pc : Nat} (hexec : p.tables.exec = Jvm.exec) (hb : c.code = cc) (hl : l.stackTraces = false) {own cls : String} {names : List String} {ik ic mc ms : Nat} {A : Nat → Prop}
    (hown : s.vm.findClass own = some m.cls) (hcls : Bundle.fit cls = true) (hnames : ∀ n ∈ names, Bundle.fit n = true)
    (hk : (Cond.classLink own ik cls).before args s = true) (hini : (Cond.initialized cls).before args s = true) (hat : ∀ w ∈ vx_at0 own ic cls names, w.before args s = true)
    (hgood : ∀ w ∈ Cond.classLink own ik cls :: Cond.initialized cls :: vx_at0 own ic cls names, vx_ot w = true)
    (hU : vx_Zq Bundle.tN "UNASSIGNED_STACK" Bundle.steD A s s.heap) (hN : vx_Zq Bundle.tN "SUPPRESSED_SENTINEL" Bundle.listD A s s.heap) (hS : va_S A s.heap H locs) (hsize : ls.size = c.maxLocals)
    (d0 : decode cc pc = .ok (.new ik, 3)) (d3 : decode cc (pc + 3) = .ok (.dup, 1)) (d4 : decode cc (pc + 4) = .ok (.invokespecial ic, 3)) (d7 : decode cc (pc + 7) = .ok (.athrow, 1))
    (hout : ∀ x ∈ c.exceptionTable.toList, covers x (pc + 7) = false)
    (hRframes : names.length + 3 < R.frames) (hRlocals : (rest.map fun v => v.category).sum + (13 * (names.length + 1) + 42) ≤ R.locals) (hRcells : cells + 1 ≤ R.cells) (hRslots : slots + 6 ≤ R.slots) (hlocks : meth.locks = false)
    (hx : ∀ t : State, s.vm.Alike t.vm → H.size ≤ t.heap.size → (∀ q : Nat, q < H.size → t.heap[q]? = H[q]?) → XC cls s t)
    (hf : ∀ z ∈ locs, free z.base) (hc : cells + 1 ≤ mc) (hs : slots + 6 ≤ ms) :
    W p l e R s m args below meth c H locs cells slots (vx_MQ below Qc XC args s mc ms free) (F0 m pc ls rest) := by
  intro T hT X
  have htr : e.platform.stackTraces = false := (show e.platform.stackTraces = l.stackTraces by rw [X.admits.platform]).trans hl
  have Y := vx_rebase X (R' := { frames := R.frames, locals := R.locals, cells := 1, slots := 6 }) (Nat.le_refl _) (Nat.le_refl _) hRcells hRslots
  obtain ⟨s', hA⟩ : ∃ z, z = (T.setVm s.vm).setFrames (.invoking m args :: below) := ⟨_, rfl⟩
  rw [← hA] at Y
  have hvm : s'.vm = s.vm := by rw [hA]; rfl
  have hhp : s'.heap = H := by rw [hA]; exact hT
  have hW0 : s.WarmedH s'.vm := by rw [hvm]; exact State.WarmedH.refl s
  have hat' : ∀ w ∈ vx_at0 own ic cls names, w.before args s' = true := fun w hw => vx_ot_at hW0 hvm.symm (hgood w (List.mem_cons_of_mem _ (List.mem_cons_of_mem _ hw))) (hat w hw)
  have hk' : (Cond.classLink own ik cls).before args s' = true := vx_ot_at hW0 hvm.symm (hgood _ List.mem_cons_self) hk
  have hini' : (Cond.initialized cls).before args s' = true := vx_ot_at hW0 hvm.symm (hgood _ (List.mem_cons_of_mem _ List.mem_cons_self)) hini
  have hU' : vx_Zq Bundle.tN "UNASSIGNED_STACK" Bundle.steD A s' s'.heap := by rw [hhp]; exact vx_Zq.moved hW0.alike (hU.kept hS.2.1)
  have hN' : vx_Zq Bundle.tN "SUPPRESSED_SENTINEL" Bundle.listD A s' s'.heap := by rw [hhp]; exact vx_Zq.moved hW0.alike (hN.kept hS.2.1)
  have h : ∀ w ∈ Bundle.ownAtoms0 own ic cls names, w.before args s' = true := vx_own hat' (vx_isRefq hU'.1) (vx_isRefq hN'.1) hU'.2.word hN'.2.word
  have hown' : s'.vm.findClass own = some m.cls := by rw [hvm]; exact hown
  have hins : (Cond.instantiable cls 6).before args s' = true := h _ (by simp [Bundle.ownAtoms0])
  obtain ⟨vm₁, cX, kX, hfX, hkX, -, -, X₁, st1⟩ := Y.newCold hexec (own := own) (C := cls) (index := ik) (n := 6) hown' hk' hins hini'
    (g := F0 m pc ls rest) rfl (by rw [hb]; exact d0) (Nat.le_refl _) (Nat.le_refl _)
  generalize hT1 : (T.setVm vm₁).pushCell { cls := cX, slots := kX.instanceTypes.map defaultValue, vm := .none } = T1 at X₁ st1
  have hcat : (Value.ref T.heap.size).category = 1 := rfl
  have hcellA : T1.heap[T.heap.size]? = some (freshCell cX kX) := by rw [← hT1]; exact State.heap_pushCell_size _ _
  have d3' : decode c.code (pc + 3) = .ok (.dup, 1) := by rw [hb]; exact d3
  obtain ⟨U, hsteps, hrun, hend, hW, hsame, ce, hce, hO⟩ := X₁.ctorThrow0 hexec htr (own := own) (cls := cls) (names := names) (ic := ic) hown' hcls hnames h (fun x hx => nomatch hx) hfX hkX hcellA (by rw [hhp, hT]; exact Nat.le_refl _)
    (g := { method := m, pc := pc + 4, locals := ls, stack := .ref T.heap.size :: .ref T.heap.size :: rest, locked := none }) rfl hsize rfl rfl (rest := rest) rfl
    (by rw [hb]; exact d4) (by rw [hb]; exact d7) hout hRframes (by simp only [List.map_cons, List.sum_cons, hcat]; omega) hlocks
  obtain ⟨f1, f2⟩ := vx_frame hsame
  rw [hhp] at f1 f2
  have hWs : s.WarmedH U.vm := State.WarmedH.trans hW0 hW
  have hcl : s.vm.findClass cls = some ce.cls := by
    have h9 := hO.cls
    rw [hvm] at h9
    exact h9
  have hall : s.sameButNew ({ U with vm := s.vm } : State) locs mc ms := by
    subst hA
    obtain ⟨e1, e2⟩ := hsame
    rw [State.setFrames_setFrames] at e1
    have h2 : (T.setVm s.vm).sameButNew ({ U with vm := s.vm } : State) [] (0 + 1) (0 + 6) := ⟨e1, e2⟩
    have h3 := X.same.trans h2
    rw [List.append_nil] at h3
    exact h3.mono hc hs
  refine ⟨U, ?_, .threw T.heap.size, hrun, hend, Or.inr ⟨T.heap.size, rfl, cls, ce, locs, hx U hWs.alike f1 (fun q hq => f2 q hq (fun z hz => nomatch hz)), hce, hO.vm, hcl, hWs, hall, hf⟩⟩
  refine st1 _ ?_
  show Steps p.tables e below (T1.setTop { method := m, pc := pc + 3, locals := ls, stack := .ref T.heap.size :: rest, locked := none }) _
  jvm_step X₁.here [X₁.here.top, hexec, d3', Value.category]
  exact hsteps
/-- 'throw new E("text")': new; dup; ldc; invokespecial; athrow -/
theorem vx_throwS {cc : ByteArray} {pc : Nat} (hexec : p.tables.exec = Jvm.exec) (hb : c.code = cc) (hl : l.stackTraces = false) {own cls text : String} {names : List String} {ik is ic mc ms sa : Nat} {A : Nat → Prop}
    (hown : s.vm.findClass own = some m.cls) (hcls : Bundle.fit cls = true) (hnames : ∀ n ∈ names, Bundle.fit n = true)
    (hk : (Cond.classLink own ik cls).before args s = true) (hini : (Cond.initialized cls).before args s = true) (hstr : vk_R own is text sa s) (hat : ∀ w ∈ vx_atS own ic cls names, w.before args s = true)
    (hgood : ∀ w ∈ Cond.classLink own ik cls :: Cond.initialized cls :: vx_atS own ic cls names, vx_ot w = true)
    (hU : vx_Zq Bundle.tN "UNASSIGNED_STACK" Bundle.steD A s s.heap) (hN : vx_Zq Bundle.tN "SUPPRESSED_SENTINEL" Bundle.listD A s s.heap) (hS : va_S A s.heap H locs) (hsize : ls.size = c.maxLocals)
    (d0 : decode cc pc = .ok (.new ik, 3)) (d3 : decode cc (pc + 3) = .ok (.dup, 1)) (d4 : decode cc (pc + 4) = .ok (.ldc is, 2)) (d6 : decode cc (pc + 6) = .ok (.invokespecial ic, 3)) (d9 : decode cc (pc + 9) = .ok (.athrow, 1))
    (hout : ∀ x ∈ c.exceptionTable.toList, covers x (pc + 9) = false)
    (hRframes : names.length + 3 < R.frames) (hRlocals : (rest.map fun v => v.category).sum + (13 * (names.length + 1) + 43) ≤ R.locals) (hRcells : cells + 1 ≤ R.cells) (hRslots : slots + 6 ≤ R.slots) (hlocks : meth.locks = false)
    (hx : ∀ t : State, s.vm.Alike t.vm → H.size ≤ t.heap.size → (∀ q : Nat, q < H.size → t.heap[q]? = H[q]?) → XC cls s t)
    (hf : ∀ z ∈ locs, free z.base) (hc : cells + 1 ≤ mc) (hs : slots + 6 ≤ ms) :
    W p l e R s m args below meth c H locs cells slots (vx_MQ below Qc XC args s mc ms free) (F0 m pc ls rest) := by
  intro T hT X
  have htr : e.platform.stackTraces = false := (show e.platform.stackTraces = l.stackTraces by rw [X.admits.platform]).trans hl
  have Y := vx_rebase X (R' := { frames := R.frames, locals := R.locals, cells := 1, slots := 6 }) (Nat.le_refl _) (Nat.le_refl _) hRcells hRslots
  obtain ⟨s', hA⟩ : ∃ z, z = (T.setVm s.vm).setFrames (.invoking m args :: below) := ⟨_, rfl⟩
  rw [← hA] at Y
  have hvm : s'.vm = s.vm := by rw [hA]; rfl
  have hhp : s'.heap = H := by rw [hA]; exact hT
  have hW0 : s.WarmedH s'.vm := by rw [hvm]; exact State.WarmedH.refl s
  have hat' : ∀ w ∈ vx_atS own ic cls names, w.before args s' = true := fun w hw => vx_ot_at hW0 hvm.symm (hgood w (List.mem_cons_of_mem _ (List.mem_cons_of_mem _ hw))) (hat w hw)
  have hk' : (Cond.classLink own ik cls).before args s' = true := vx_ot_at hW0 hvm.symm (hgood _ List.mem_cons_self) hk
  have hini' : (Cond.initialized cls).before args s' = true := vx_ot_at hW0 hvm.symm (hgood _ (List.mem_cons_of_mem _ List.mem_cons_self)) hini
  have hU' : vx_Zq Bundle.tN "UNASSIGNED_STACK" Bundle.steD A s' s'.heap := by rw [hhp]; exact vx_Zq.moved hW0.alike (hU.kept hS.2.1)
  have hN' : vx_Zq Bundle.tN "SUPPRESSED_SENTINEL" Bundle.listD A s' s'.heap := by rw [hhp]; exact vx_Zq.moved hW0.alike (hN.kept hS.2.1)
  have h : ∀ w ∈ Bundle.ownAtoms own ic cls names, w.before args s' = true := vx_own hat' (vx_isRefq hU'.1) (vx_isRefq hN'.1) hU'.2.word hN'.2.word
  have hown' : s'.vm.findClass own = some m.cls := by rw [hvm]; exact hown
  have hins : (Cond.instantiable cls 6).before args s' = true := h _ (by simp [Bundle.ownAtoms])
  obtain ⟨vm₁, cX, kX, hfX, hkX, -, -, X₁, st1⟩ := Y.newCold hexec (own := own) (C := cls) (index := ik) (n := 6) hown' hk' hins hini'
    (g := F0 m pc ls rest) rfl (by rw [hb]; exact d0) (Nat.le_refl _) (Nat.le_refl _)
  generalize hT1 : (T.setVm vm₁).pushCell { cls := cX, slots := kX.instanceTypes.map defaultValue, vm := .none } = T1 at X₁ st1
  have hcat : (Value.ref T.heap.size).category = 1 := rfl
  have hcellA : T1.heap[T.heap.size]? = some (freshCell cX kX) := by rw [← hT1]; exact State.heap_pushCell_size _ _
  have d3' : decode c.code (pc + 3) = .ok (.dup, 1) := by rw [hb]; exact d3
  have d4' : decode c.code (pc + 4) = .ok (.ldc is, 2) := by rw [hb]; exact d4
  have hstr' : vk_R own is text sa s' := vk_R.warm hW0 hstr
  obtain ⟨U, hsteps, hrun, hend, hW, hsame, ce, hce, hO⟩ := X₁.ctorThrowS hexec htr (own := own) (cls := cls) (names := names) (ic := ic) hown' hcls hnames h (fun x hx => nomatch hx) hfX hkX hcellA (by rw [hhp, hT]; exact Nat.le_refl _) (msg := .ref sa) rfl
    (g := { method := m, pc := pc + 6, locals := ls, stack := .ref sa :: .ref T.heap.size :: .ref T.heap.size :: rest, locked := none }) rfl hsize rfl rfl (rest := rest) rfl
    (by rw [hb]; exact d6) (by rw [hb]; exact d9) hout hRframes (by simp only [List.map_cons, List.sum_cons, hcat]; omega) hlocks
  obtain ⟨f1, f2⟩ := vx_frame hsame
  rw [hhp] at f1 f2
  have hWs : s.WarmedH U.vm := State.WarmedH.trans hW0 hW
  have hcl : s.vm.findClass cls = some ce.cls := by
    have h9 := hO.cls
    rw [hvm] at h9
    exact h9
  have hall : s.sameButNew ({ U with vm := s.vm } : State) locs mc ms := by
    subst hA
    obtain ⟨e1, e2⟩ := hsame
    rw [State.setFrames_setFrames] at e1
    have h2 : (T.setVm s.vm).sameButNew ({ U with vm := s.vm } : State) [] (0 + 1) (0 + 6) := ⟨e1, e2⟩
    have h3 := X.same.trans h2
    rw [List.append_nil] at h3
    exact h3.mono hc hs
  refine ⟨U, ?_, .threw T.heap.size, hrun, hend, Or.inr ⟨T.heap.size, rfl, cls, ce, locs, hx U hWs.alike f1 (fun q hq => f2 q hq (fun z hz => nomatch hz)), hce, hO.vm, hcl, hWs, hall, hf⟩⟩
  refine st1 _ ?_
  show Steps p.tables e below (T1.setTop { method := m, pc := pc + 3, locals := ls, stack := .ref T.heap.size :: rest, locked := none }) _
  jvm_step X₁.here [X₁.here.top, hexec, d3', Value.category]
  exact X₁.ldcString hexec (own := own) (text := text) (index := is) (a := sa) hown' hstr'.1 hstr'.2
    (g := { method := m, pc := pc + 4, locals := ls, stack := .ref T.heap.size :: .ref T.heap.size :: rest, locked := none }) rfl d4' _ hsteps
/-- 'throw new E("text")', the text by a wide index -/
theorem vx_throwSW {cc : ByteArray} {pc : Nat} (hexec : p.tables.exec = Jvm.exec) (hb : c.code = cc) (hl : l.stackTraces = false) {own cls text : String} {names : List String} {ik is ic mc ms sa : Nat} {A : Nat → Prop}
    (hown : s.vm.findClass own = some m.cls) (hcls : Bundle.fit cls = true) (hnames : ∀ n ∈ names, Bundle.fit n = true)
    (hk : (Cond.classLink own ik cls).before args s = true) (hini : (Cond.initialized cls).before args s = true) (hstr : vk_R own is text sa s) (hat : ∀ w ∈ vx_atS own ic cls names, w.before args s = true)
    (hgood : ∀ w ∈ Cond.classLink own ik cls :: Cond.initialized cls :: vx_atS own ic cls names, vx_ot w = true)
    (hU : vx_Zq Bundle.tN "UNASSIGNED_STACK" Bundle.steD A s s.heap) (hN : vx_Zq Bundle.tN "SUPPRESSED_SENTINEL" Bundle.listD A s s.heap) (hS : va_S A s.heap H locs) (hsize : ls.size = c.maxLocals)
    (d0 : decode cc pc = .ok (.new ik, 3)) (d3 : decode cc (pc + 3) = .ok (.dup, 1)) (d4 : decode cc (pc + 4) = .ok (.ldc_w is, 3)) (d7 : decode cc (pc + 7) = .ok (.invokespecial ic, 3)) (d10 : decode cc (pc + 10) = .ok (.athrow, 1))
    (hout : ∀ x ∈ c.exceptionTable.toList, covers x (pc + 10) = false)
    (hRframes : names.length + 3 < R.frames) (hRlocals : (rest.map fun v => v.category).sum + (13 * (names.length + 1) + 43) ≤ R.locals) (hRcells : cells + 1 ≤ R.cells) (hRslots : slots + 6 ≤ R.slots) (hlocks : meth.locks = false)
    (hx : ∀ t : State, s.vm.Alike t.vm → H.size ≤ t.heap.size → (∀ q : Nat, q < H.size → t.heap[q]? = H[q]?) → XC cls s t)
    (hf : ∀ z ∈ locs, free z.base) (hc : cells + 1 ≤ mc) (hs : slots + 6 ≤ ms) :
    W p l e R s m args below meth c H locs cells slots (vx_MQ below Qc XC args s mc ms free) (F0 m pc ls rest) := by
  intro T hT X
  have htr : e.platform.stackTraces = false := (show e.platform.stackTraces = l.stackTraces by rw [X.admits.platform]).trans hl
  have Y := vx_rebase X (R' := { frames := R.frames, locals := R.locals, cells := 1, slots := 6 }) (Nat.le_refl _) (Nat.le_refl _) hRcells hRslots
  obtain ⟨s', hA⟩ : ∃ z, z = (T.setVm s.vm).setFrames (.invoking m args :: below) := ⟨_, rfl⟩
  rw [← hA] at Y
  have hvm : s'.vm = s.vm := by rw [hA]; rfl
  have hhp : s'.heap = H := by rw [hA]; exact hT
  have hW0 : s.WarmedH s'.vm := by rw [hvm]; exact State.WarmedH.refl s
  have hat' : ∀ w ∈ vx_atS own ic cls names, w.before args s' = true := fun w hw => vx_ot_at hW0 hvm.symm (hgood w (List.mem_cons_of_mem _ (List.mem_cons_of_mem _ hw))) (hat w hw)
  have hk' : (Cond.classLink own ik cls).before args s' = true := vx_ot_at hW0 hvm.symm (hgood _ List.mem_cons_self) hk
  have hini' : (Cond.initialized cls).before args s' = true := vx_ot_at hW0 hvm.symm (hgood _ (List.mem_cons_of_mem _ List.mem_cons_self)) hini
  have hU' : vx_Zq Bundle.tN "UNASSIGNED_STACK" Bundle.steD A s' s'.heap := by rw [hhp]; exact vx_Zq.moved hW0.alike (hU.kept hS.2.1)
  have hN' : vx_Zq Bundle.tN "SUPPRESSED_SENTINEL" Bundle.listD A s' s'.heap := by rw [hhp]; exact vx_Zq.moved hW0.alike (hN.kept hS.2.1)
  have h : ∀ w ∈ Bundle.ownAtoms own ic cls names, w.before args s' = true := vx_own hat' (vx_isRefq hU'.1) (vx_isRefq hN'.1) hU'.2.word hN'.2.word
  have hown' : s'.vm.findClass own = some m.cls := by rw [hvm]; exact hown
  have hins : (Cond.instantiable cls 6).before args s' = true := h _ (by simp [Bundle.ownAtoms])
  obtain ⟨vm₁, cX, kX, hfX, hkX, -, -, X₁, st1⟩ := Y.newCold hexec (own := own) (C := cls) (index := ik) (n := 6) hown' hk' hins hini'
    (g := F0 m pc ls rest) rfl (by rw [hb]; exact d0) (Nat.le_refl _) (Nat.le_refl _)
  generalize hT1 : (T.setVm vm₁).pushCell { cls := cX, slots := kX.instanceTypes.map defaultValue, vm := .none } = T1 at X₁ st1
  have hcat : (Value.ref T.heap.size).category = 1 := rfl
  have hcellA : T1.heap[T.heap.size]? = some (freshCell cX kX) := by rw [← hT1]; exact State.heap_pushCell_size _ _
  have d3' : decode c.code (pc + 3) = .ok (.dup, 1) := by rw [hb]; exact d3
  have d4' : decode c.code (pc + 4) = .ok (.ldc_w is, 3) := by rw [hb]; exact d4
  have hstr' : vk_R own is text sa s' := vk_R.warm hW0 hstr
  obtain ⟨U, hsteps, hrun, hend, hW, hsame, ce, hce, hO⟩ := X₁.ctorThrowS hexec htr (own := own) (cls := cls) (names := names) (ic := ic) hown' hcls hnames h (fun x hx => nomatch hx) hfX hkX hcellA (by rw [hhp, hT]; exact Nat.le_refl _) (msg := .ref sa) rfl
    (g := { method := m, pc := pc + 7, locals := ls, stack := .ref sa :: .ref T.heap.size :: .ref T.heap.size :: rest, locked := none }) rfl hsize rfl rfl (rest := rest) rfl
    (by rw [hb]; exact d7) (by rw [hb]; exact d10) hout hRframes (by simp only [List.map_cons, List.sum_cons, hcat]; omega) hlocks
  obtain ⟨f1, f2⟩ := vx_frame hsame
  rw [hhp] at f1 f2
  have hWs : s.WarmedH U.vm := State.WarmedH.trans hW0 hW
  have hcl : s.vm.findClass cls = some ce.cls := by
    have h9 := hO.cls
    rw [hvm] at h9
    exact h9
  have hall : s.sameButNew ({ U with vm := s.vm } : State) locs mc ms := by
    subst hA
    obtain ⟨e1, e2⟩ := hsame
    rw [State.setFrames_setFrames] at e1
    have h2 : (T.setVm s.vm).sameButNew ({ U with vm := s.vm } : State) [] (0 + 1) (0 + 6) := ⟨e1, e2⟩
    have h3 := X.same.trans h2
    rw [List.append_nil] at h3
    exact h3.mono hc hs
  refine ⟨U, ?_, .threw T.heap.size, hrun, hend, Or.inr ⟨T.heap.size, rfl, cls, ce, locs, hx U hWs.alike f1 (fun q hq => f2 q hq (fun z hz => nomatch hz)), hce, hO.vm, hcl, hWs, hall, hf⟩⟩
  refine st1 _ ?_
  show Steps p.tables e below (T1.setTop { method := m, pc := pc + 3, locals := ls, stack := .ref T.heap.size :: rest, locked := none }) _
  jvm_step X₁.here [X₁.here.top, hexec, d3', Value.category]
  exact X₁.ldcStringW hexec (own := own) (text := text) (index := is) (a := sa) hown' hstr'.1 hstr'.2
    (g := { method := m, pc := pc + 4, locals := ls, stack := .ref T.heap.size :: .ref T.heap.size :: rest, locked := none }) rfl d4' _ hsteps
end Ends
section Bodies
variable {l : Launch}
theorem vx_ofW {y : MethodName} {ws ws' : List Cond} {rm : Room} {Pc : Array Value → State → Prop} {Qc : Array Value → State → Outcome → State → Prop} {XC : String → State → State → Prop} {mc ms : Nat} {free : Addr → Prop} {cc : ByteArray} {maxL : Nat} {ret : Option FieldType}
    (hy : plainName y.cls = true) (hw : ws = Cond.code y cc maxL ret :: ws')
    (body : ∀ p e s m args below meth c s₁, BodyLoose p l y (headSpec ws rm) cc maxL ret e s m args below meth c s₁ → c.maxLocals = maxL → (∀ x ∈ c.exceptionTable.toList, False) → Pc args s →
      W p l e (headSpec ws rm).room s m args below meth c s.heap [] 0 0 (vx_MQ below Qc XC args s mc ms free) (entryFrame m args maxL)) : vx_Met l y ws rm Pc Qc XC mc ms free := by
  refine MetFree.of_bodyS (code := cc) (maxLocals := maxL) (ret := ret) hy ?_ ?_
  · intro args s m h hn
    obtain ⟨meth, c, h1, h2, h3, h4, h5, h6, -, -⟩ := Cond.code_spec hn (atoms_spec (ws := ws) h _ (by rw [hw]; exact List.mem_cons_self))
    exact ⟨meth, c, h1, h2, h3, h4, h5, h6⟩
  · intro p e s m args below meth c s₁ B hml hP _
    have hh0 : s₁.heap = s.heap := by rw [B.state]; rfl
    have ht : ∀ x ∈ c.exceptionTable.toList, False := by
      obtain ⟨meth9, c9, h1, h2, -, -, -, -, h7, -⟩ := Cond.code_spec B.named (atoms_spec (ws := ws) B.pre _ (by rw [hw]; exact List.mem_cons_self))
      cases Option.some.inj (h1.symm.trans B.method)
      cases Option.some.inj (h2.symm.trans (Stand.of_body B).code)
      intro x hx
      rw [Array.isEmpty_iff.mp h7] at hx
      cases hx
    obtain ⟨t, a1, o, b1, b2, b3⟩ := body p e s m args below meth c s₁ B hml ht hP s₁ hh0 (Stand.of_body B)
    exact ⟨t, o, a1, b1, b2, b3⟩
/-- the table of a body with handlers -/
theorem vx_table {p : Program} {x y : MethodName} {S : Spec} {cc bytes : ByteArray} {maxL maxL' : Nat} {ret ret' : Option FieldType} {e : Env} {s s₁ : State} {m : MethodId} {args : Array Value} {below : List Frame} {meth : Method} {c : Code} {hh : List (Nat × Nat × Nat × Nat)}
    (B : BodyLoose p l y S cc maxL ret e s m args below meth c s₁) (h : (Cond.codeWith y bytes maxL' ret' hh).before args s = true) : c.exceptionTable.toList = tableOf hh := by
  obtain ⟨m9, meth9, c9, hn9, h1, h2, -, -, h6, -⟩ := Cond.codeWith_spec h
  cases Option.some.inj (hn9.symm.trans B.named)
  cases Option.some.inj (h1.symm.trans B.method)
  cases Option.some.inj (h2.symm.trans (Stand.of_body B).code)
  rw [← h6, table_eq]
end Bodies
end VXA
/-! ===== END ===== -/
/-! ===== BEGIN a static call of a method with an exception table ===== -/
section VXS
variable {p : Program} {l : Launch} {e : Env} {R : Room} {s : State} {m : MethodId} {args : Array Value} {below : List Frame} {meth : Method} {c : Code} {T : State} {H : Heap} {locs : List Loc} {cells slots : Nat}
abbrev vx_CSW (R : Room) (s : State) (args : Array Value) (own : String) (index : Nat) (y : MethodName) (bytes : ByteArray) (maxL : Nat) (ret : Option FieldType) (hh : List (Nat × Nat × Nat × Nat)) (ws : List Cond) (rm : Room) (mc ms n : Nat) : Prop :=
  (rm.cells = mc ∧ rm.slots = ms ∧ rm.frames + 1 ≤ R.frames ∧ 8 + (maxL + 11) + rm.locals ≤ R.locals ∧ (∀ w ∈ ws, ∀ (a' : Array Value) (U : State), s.WarmedH U.vm → w.before a' U = true) ∧ Cond.codeWith y bytes maxL ret hh ∈ ws) ∧
  (Cond.codeWith y bytes maxL ret hh).before args s = true ∧ (Cond.initialized y.cls).before args s = true ∧ (y.cls ≠ "java/lang/invoke/MethodHandle" ∧ y.cls ≠ "java/lang/invoke/VarHandle") ∧
  (∀ sig, parseMethodDescriptor y.desc = some sig → n = sig.parameters.length) ∧ (Cond.methodLink own index y).before args s = true ∧ (Cond.static y).before args s = true
theorem vx_cwSW {own : String} {index maxL mc ms : Nat} {y : MethodName} {bytes : ByteArray} {ret : Option FieldType} {hh : List (Nat × Nat × Nat × Nat)} {Ts ws ws' : List Cond} {rm : Room} (n : Nat) (ht : ∀ w ∈ Ts, w.before args s = true) (hT : GoodIn Ts (va_wsS own index y ws)) (hw : ws = Cond.codeWith y bytes maxL ret hh :: ws') (hrc : rm.cells = mc) (hrs : rm.slots = ms)
    (hd : y.cls ≠ "java/lang/invoke/MethodHandle" ∧ y.cls ≠ "java/lang/invoke/VarHandle" ∧ (parseMethodDescriptor y.desc).map (fun d => d.parameters.length) = some n) (hR : rm.frames + 1 ≤ R.frames ∧ 8 + (maxL + 11) + rm.locals ≤ R.locals) :
    vx_CSW R s args own index y bytes maxL ret hh ws rm mc ms n := by
  have ok : ∀ w ∈ va_wsS own index y ws, w.before args s = true := fun w h => ht w (hT w h).1
  have hG : GoodIn Ts ws := fun w h => hT w (by unfold va_wsS; exact List.mem_append_right _ h)
  have hc : Cond.codeWith y bytes maxL ret hh ∈ ws := by rw [hw]; exact List.mem_cons_self
  refine ⟨⟨hrc, hrs, hR.1, hR.2, pay_in ht hG, hc⟩, ht _ (hG _ hc).1, ok _ (by simp [va_wsS]), ⟨hd.1, hd.2.1⟩, fun sig h => ?_, ok _ (by simp [va_wsS]), ok _ (by simp [va_wsS])⟩
  have h2 := hd.2.2
  rw [h] at h2
  exact (Option.some.inj h2).symm
theorem vx_callSW (X : Stand p l e R s m args below meth c T locs cells slots) (hexec : p.tables.exec = Jvm.exec) {own : String} {index : Nat} {y : MethodName} {bytes : ByteArray} {maxL : Nat} {ret : Option FieldType} {hh : List (Nat × Nat × Nat × Nat)}
    (hown : s.vm.findClass own = some m.cls) (hlink : (Cond.methodLink own index y).before args s = true) (hstat : (Cond.static y).before args s = true) (hinit : (Cond.initialized y.cls).before args s = true)
    (hcode : (Cond.codeWith y bytes maxL ret hh).before args s = true) (hy : y.cls ≠ "java/lang/invoke/MethodHandle" ∧ y.cls ≠ "java/lang/invoke/VarHandle")
    {W9 : Nat} {Pre : Pt → Array Value → Prop} {Post : Pt → Array Value → Option Value → Pt → Prop} (hK : Back l R p e below s args y 3 W9 Pre Post)
    {g : JFrame} (hg : g.method = m) (hsize : g.locals.size = c.maxLocals) {argsL rest : List Value} (hlen : ∀ sig, parseMethodDescriptor y.desc = some sig → argsL.length = sig.parameters.length)
    (hstack : g.stack = argsL.reverse ++ rest) (hW : 2 * g.monitorRoom + (rest.map fun v => v.category).sum ≤ W9) (hdg : decode c.code g.pc = .ok (.invokestatic index, 3))
    (hpre : ∀ vm₁, s.WarmedH vm₁ → Pre ⟨T.setVm vm₁, locs, cells, slots⟩ argsL.toArray) :
    ∃ (v : Option Value) (vm₁ : Vm) (B : Pt), s.WarmedH vm₁ ∧ Stand p l e R s m args below meth c B.U B.locs B.cells B.slots ∧ Post ⟨T.setVm vm₁, locs, cells, slots⟩ argsL.toArray v B ∧
      ∀ target, Steps p.tables e below (B.U.setTop { g with pc := g.pc + 3, stack := v.toList ++ rest }) target → Steps p.tables e below (T.setTop g) target := by
  obtain ⟨mk, methM, cM, hnamed, hmethM, -, -, -, -, -, -, hsigM⟩ := Cond.codeWith_spec hcode
  have hstatic : methM.isStatic = true := Cond.static_spec hnamed hmethM hstat
  obtain ⟨kP, hkP, -⟩ := className_of_methodNamed hnamed
  have hinitP : kP.init = .initialized := Cond.initialized_spec (findClass_of_methodNamed hnamed) hkP hinit
  obtain ⟨vm₁, X₁, hstep₁⟩ := X.invokestatic hexec hown hlink hnamed hmethM hstatic hkP hinitP hy (g := g) hg (argsL := argsL) (rest := rest) (hlen _ hsigM) hstack hdg
  obtain ⟨v, B, X', hpost, hsteps⟩ := hK m meth c ⟨T.setVm vm₁, locs, cells, slots⟩ { g with stack := rest } (.invokestatic index) mk argsL.toArray X₁ hg hsize hdg hW (X₁.named hnamed) (hpre vm₁ X₁.warmed)
  exact ⟨v, vm₁, B, X₁.warmed, X', hpost, fun target h => hstep₁ _ fun acts => by rw [doInvoke_state]; exact hsteps.trans h⟩
theorem vx_runSW {y : MethodName} {bytes cc : ByteArray} {maxL nL mc ms n index : Nat} {ret : Option FieldType} {hh : List (Nat × Nat × Nat × Nat)} {ws : List Cond} {rm : Room} {Pc : Array Value → State → Prop} {Qc : Array Value → State → Outcome → State → Prop} {free : Addr → Prop} {Ts : List Cond} {own : String} {As rest : List Value} {g : JFrame}
    (S : CallFix p m c cc nL s args Ts own) (hM : Met l y ws rm Pc Qc mc ms free) (cw : vx_CSW R s args own index y bytes maxL ret hh ws rm mc ms n) (hp : PreS s H Pc As)
    (hg : g.method = m) (hn : As.length = n) (hsize : g.locals.size = nL) (hstack : g.stack = As.reverse ++ rest) (hW : 2 * g.monitorRoom + (rest.map fun v => v.category).sum ≤ 8) (hdg : decode cc g.pc = .ok (.invokestatic index, 3)) (hf : cells + mc ≤ R.cells ∧ slots + ms ≤ R.slots) :
    va_Run p l e R s m args below meth c H locs cells slots mc ms g rest (Qc As.toArray) (free) := by
  obtain ⟨⟨hrc, hrs, hfr, hlo, hws, hcw⟩, hcode, hini, hy, hlen, hl, hstt⟩ := cw
  have hK : Back l R p e below s args y 3 8 (PreOf R mc ms Pc) (PostOf Qc mc ms free) := va_backW (hh := hh) (bytes := bytes) (maxL := maxL) (ret := ret) hM hp.1 hrc hrs hfr hlo hws hcw (fun a' U hW => word_at hW (Or.inl (by first | rfl | simp [Cond.onTables, Cond.keeps, Cond.steady])) hini)
  obtain ⟨hx, hb, hml, ho, -⟩ := S
  intro T hT X
  obtain ⟨v, vm₁, ⟨U', l2, c2, s2⟩, hW₁, X', ⟨g', mk, t, L, e1, e2, hq, h1, hL, h2, h3⟩, st⟩ := vx_callSW X hx (hh := hh) (bytes := bytes) (maxL := maxL) (ret := ret) ho hl hstt hini hcode hy hK hg (hsize.trans hml.symm) (argsL := As) (rest := rest) (fun sig h => hn.trans (hlen sig h)) hstack hW (by rw [hb]; exact hdg)
    (fun vm₁ hW₁ => ⟨hf.1, hf.2, hp.2 (T.setVm vm₁) hT hW₁⟩)
  dsimp only [Pt.U, Pt.locs, Pt.cells, Pt.slots] at X' e1 e2 h1 h2 h3 st
  subst h1; subst h2; subst h3
  exact ⟨v, (T.setVm vm₁).calling g' mk As.toArray, t, U', L, hT, X', hL, e1, e2, hq, st⟩
/-- not caught here, past rows that name other classes: it goes on to the caller -/
theorem vx_outP {p : Program} {l : Launch} {e : Env} {R : Room} {s : State} {m : MethodId} {args : Array Value} {below : List Frame} {meth : Method} {c : Code} {H : Heap} {locs : List Loc} {cells slots : Nat} {free : Addr → Prop} {ls : Array Slot} {rest : List Value} {Qc : Array Value → State → Outcome → State → Prop} {XC : String → State → State → Prop}
    {pc : Nat} {own E : String} {ce : Cell} {q : Addr} {mc ms : Nat} (hown : s.vm.findClass own = some m.cls) (hlocks : meth.locks = false)
    (hpass : ∀ z ∈ c.exceptionTable.toList, covers z pc = false ∨ (z.catchType ≠ 0 ∧ ∃ nm : String, (Cond.classLink own z.catchType nm).before args s = true ∧ va_Nc E nm s)) (hcell : H[q]? = some ce) (hv : ce.vm = .none) (hcl : s.vm.findClass E = some ce.cls)
    (hx : ∀ t : State, t.heap = H → s.vm.Alike t.vm → XC E s t) (hf : ∀ z ∈ locs, free z.base) (hc : cells ≤ mc) (hs : slots ≤ ms) :
    vx_W p l e R s m args below meth c H locs cells slots (vx_MQ below Qc XC args s mc ms free) (F0 m pc ls rest) q := by
  intro T hT X
  have hpl : e.platform.magicAccessors = ({} : Platform).magicAccessors := by rw [X.admits.platform]
  obtain ⟨vm', hW', X', st⟩ := X.outThrough hlocks q (g := F0 m pc ls rest) rfl rfl rfl (cell := ce) (by rw [hT]; exact hcell) (by rw [hv]; rfl)
    (by obtain ⟨k9, h9, -⟩ := Vm.findClass_spec hcl; exact ⟨k9, h9⟩) (fun z hz => by
      rcases hpass z hz with h | ⟨hz0, nm, hl1, hn1⟩
      · exact Or.inl h
      · obtain ⟨c6, hc6, hcl6⟩ := Cond.classLink_spec hown hl1 e.platform hpl
        obtain ⟨a8, b8, h1, h2, h3⟩ := hn1
        cases Option.some.inj (h1.symm.trans hcl)
        cases Option.some.inj (h2.symm.trans hc6)
        exact Or.inr ⟨hz0, _, hcl6, h3⟩)
  obtain ⟨g₀, hfr⟩ := X'.frames_eq
  have hcell9 : ((T.setVm vm').setFrames (.throwing q :: below)).heap[q]? = some ce := by
    show T.heap[q]? = some ce
    rw [hT]; exact hcell
  have hend : Ended ((T.setVm vm').setFrames (.throwing q :: below)) below (.threw q) := State.frames_setFrames _ (State.cur_lt_of_frames hfr)
  refine ⟨(T.setVm vm').setFrames (.throwing q :: below), ?_, .threw q, X'.here.running, hend, Or.inr ⟨q, rfl, E, ce, locs, hx _ hT (X'.ends _).1.alike, hcell9, hv, hcl, (X'.ends _).1, (X'.ends _).2.mono hc hs, hf⟩⟩
  rw [X.pushThrowing_eq]
  exact st
/-- a thing of a world lies in the heap -/
theorem vx_lt {D : va_G} {cl : List vw_C} {ws : va_W} {H1 : Heap} (h : va_P D cl ws H1) {k : Nat} {q : Nat × va_E} (hk : ws[k]? = some q) : q.1 < H1.size := (h k q hk).lt
end VXS
/-! ===== END ===== -/
/-! ===== BEGIN methods with a table of their own: called by a name, returning or throwing ===== -/
section VXH
/-! vx_backW, vx_callVX, vx_callSX, vx_callVW, vx_runVW, vx_runVX, vx_runSX, vx_ofWH follow the same proofs as their sisters above (Free/Laws.lean, Shelf42/LK1.lean); vx_outP calls Shelf42/NT130.lean (outThrough). -/
section
variable {l : Launch} {R : Room} {p : Program} {e : Env} {below : List Frame} {s : State} {sargs : Array Value} {y : MethodName} {len W9 : Nat}
theorem vx_backW {ws : List Cond} {rm : Room} {Pc : Array Value → State → Prop} {Qc : Array Value → State → Outcome → State → Prop} {XC : String → State → State → Prop} {mc ms : Nat} {free : Addr → Prop} {bytes : ByteArray} {maxL : Nat} {ret : Option FieldType} {hh : List (Nat × Nat × Nat × Nat)}
    (hM : vx_Met l y ws rm Pc Qc XC mc ms free) (hblind : FrameBlind Pc) (hrc : rm.cells = mc) (hrs : rm.slots = ms)
    (hframes : rm.frames + 1 ≤ R.frames) (hlocals : W9 + (maxL + 11) + rm.locals ≤ R.locals)
    (hws : ∀ w ∈ ws, ∀ a' U, s.WarmedH U.vm → w.before a' U = true) (hcode : Cond.codeWith y bytes maxL ret hh ∈ ws) (hinit : ∀ a' U, s.WarmedH U.vm → (Cond.initialized y.cls).before a' U = true) :
    vx_Back l R p e below s sargs y len W9 (PreOf R mc ms Pc) (PostOf Qc mc ms free) (vx_Post XC mc ms free) := by
  intro m meth c A g ig mk a X hg hsize hdg hW hn hp
  have h1 : (headSpec ws rm).pre.before a A.U = true := atoms_intro fun w hw => hws w hw _ _ X.warmed
  have h2 : (Cond.codeWith y bytes maxL ret hh).before a A.U = true := hws _ hcode _ _ X.warmed
  have h3 : (Cond.initialized y.cls).before a A.U = true := hinit _ _ X.warmed
  have h4 : A.cells + (headSpec ws rm).room.cells ≤ R.cells := by rw [show (headSpec ws rm).room.cells = mc from hrc]; exact hp.1
  have h5 : A.slots + (headSpec ws rm).room.slots ≤ R.slots := by rw [show (headSpec ws rm).room.slots = ms from hrs]; exact hp.2.1
  have hPc : Pc a (A.U.calling g mk a) := hblind _ _ _ _ hp.2.2
  obtain ⟨U, Ls, c0, s0⟩ := A
  dsimp only [Pt.U, Pt.locs, Pt.cells, Pt.slots] at h1 h2 h3 h4 h5 X hn hPc ⊢
  obtain ⟨m9, methY, cY, hn9, hmY, hcY, -, hlY, -⟩ := Cond.codeWith_spec h2
  cases Option.some.inj (hn9.symm.trans hn)
  obtain ⟨kY, hkY, -⟩ := className_of_methodNamed hn
  have hinitY : kY.init = .initialized := Cond.initialized_spec (findClass_of_methodNamed hn) hkY h3
  have h : At U g.method c below := by rw [hg]; exact X.here
  have hlocals9 : W9 + (maxL + 11) + (headSpec ws rm).room.locals ≤ R.locals := hlocals
  have happ : (headSpec ws rm).appliesLoose y e.platform (U.calling g mk a) = true :=
    Spec.appliesLoose_calling (g := g) h hdg hn hkY hinitY
      (X.room_calling (g := g) (R' := (headSpec ws rm).room) hsize hmY hcY hframes (by rw [hlY]; omega) h4 h5) h1
  obtain ⟨mid, hmid⟩ := h.above
  have hfr : (U.setTop g).frames = (.java g :: mid) ++ below := by rw [State.frames_setTop' g h.top, hmid]; rfl
  obtain ⟨o, s₂, hsteps, -, hend, hq⟩ := Steps.callFree hM p X.admits X.cas X.clock (acts := []) hfr happ hPc trivial
  have hq' : vx_Q Qc XC mc ms free a (U.calling g mk a) o s₂ := hq
  rw [State.frames_setTop' g h.top] at hend
  obtain ⟨g₀, hg0⟩ := Option.isSome_iff_exists.mp h.top
  obtain ⟨r, hr⟩ := State.topJava?_eq_some.mp hg0
  have hr' : (({ U with heap := s₂.heap, slotsUsed := s₂.slotsUsed } : State).setVm s₂.vm).frames = .java g₀ :: r := hr
  rcases hq' with ⟨hqc, L, hfe, hL⟩ | ⟨q, rfl, E, ce, L, hx, hce, hcv, hcl, hW₂, hsm, hL⟩
  · obtain ⟨⟨v, rfl⟩, hW₂, e2, q2, q3, q4, q5, q6⟩ := id hfe
    have e3 : s₂ = ({ (U.calling g mk a).setFrames s₂.frames with heap := s₂.heap, slotsUsed := s₂.slotsUsed } : State).setVm s₂.vm := by
      have : s₂ = ({ s₂ with vm := (U.calling g mk a).vm } : State).setVm s₂.vm := rfl
      rw [e2] at this
      exact this
    obtain ⟨c₂, i₂, len₂, hc₂, hd₂, hf₂⟩ := hend
    have hW' : U.WarmedH s₂.vm := hW₂
    have hcc : c₂ = c := by
      have h1 : s₂.code? g.method = U.code? g.method := by
        rw [State.code?_eq, State.code?_eq, hW'.alike.method?]
      exact Option.some.inj (hc₂.symm.trans (h1.trans h.code))
    subst hcc
    have hlen : len₂ = len := by rw [hdg] at hd₂; cases hd₂; rfl
    subst hlen
    have hs₂ : s₂ = (({ U with heap := s₂.heap, slotsUsed := s₂.slotsUsed } : State).setVm s₂.vm).setTop { g with pc := g.pc + len₂, stack := v.toList ++ g.stack } := by
      refine e3.trans ?_
      rw [hf₂, State.calling_eq h.top, State.setFrames_setFrames, State.setTop_of_frames _ hr', hr]
      rfl
    have hsame : U.sameButNew ({ U with heap := s₂.heap, slotsUsed := s₂.slotsUsed } : State) L mc ms := by
      refine ⟨?_, q2, q3, q4, q5, q6⟩
      obtain ⟨t, ht, -⟩ := State.frames_cons hr
      show ({ U with heap := s₂.heap, slotsUsed := s₂.slotsUsed } : State) = { U.setFrames U.frames with heap := s₂.heap, slotsUsed := s₂.slotsUsed }
      rw [State.setFrames_self ht]
    subst hg
    refine Or.inl ⟨v, ⟨(({ U with heap := s₂.heap, slotsUsed := s₂.slotsUsed } : State).setVm s₂.vm), Ls ++ L, c0 + mc, s0 + ms⟩,
      ⟨X.admits, X.cas, X.clock, X.frames, X.room, X.hears, X.method, X.code, (X.here.setHeapUsed s₂.heap s₂.slotsUsed).setVm hW'.alike, X.tail, State.WarmedH.trans X.warmed hW', X.limits, X.bytes, X.same.trans (hsame.setVm s.vm)⟩,
      ⟨g, mk, s₂, L, rfl, rfl, hqc, rfl, hL, rfl, rfl⟩, ?_⟩
    show Steps p.tables e below _ ((({ U with heap := s₂.heap, slotsUsed := s₂.slotsUsed } : State).setVm s₂.vm).setTop { g with pc := g.pc + len₂, stack := v.toList ++ g.stack })
    rw [← hs₂]
    exact hsteps
  · obtain ⟨e2, q2, q3, q4, q5, q6⟩ := id hsm
    have e3 : s₂ = ({ (U.calling g mk a).setFrames s₂.frames with heap := s₂.heap, slotsUsed := s₂.slotsUsed } : State).setVm s₂.vm := by
      have : s₂ = ({ s₂ with vm := (U.calling g mk a).vm } : State).setVm s₂.vm := rfl
      rw [e2] at this
      exact this
    have hf₂ : s₂.frames = .throwing q :: .java g :: U.frames.tail := hend
    have hW' : U.WarmedH s₂.vm := hW₂
    have hs₂ : s₂ = ((({ U with heap := s₂.heap, slotsUsed := s₂.slotsUsed } : State).setVm s₂.vm).setTop g).pushFrame (.throwing q) := by
      refine e3.trans ?_
      rw [hf₂, State.calling_eq h.top, State.setFrames_setFrames, State.pushFrame, State.frames_setTop _ hr', State.setTop_of_frames _ hr', State.setFrames_setFrames, hr]
      rfl
    have hsame : U.sameButNew ({ U with heap := s₂.heap, slotsUsed := s₂.slotsUsed } : State) L mc ms := by
      refine ⟨?_, q2, q3, q4, q5, q6⟩
      obtain ⟨t, ht, -⟩ := State.frames_cons hr
      show ({ U with heap := s₂.heap, slotsUsed := s₂.slotsUsed } : State) = { U.setFrames U.frames with heap := s₂.heap, slotsUsed := s₂.slotsUsed }
      rw [State.setFrames_self ht]
    subst hg
    refine Or.inr ⟨q, ⟨(({ U with heap := s₂.heap, slotsUsed := s₂.slotsUsed } : State).setVm s₂.vm), Ls ++ L, c0 + mc, s0 + ms⟩,
      ⟨X.admits, X.cas, X.clock, X.frames, X.room, X.hears, X.method, X.code, (X.here.setHeapUsed s₂.heap s₂.slotsUsed).setVm hW'.alike, X.tail, State.WarmedH.trans X.warmed hW', X.limits, X.bytes, X.same.trans (hsame.setVm s.vm)⟩,
      ⟨g, mk, s₂, L, E, ce, rfl, rfl, hx, hce, hcv, hcl, rfl, hL, rfl, rfl⟩, ?_⟩
    show Steps p.tables e below _ (((({ U with heap := s₂.heap, slotsUsed := s₂.slotsUsed } : State).setVm s₂.vm).setTop g).pushFrame (.throwing q))
    rw [← hs₂]
    exact hsteps
end
variable {p : Program} {l : Launch} {e : Env} {R : Room} {s : State} {m : MethodId} {args : Array Value} {below : List Frame} {meth : Method} {c : Code} {T : State} {H : Heap} {locs : List Loc} {cells slots : Nat}
theorem vx_callVX (X : Stand p l e R s m args below meth c T locs cells slots) (hexec : p.tables.exec = Jvm.exec) {own C : String} {index : Nat} {y : MethodName} {bytes : ByteArray} {maxL : Nat} {ret : Option FieldType} {hh : List (Nat × Nat × Nat × Nat)}
    (hown : s.vm.findClass own = some m.cls) (hlink : (Cond.methodLink own index y).before args s = true) (hinst : (Cond.instanceMethod y).before args s = true) (hsel : (Cond.selects C y y).before args s = true)
    (hcode : (Cond.codeWith y bytes maxL ret hh).before args s = true) (hy : y.cls ≠ "java/lang/invoke/MethodHandle" ∧ y.cls ≠ "java/lang/invoke/VarHandle")
    {W9 : Nat} {Pre : Pt → Array Value → Prop} {Post : Pt → Array Value → Option Value → Pt → Prop} {PostX : Pt → Array Value → Addr → Pt → Prop} (hK : vx_Back l R p e below s args y 3 W9 Pre Post PostX)
    {b : Addr} {cellB : Cell} (hcell : T.heap[b]? = some cellB) (hobj : cellB.vm.isStatics = false) (hcls : s.vm.findClass C = some cellB.cls)
    {g : JFrame} (hg : g.method = m) (hsize : g.locals.size = c.maxLocals) {argsL rest : List Value} (hlen : ∀ sig, parseMethodDescriptor y.desc = some sig → argsL.length = sig.parameters.length)
    (hstack : g.stack = argsL.reverse ++ .ref b :: rest) (hW : 2 * g.monitorRoom + (rest.map fun v => v.category).sum ≤ W9) (hdg : decode c.code g.pc = .ok (.invokevirtual index, 3))
    (hpre : ∀ vm₁, s.WarmedH vm₁ → Pre ⟨T.setVm vm₁, locs, cells, slots⟩ (Value.ref b :: argsL).toArray) :
    (∃ (v : Option Value) (vm₁ : Vm) (B : Pt), s.WarmedH vm₁ ∧ Stand p l e R s m args below meth c B.U B.locs B.cells B.slots ∧ Post ⟨T.setVm vm₁, locs, cells, slots⟩ (Value.ref b :: argsL).toArray v B ∧
      ∀ target, Steps p.tables e below (B.U.setTop { g with pc := g.pc + 3, stack := v.toList ++ rest }) target → Steps p.tables e below (T.setTop g) target) ∨
    (∃ (q : Addr) (vm₁ : Vm) (B : Pt), s.WarmedH vm₁ ∧ Stand p l e R s m args below meth c B.U B.locs B.cells B.slots ∧ PostX ⟨T.setVm vm₁, locs, cells, slots⟩ (Value.ref b :: argsL).toArray q B ∧
      Steps p.tables e below (T.setTop g) ((B.U.setTop { g with stack := rest }).pushFrame (.throwing q))) := by
  obtain ⟨mk, methM, hnamed, hmethM, hstM, habM⟩ := Cond.instanceMethod_spec hinst
  obtain ⟨m8, methM', cM, hn8, hmethM', -, -, -, -, -, -, hsigM⟩ := Cond.codeWith_spec hcode
  cases Option.some.inj (hn8.symm.trans hnamed)
  cases hmethM.symm.trans hmethM'
  obtain ⟨c2, r2, m2, q1, q2, q3, q4, kP, hkP, hkPi⟩ := Cond.selects_spec hsel
  cases hcls.symm.trans q1
  cases (State.methodFound?_of_named hnamed hy).symm.trans q2
  cases hnamed.symm.trans q3
  have hselP : selectMethod e.platform s.vm cellB.cls mk = .method mk := by rw [Launch.admits_selectMethod X.admits]; exact q4
  obtain ⟨vm₁, X₁, hstep₁⟩ := X.invokevirtual hexec hown hlink hnamed hmethM hstM hkP hkPi hy (a := b) (cell := cellB) hcell
    (fun z h => by rw [h] at hobj; cases hobj) hselP hmethM habM hkP hkPi (g := g) hg (argsL := argsL) (rest := rest) (hlen _ hsigM) hstack hdg
  rcases hK m meth c ⟨T.setVm vm₁, locs, cells, slots⟩ { g with stack := rest } (.invokevirtual index) mk (Value.ref b :: argsL).toArray X₁ hg hsize hdg hW (X₁.named hnamed) (hpre vm₁ X₁.warmed) with ⟨v, B, X', hpost, hsteps⟩ | ⟨q, B, X', hpost, hsteps⟩
  · exact Or.inl ⟨v, vm₁, B, X₁.warmed, X', hpost, fun target h => hstep₁ _ fun acts => by rw [doInvoke_state]; exact hsteps.trans h⟩
  · exact Or.inr ⟨q, vm₁, B, X₁.warmed, X', hpost, hstep₁ _ fun acts => by rw [doInvoke_state]; exact hsteps⟩
theorem vx_callSX (X : Stand p l e R s m args below meth c T locs cells slots) (hexec : p.tables.exec = Jvm.exec) {own : String} {index : Nat} {y : MethodName} {bytes : ByteArray} {maxL : Nat} {ret : Option FieldType} {hh : List (Nat × Nat × Nat × Nat)}
    (hown : s.vm.findClass own = some m.cls) (hlink : (Cond.methodLink own index y).before args s = true) (hstat : (Cond.static y).before args s = true) (hinit : (Cond.initialized y.cls).before args s = true)
    (hcode : (Cond.codeWith y bytes maxL ret hh).before args s = true) (hy : y.cls ≠ "java/lang/invoke/MethodHandle" ∧ y.cls ≠ "java/lang/invoke/VarHandle")
    {W9 : Nat} {Pre : Pt → Array Value → Prop} {Post : Pt → Array Value → Option Value → Pt → Prop} {PostX : Pt → Array Value → Addr → Pt → Prop} (hK : vx_Back l R p e below s args y 3 W9 Pre Post PostX)
    {g : JFrame} (hg : g.method = m) (hsize : g.locals.size = c.maxLocals) {argsL rest : List Value} (hlen : ∀ sig, parseMethodDescriptor y.desc = some sig → argsL.length = sig.parameters.length)
    (hstack : g.stack = argsL.reverse ++ rest) (hW : 2 * g.monitorRoom + (rest.map fun v => v.category).sum ≤ W9) (hdg : decode c.code g.pc = .ok (.invokestatic index, 3))
    (hpre : ∀ vm₁, s.WarmedH vm₁ → Pre ⟨T.setVm vm₁, locs, cells, slots⟩ argsL.toArray) :
    (∃ (v : Option Value) (vm₁ : Vm) (B : Pt), s.WarmedH vm₁ ∧ Stand p l e R s m args below meth c B.U B.locs B.cells B.slots ∧ Post ⟨T.setVm vm₁, locs, cells, slots⟩ argsL.toArray v B ∧
      ∀ target, Steps p.tables e below (B.U.setTop { g with pc := g.pc + 3, stack := v.toList ++ rest }) target → Steps p.tables e below (T.setTop g) target) ∨
    (∃ (q : Addr) (vm₁ : Vm) (B : Pt), s.WarmedH vm₁ ∧ Stand p l e R s m args below meth c B.U B.locs B.cells B.slots ∧ PostX ⟨T.setVm vm₁, locs, cells, slots⟩ argsL.toArray q B ∧
      Steps p.tables e below (T.setTop g) ((B.U.setTop { g with stack := rest }).pushFrame (.throwing q))) := by
  obtain ⟨mk, methM, cM, hnamed, hmethM, -, -, -, -, -, -, hsigM⟩ := Cond.codeWith_spec hcode
  have hstatic : methM.isStatic = true := Cond.static_spec hnamed hmethM hstat
  obtain ⟨kP, hkP, -⟩ := className_of_methodNamed hnamed
  have hinitP : kP.init = .initialized := Cond.initialized_spec (findClass_of_methodNamed hnamed) hkP hinit
  obtain ⟨vm₁, X₁, hstep₁⟩ := X.invokestatic hexec hown hlink hnamed hmethM hstatic hkP hinitP hy (g := g) hg (argsL := argsL) (rest := rest) (hlen _ hsigM) hstack hdg
  rcases hK m meth c ⟨T.setVm vm₁, locs, cells, slots⟩ { g with stack := rest } (.invokestatic index) mk argsL.toArray X₁ hg hsize hdg hW (X₁.named hnamed) (hpre vm₁ X₁.warmed) with ⟨v, B, X', hpost, hsteps⟩ | ⟨q, B, X', hpost, hsteps⟩
  · exact Or.inl ⟨v, vm₁, B, X₁.warmed, X', hpost, fun target h => hstep₁ _ fun acts => by rw [doInvoke_state]; exact hsteps.trans h⟩
  · exact Or.inr ⟨q, vm₁, B, X₁.warmed, X', hpost, hstep₁ _ fun acts => by rw [doInvoke_state]; exact hsteps⟩
theorem vx_callVW (X : Stand p l e R s m args below meth c T locs cells slots) (hexec : p.tables.exec = Jvm.exec) {own C : String} {index : Nat} {y : MethodName} {bytes : ByteArray} {maxL : Nat} {ret : Option FieldType} {hh : List (Nat × Nat × Nat × Nat)}
    (hown : s.vm.findClass own = some m.cls) (hlink : (Cond.methodLink own index y).before args s = true) (hinst : (Cond.instanceMethod y).before args s = true) (hsel : (Cond.selects C y y).before args s = true)
    (hcode : (Cond.codeWith y bytes maxL ret hh).before args s = true) (hy : y.cls ≠ "java/lang/invoke/MethodHandle" ∧ y.cls ≠ "java/lang/invoke/VarHandle")
    {W9 : Nat} {Pre : Pt → Array Value → Prop} {Post : Pt → Array Value → Option Value → Pt → Prop} (hK : Back l R p e below s args y 3 W9 Pre Post)
    {b : Addr} {cellB : Cell} (hcell : T.heap[b]? = some cellB) (hobj : cellB.vm.isStatics = false) (hcls : s.vm.findClass C = some cellB.cls)
    {g : JFrame} (hg : g.method = m) (hsize : g.locals.size = c.maxLocals) {argsL rest : List Value} (hlen : ∀ sig, parseMethodDescriptor y.desc = some sig → argsL.length = sig.parameters.length)
    (hstack : g.stack = argsL.reverse ++ .ref b :: rest) (hW : 2 * g.monitorRoom + (rest.map fun v => v.category).sum ≤ W9) (hdg : decode c.code g.pc = .ok (.invokevirtual index, 3))
    (hpre : ∀ vm₁, s.WarmedH vm₁ → Pre ⟨T.setVm vm₁, locs, cells, slots⟩ (Value.ref b :: argsL).toArray) :
    ∃ (v : Option Value) (vm₁ : Vm) (B : Pt), s.WarmedH vm₁ ∧ Stand p l e R s m args below meth c B.U B.locs B.cells B.slots ∧ Post ⟨T.setVm vm₁, locs, cells, slots⟩ (Value.ref b :: argsL).toArray v B ∧
      ∀ target, Steps p.tables e below (B.U.setTop { g with pc := g.pc + 3, stack := v.toList ++ rest }) target → Steps p.tables e below (T.setTop g) target := by
  obtain ⟨mk, methM, hnamed, hmethM, hstM, habM⟩ := Cond.instanceMethod_spec hinst
  obtain ⟨m8, methM', cM, hn8, hmethM', -, -, -, -, -, -, hsigM⟩ := Cond.codeWith_spec hcode
  cases Option.some.inj (hn8.symm.trans hnamed)
  cases hmethM.symm.trans hmethM'
  obtain ⟨c2, r2, m2, q1, q2, q3, q4, kP, hkP, hkPi⟩ := Cond.selects_spec hsel
  cases hcls.symm.trans q1
  cases (State.methodFound?_of_named hnamed hy).symm.trans q2
  cases hnamed.symm.trans q3
  have hselP : selectMethod e.platform s.vm cellB.cls mk = .method mk := by rw [Launch.admits_selectMethod X.admits]; exact q4
  obtain ⟨vm₁, X₁, hstep₁⟩ := X.invokevirtual hexec hown hlink hnamed hmethM hstM hkP hkPi hy (a := b) (cell := cellB) hcell
    (fun z h => by rw [h] at hobj; cases hobj) hselP hmethM habM hkP hkPi (g := g) hg (argsL := argsL) (rest := rest) (hlen _ hsigM) hstack hdg
  obtain ⟨v, B, X', hpost, hsteps⟩ := hK m meth c ⟨T.setVm vm₁, locs, cells, slots⟩ { g with stack := rest } (.invokevirtual index) mk (Value.ref b :: argsL).toArray X₁ hg hsize hdg hW (X₁.named hnamed) (hpre vm₁ X₁.warmed)
  exact ⟨v, vm₁, B, X₁.warmed, X', hpost, fun target h => hstep₁ _ fun acts => by rw [doInvoke_state]; exact hsteps.trans h⟩
abbrev vx_CVW (R : Room) (s : State) (args : Array Value) (own C : String) (index : Nat) (y : MethodName) (bytes : ByteArray) (maxL : Nat) (ret : Option FieldType) (hh : List (Nat × Nat × Nat × Nat)) (ws : List Cond) (rm : Room) (mc ms n : Nat) : Prop :=
  (rm.cells = mc ∧ rm.slots = ms ∧ rm.frames + 1 ≤ R.frames ∧ 8 + (maxL + 11) + rm.locals ≤ R.locals ∧ (∀ w ∈ ws, ∀ (a' : Array Value) (U : State), s.WarmedH U.vm → w.before a' U = true) ∧ Cond.codeWith y bytes maxL ret hh ∈ ws) ∧
  (Cond.codeWith y bytes maxL ret hh).before args s = true ∧ (Cond.initialized y.cls).before args s = true ∧ (y.cls ≠ "java/lang/invoke/MethodHandle" ∧ y.cls ≠ "java/lang/invoke/VarHandle") ∧
  (∀ sig, parseMethodDescriptor y.desc = some sig → n = sig.parameters.length) ∧ (Cond.methodLink own index y).before args s = true ∧ (Cond.instanceMethod y).before args s = true ∧ (Cond.selects C y y).before args s = true
theorem vx_cwVW {own C : String} {index maxL mc ms : Nat} {y : MethodName} {bytes : ByteArray} {ret : Option FieldType} {hh : List (Nat × Nat × Nat × Nat)} {Ts ws ws' : List Cond} {rm : Room} (n : Nat) (ht : ∀ w ∈ Ts, w.before args s = true) (hT : GoodIn Ts (wsV own index C y ws)) (hw : ws = Cond.codeWith y bytes maxL ret hh :: ws') (hrc : rm.cells = mc) (hrs : rm.slots = ms)
    (hd : y.cls = C ∧ y.cls ≠ "java/lang/invoke/MethodHandle" ∧ y.cls ≠ "java/lang/invoke/VarHandle" ∧ (parseMethodDescriptor y.desc).map (fun d => d.parameters.length) = some n) (hR : rm.frames + 1 ≤ R.frames ∧ 8 + (maxL + 11) + rm.locals ≤ R.locals) :
    vx_CVW R s args own C index y bytes maxL ret hh ws rm mc ms n := by
  obtain ⟨hC, hd⟩ := hd
  subst hC
  have ok : ∀ w ∈ wsV own index y.cls y ws, w.before args s = true := fun w h => ht w (hT w h).1
  have hG : GoodIn Ts ws := fun w h => hT w (by unfold wsV; exact List.mem_append_right _ h)
  have hc : Cond.codeWith y bytes maxL ret hh ∈ ws := by rw [hw]; exact List.mem_cons_self
  refine ⟨⟨hrc, hrs, hR.1, hR.2, pay_in ht hG, hc⟩, ht _ (hG _ hc).1, ok _ (by simp [wsV]), ⟨hd.1, hd.2.1⟩, fun sig h => ?_, ok _ (by simp [wsV]), ok _ (by simp [wsV]), ok _ (by simp [wsV])⟩
  have h2 := hd.2.2
  rw [h] at h2
  exact (Option.some.inj h2).symm
theorem vx_runVW {y : MethodName} {bytes cc : ByteArray} {maxL nL mc ms n index : Nat} {ret : Option FieldType} {hh : List (Nat × Nat × Nat × Nat)} {ws : List Cond} {rm : Room} {Pc : Array Value → State → Prop} {Qc : Array Value → State → Outcome → State → Prop} {free : Addr → Prop} {Ts : List Cond} {own C : String} {b : Addr} {As rest : List Value} {g : JFrame}
    (S : CallFix p m c cc nL s args Ts own) (hM : Met l y ws rm Pc Qc mc ms free) (cw : vx_CVW R s args own C index y bytes maxL ret hh ws rm mc ms n) (hp : PreV s H C b Pc As)
    (hg : g.method = m) (hn : As.length = n) (hsize : g.locals.size = nL) (hstack : g.stack = As.reverse ++ .ref b :: rest) (hW : 2 * g.monitorRoom + (rest.map fun v => v.category).sum ≤ 8) (hdg : decode cc g.pc = .ok (.invokevirtual index, 3)) (hf : cells + mc ≤ R.cells ∧ slots + ms ≤ R.slots) :
    va_Run p l e R s m args below meth c H locs cells slots mc ms g rest (Qc (Value.ref b :: As).toArray) free := by
  obtain ⟨⟨hrc, hrs, hfr, hlo, hws, hcw⟩, hcode, hini, hy, hlen, hl, hin, hse⟩ := cw
  have hK : Back l R p e below s args y 3 8 (PreOf R mc ms Pc) (PostOf Qc mc ms free) := va_backW (hh := hh) (bytes := bytes) (maxL := maxL) (ret := ret) hM hp.1 hrc hrs hfr hlo hws hcw (fun a' U hW => word_at hW (Or.inl (by first | rfl | simp [Cond.onTables, Cond.keeps, Cond.steady])) hini)
  obtain ⟨hx, hb, hml, ho, -⟩ := S
  obtain ⟨-, ⟨cellB, hcB, hoB, hclB⟩, hPc⟩ := hp
  intro T hT X
  obtain ⟨v, vm₁, ⟨U', l2, c2, s2⟩, hW₁, X', ⟨g', mk, t, L, e1, e2, hq, h1, hL, h2, h3⟩, st⟩ := vx_callVW X hx (C := C) (hh := hh) (bytes := bytes) (maxL := maxL) (ret := ret) ho hl hin hse hcode hy hK (by rw [hT]; exact hcB) hoB hclB hg (hsize.trans hml.symm) (argsL := As) (rest := rest) (fun sig h => hn.trans (hlen sig h)) hstack hW (by rw [hb]; exact hdg)
    (fun vm₁ hW₁ => ⟨hf.1, hf.2, hPc (T.setVm vm₁) hT hW₁⟩)
  dsimp only [Pt.U, Pt.locs, Pt.cells, Pt.slots] at X' e1 e2 h1 h2 h3 st
  subst h1; subst h2; subst h3
  exact ⟨v, (T.setVm vm₁).calling g' mk (Value.ref b :: As).toArray, t, U', L, hT, X', hL, e1, e2, hq, st⟩
section
variable {y : MethodName} {bytes cc : ByteArray} {maxL nL mc ms n index : Nat} {ret : Option FieldType} {ws : List Cond} {rm : Room} {Pc : Array Value → State → Prop} {Qc : Array Value → State → Outcome → State → Prop} {XC : String → State → State → Prop} {free : Addr → Prop} {Ts : List Cond} {own C : String} {b : Addr} {As rest : List Value} {g : JFrame}
theorem vx_runVX {hh : List (Nat × Nat × Nat × Nat)} (S : CallFix p m c cc nL s args Ts own) (hM : vx_Met l y ws rm Pc Qc XC mc ms free) (cw : vx_CVW R s args own C index y bytes maxL ret hh ws rm mc ms n) (hp : PreV s H C b Pc As)
    (hg : g.method = m) (hn : As.length = n) (hsize : g.locals.size = nL) (hstack : g.stack = As.reverse ++ .ref b :: rest) (hW : 2 * g.monitorRoom + (rest.map fun v => v.category).sum ≤ 8) (hdg : decode cc g.pc = .ok (.invokevirtual index, 3)) (hf : cells + mc ≤ R.cells ∧ slots + ms ≤ R.slots) :
    vx_Run p l e R s m args below meth c H locs cells slots mc ms g rest (Qc (Value.ref b :: As).toArray) XC free := by
  obtain ⟨⟨hrc, hrs, hfr, hlo, hws, hcw⟩, hcode, hini, hy, hlen, hl, hin, hse⟩ := cw
  have hK : vx_Back l R p e below s args y 3 8 (PreOf R mc ms Pc) (PostOf Qc mc ms free) (vx_Post XC mc ms free) := vx_backW (hh := hh) (bytes := bytes) (maxL := maxL) (ret := ret) hM hp.1 hrc hrs hfr hlo hws hcw (fun a' U hW => word_at hW (Or.inl (by first | rfl | simp [Cond.onTables, Cond.keeps, Cond.steady])) hini)
  obtain ⟨hx, hb, hml, ho, -⟩ := S
  obtain ⟨-, ⟨cellB, hcB, hoB, hclB⟩, hPc⟩ := hp
  intro T hT X
  rcases vx_callVX X hx (C := C) (hh := hh) (bytes := bytes) (maxL := maxL) (ret := ret) ho hl hin hse hcode hy hK (by rw [hT]; exact hcB) hoB hclB hg (hsize.trans hml.symm) (argsL := As) (rest := rest) (fun sig h => hn.trans (hlen sig h)) hstack hW (by rw [hb]; exact hdg)
    (fun vm₁ hW₁ => ⟨hf.1, hf.2, hPc (T.setVm vm₁) hT hW₁⟩) with ⟨v, vm₁, ⟨U', l2, c2, s2⟩, hW₁, X', ⟨g', mk, t, L, e1, e2, hq, h1, hL, h2, h3⟩, st⟩ | ⟨q, vm₁, ⟨U', l2, c2, s2⟩, hW₁, X', ⟨g', mk, t, L, E, ce, e1, e2, hq, hce, hcv, hcl, h1, hL, h2, h3⟩, st⟩
  · dsimp only [Pt.U, Pt.locs, Pt.cells, Pt.slots] at X' e1 e2 h1 h2 h3 st
    subst h1; subst h2; subst h3
    exact Or.inl ⟨v, (T.setVm vm₁).calling g' mk (Value.ref b :: As).toArray, t, U', L, hT, X', hL, e1, e2, hq, st⟩
  · dsimp only [Pt.U, Pt.locs, Pt.cells, Pt.slots] at X' e1 e2 h1 h2 h3 st hcl
    subst h1; subst h2; subst h3
    exact Or.inr ⟨q, (T.setVm vm₁).calling g' mk (Value.ref b :: As).toArray, t, U', L, E, ce, hT, X', hL, e1, e2, hq, hce, hcv, vx_cls hW₁ hcl, st⟩
theorem vx_runSX {hh : List (Nat × Nat × Nat × Nat)} (S : CallFix p m c cc nL s args Ts own) (hM : vx_Met l y ws rm Pc Qc XC mc ms free) (cw : vx_CSW R s args own index y bytes maxL ret hh ws rm mc ms n) (hp : PreS s H Pc As)
    (hg : g.method = m) (hn : As.length = n) (hsize : g.locals.size = nL) (hstack : g.stack = As.reverse ++ rest) (hW : 2 * g.monitorRoom + (rest.map fun v => v.category).sum ≤ 8) (hdg : decode cc g.pc = .ok (.invokestatic index, 3)) (hf : cells + mc ≤ R.cells ∧ slots + ms ≤ R.slots) :
    vx_Run p l e R s m args below meth c H locs cells slots mc ms g rest (Qc As.toArray) XC free := by
  obtain ⟨⟨hrc, hrs, hfr, hlo, hws, hcw⟩, hcode, hini, hy, hlen, hl, hstt⟩ := cw
  have hK : vx_Back l R p e below s args y 3 8 (PreOf R mc ms Pc) (PostOf Qc mc ms free) (vx_Post XC mc ms free) := vx_backW (hh := hh) (bytes := bytes) (maxL := maxL) (ret := ret) hM hp.1 hrc hrs hfr hlo hws hcw (fun a' U hW => word_at hW (Or.inl (by first | rfl | simp [Cond.onTables, Cond.keeps, Cond.steady])) hini)
  obtain ⟨hx, hb, hml, ho, -⟩ := S
  intro T hT X
  rcases vx_callSX X hx (hh := hh) (bytes := bytes) (maxL := maxL) (ret := ret) ho hl hstt hini hcode hy hK hg (hsize.trans hml.symm) (argsL := As) (rest := rest) (fun sig h => hn.trans (hlen sig h)) hstack hW (by rw [hb]; exact hdg)
    (fun vm₁ hW₁ => ⟨hf.1, hf.2, hp.2 (T.setVm vm₁) hT hW₁⟩) with ⟨v, vm₁, ⟨U', l2, c2, s2⟩, hW₁, X', ⟨g', mk, t, L, e1, e2, hq, h1, hL, h2, h3⟩, st⟩ | ⟨q, vm₁, ⟨U', l2, c2, s2⟩, hW₁, X', ⟨g', mk, t, L, E, ce, e1, e2, hq, hce, hcv, hcl, h1, hL, h2, h3⟩, st⟩
  · dsimp only [Pt.U, Pt.locs, Pt.cells, Pt.slots] at X' e1 e2 h1 h2 h3 st
    subst h1; subst h2; subst h3
    exact Or.inl ⟨v, (T.setVm vm₁).calling g' mk As.toArray, t, U', L, hT, X', hL, e1, e2, hq, st⟩
  · dsimp only [Pt.U, Pt.locs, Pt.cells, Pt.slots] at X' e1 e2 h1 h2 h3 st hcl
    subst h1; subst h2; subst h3
    exact Or.inr ⟨q, (T.setVm vm₁).calling g' mk As.toArray, t, U', L, E, ce, hT, X', hL, e1, e2, hq, hce, hcv, vx_cls hW₁ hcl, st⟩
end
end VXH
theorem vx_ofWH {l : Launch} {y : MethodName} {ws ws' : List Cond} {rm : Room} {Pc : Array Value → State → Prop} {Qc : Array Value → State → Outcome → State → Prop} {XC : String → State → State → Prop} {mc ms : Nat} {free : Addr → Prop} {cc : ByteArray} {maxL : Nat} {ret : Option FieldType} {hh : List (Nat × Nat × Nat × Nat)}
    (hy : plainName y.cls = true) (hw : ws = Cond.codeWith y cc maxL ret hh :: ws')
    (body : ∀ p e s m args below meth c s₁, BodyLoose p l y (headSpec ws rm) cc maxL ret e s m args below meth c s₁ → c.maxLocals = maxL → Pc args s →
      W p l e (headSpec ws rm).room s m args below meth c s.heap [] 0 0 (vx_MQ below Qc XC args s mc ms free) (entryFrame m args maxL)) : vx_Met l y ws rm Pc Qc XC mc ms free := by
  refine MetFree.of_bodyS (code := cc) (maxLocals := maxL) (ret := ret) hy ?_ ?_
  · intro args s m h hn
    obtain ⟨m9, meth, c, hn9, h1, h2, h3, h4, -, h5, h6, -⟩ := Cond.codeWith_spec (atoms_spec (ws := ws) h _ (by rw [hw]; exact List.mem_cons_self))
    cases hn.symm.trans hn9
    exact ⟨meth, c, h1, h2, h3, h4, h5, h6⟩
  · intro p e s m args below meth c s₁ B hml hP _
    have hh0 : s₁.heap = s.heap := by rw [B.state]; rfl
    obtain ⟨t, a1, o, b1, b2, b3⟩ := body p e s m args below meth c s₁ B hml hP s₁ hh0 (Stand.of_body B)
    exact ⟨t, o, a1, b1, b2, b3⟩
/-! ===== END ===== -/
end
section
/-! ===== BEGIN printed: names, fields, word lists, decode rows ===== -/
def RX0 : String := "SqueezedVolume$Directory"
def TX0 : u_T := fun k => match k with
  | 0 => ("SqueezedVolume$Directory", "kinds", "LSqueezedVolume$Row;", true)
  | 1 => ("SqueezedVolume$Directory", "lengths", "LSqueezedVolume$Row;", true)
  | 2 => ("SqueezedVolume$Directory", "names", "LSqueezedVolume$Row;", true)
  | 3 => ("SqueezedVolume$Directory", "handles", "LSqueezedVolume$Row;", true)
  | _ => ("SqueezedVolume$Directory", "count", "I", false)
def tyX0 : Nat → FieldType := fun k => match k with
  | 0 => .object "SqueezedVolume$Row"
  | 1 => .object "SqueezedVolume$Row"
  | 2 => .object "SqueezedVolume$Row"
  | 3 => .object "SqueezedVolume$Row"
  | _ => .int
abbrev wsX00 : List Cond := u_ws RX0 TX0 5
theorem nmX0 : ∀ a, a < 5 → ∀ b, b < 5 → a ≠ b → (TX0 a).2.1 ≠ (TX0 b).2.1 := by decide +kernel
theorem tyX0_ok : ∀ k, k < 5 → parseFieldDescriptor (TX0 k).2.2.1 = some (tyX0 k) := by decide +kernel
abbrev cX0_init : ByteArray := prog_2_method_1_code
def yX0_init : MethodName := ⟨RX0, "<init>", "()V"⟩
abbrev cX0_clear : ByteArray := prog_2_method_2_code
def yX0_clear : MethodName := ⟨RX0, "clear", "()V"⟩
abbrev cX0_addEmpty : ByteArray := prog_2_method_3_code
def yX0_addEmpty : MethodName := ⟨RX0, "addEmpty", "(I)V"⟩
abbrev cX0_addRange : ByteArray := prog_2_method_4_code
def yX0_addRange : MethodName := ⟨RX0, "addRange", "(LSqueezedVolume$Directory;II)V"⟩
abbrev cX0_add : ByteArray := prog_2_method_5_code
def yX0_add : MethodName := ⟨RX0, "add", "(IIII)V"⟩
abbrev cX0_takeOver : ByteArray := prog_2_method_6_code
def yX0_takeOver : MethodName := ⟨RX0, "takeOver", "(LSqueezedVolume$Directory;)V"⟩
abbrev cX0_count : ByteArray := prog_2_method_7_code
def yX0_count : MethodName := ⟨RX0, "count", "()I"⟩
abbrev cX0_kindAt : ByteArray := prog_2_method_8_code
def yX0_kindAt : MethodName := ⟨RX0, "kindAt", "(I)I"⟩
abbrev cX0_lengthAt : ByteArray := prog_2_method_9_code
def yX0_lengthAt : MethodName := ⟨RX0, "lengthAt", "(I)I"⟩
abbrev cX0_nameAt : ByteArray := prog_2_method_10_code
def yX0_nameAt : MethodName := ⟨RX0, "nameAt", "(I)I"⟩
abbrev cX0_handleAt : ByteArray := prog_2_method_11_code
def yX0_handleAt : MethodName := ⟨RX0, "handleAt", "(I)I"⟩
abbrev cX0_beginAt : ByteArray := prog_2_method_12_code
def yX0_beginAt : MethodName := ⟨RX0, "beginAt", "(I)I"⟩
abbrev cX0_countOf : ByteArray := prog_2_method_13_code
def yX0_countOf : MethodName := ⟨RX0, "countOf", "(I)I"⟩
abbrev cX0_findTentative : ByteArray := prog_2_method_14_code
def yX0_findTentative : MethodName := ⟨RX0, "findTentative", "(I)I"⟩
abbrev cX0_findPermanent : ByteArray := prog_2_method_15_code
def yX0_findPermanent : MethodName := ⟨RX0, "findPermanent", "(I)I"⟩
abbrev cX0_leastFreeHandle : ByteArray := prog_2_method_16_code
def yX0_leastFreeHandle : MethodName := ⟨RX0, "leastFreeHandle", "()I"⟩
abbrev cX0_leastHandleOf : ByteArray := prog_2_method_17_code
def yX0_leastHandleOf : MethodName := ⟨RX0, "leastHandleOf", "(I)I"⟩
abbrev cX0_findRoom : ByteArray := prog_2_method_18_code
def yX0_findRoom : MethodName := ⟨RX0, "findRoom", "(I)I"⟩
abbrev cX0_findGap : ByteArray := prog_2_method_19_code
def yX0_findGap : MethodName := ⟨RX0, "findGap", "()I"⟩
abbrev cX0_roomToSpare : ByteArray := prog_2_method_20_code
def yX0_roomToSpare : MethodName := ⟨RX0, "roomToSpare", "()I"⟩
abbrev cX0_longestEmpty : ByteArray := prog_2_method_21_code
def yX0_longestEmpty : MethodName := ⟨RX0, "longestEmpty", "()I"⟩
abbrev cX0_emptyBlocks : ByteArray := prog_2_method_22_code
def yX0_emptyBlocks : MethodName := ⟨RX0, "emptyBlocks", "()I"⟩
def RX1 : String := "SqueezedVolume$Power"
def TX1 : u_T := fun k => match k with
  | 0 => ("SqueezedVolume$Power", "up", "Z", false)
  | 1 => ("SqueezedVolume$Power", "left", "I", false)
  | _ => ("SqueezedVolume$Power", "count", "I", false)
def tyX1 : Nat → FieldType := fun k => match k with
  | 0 => .boolean
  | 1 => .int
  | _ => .int
abbrev wsX10 : List Cond := u_ws RX1 TX1 3
theorem nmX1 : ∀ a, a < 3 → ∀ b, b < 3 → a ≠ b → (TX1 a).2.1 ≠ (TX1 b).2.1 := by decide +kernel
theorem tyX1_ok : ∀ k, k < 3 → parseFieldDescriptor (TX1 k).2.2.1 = some (tyX1 k) := by decide +kernel
abbrev cX1_init : ByteArray := prog_3_method_1_code
def yX1_init : MethodName := ⟨RX1, "<init>", "()V"⟩
abbrev cX1_isUp : ByteArray := prog_3_method_2_code
def yX1_isUp : MethodName := ⟨RX1, "isUp", "()Z"⟩
abbrev cX1_made : ByteArray := prog_3_method_3_code
def yX1_made : MethodName := ⟨RX1, "made", "()I"⟩
abbrev cX1_failAfter : ByteArray := prog_3_method_4_code
def yX1_failAfter : MethodName := ⟨RX1, "failAfter", "(I)V"⟩
abbrev cX1_comeAgain : ByteArray := prog_3_method_5_code
def yX1_comeAgain : MethodName := ⟨RX1, "comeAgain", "()V"⟩
abbrev cX1_countWrite : ByteArray := prog_3_method_6_code
def yX1_countWrite : MethodName := ⟨RX1, "countWrite", "()Z"⟩
def RX2 : String := "SqueezedVolume$Row"
def TX2 : u_T := fun k => match k with
  | _ => ("SqueezedVolume$Row", "cells", "[I", true)
def tyX2 : Nat → FieldType := fun k => match k with
  | _ => .array .int
abbrev wsX20 : List Cond := u_ws RX2 TX2 1
theorem nmX2 : ∀ a, a < 1 → ∀ b, b < 1 → a ≠ b → (TX2 a).2.1 ≠ (TX2 b).2.1 := by decide +kernel
theorem tyX2_ok : ∀ k, k < 1 → parseFieldDescriptor (TX2 k).2.2.1 = some (tyX2 k) := by decide +kernel
abbrev cX2_init : ByteArray := prog_4_method_1_code
def yX2_init : MethodName := ⟨RX2, "<init>", "(I)V"⟩
abbrev cX2_at : ByteArray := prog_4_method_2_code
def yX2_at : MethodName := ⟨RX2, "at", "(I)I"⟩
abbrev cX2_set : ByteArray := prog_4_method_3_code
def yX2_set : MethodName := ⟨RX2, "set", "(II)V"⟩
abbrev cX2_takeOver : ByteArray := prog_4_method_4_code
def yX2_takeOver : MethodName := ⟨RX2, "takeOver", "(LSqueezedVolume$Row;)V"⟩
def RX3 : String := "SqueezedVolume"
def TX3 : u_T := fun k => match k with
  | 0 => ("SqueezedVolume", "power", "LSqueezedVolume$Power;", true)
  | 1 => ("SqueezedVolume", "content", "LSqueezedVolume$Row;", true)
  | 2 => ("SqueezedVolume", "directory", "LSqueezedVolume$Directory;", true)
  | 3 => ("SqueezedVolume", "draft", "LSqueezedVolume$Directory;", true)
  | 4 => ("SqueezedVolume", "squeezing", "Z", false)
  | _ => ("SqueezedVolume", "ledger", "I", false)
def tyX3 : Nat → FieldType := fun k => match k with
  | 0 => .object "SqueezedVolume$Power"
  | 1 => .object "SqueezedVolume$Row"
  | 2 => .object "SqueezedVolume$Directory"
  | 3 => .object "SqueezedVolume$Directory"
  | 4 => .boolean
  | _ => .int
abbrev wsX30 : List Cond := u_ws RX3 TX3 6
theorem nmX3 : ∀ a, a < 6 → ∀ b, b < 6 → a ≠ b → (TX3 a).2.1 ≠ (TX3 b).2.1 := by decide +kernel
theorem tyX3_ok : ∀ k, k < 6 → parseFieldDescriptor (TX3 k).2.2.1 = some (tyX3 k) := by decide +kernel
abbrev cX3_init : ByteArray := prog_1_method_1_code
def yX3_init : MethodName := ⟨RX3, "<init>", "()V"⟩
abbrev cX3_enter : ByteArray := prog_1_method_2_code
def yX3_enter : MethodName := ⟨RX3, "enter", "(II)I"⟩
abbrev cX3_put : ByteArray := prog_1_method_3_code
def yX3_put : MethodName := ⟨RX3, "put", "(III)I"⟩
abbrev cX3_close : ByteArray := prog_1_method_4_code
def yX3_close : MethodName := ⟨RX3, "close", "(II)I"⟩
abbrev cX3_purge : ByteArray := prog_1_method_5_code
def yX3_purge : MethodName := ⟨RX3, "purge", "(I)I"⟩
abbrev cX3_delete : ByteArray := prog_1_method_6_code
def yX3_delete : MethodName := ⟨RX3, "delete", "(I)I"⟩
abbrev cX3_rename : ByteArray := prog_1_method_7_code
def yX3_rename : MethodName := ⟨RX3, "rename", "(II)I"⟩
abbrev cX3_read : ByteArray := prog_1_method_8_code
def yX3_read : MethodName := ⟨RX3, "read", "(II)I"⟩
abbrev cX3_squeeze : ByteArray := prog_1_method_9_code
def yX3_squeeze : MethodName := ⟨RX3, "squeeze", "()I"⟩
abbrev cX3_mount : ByteArray := prog_1_method_10_code
def yX3_mount : MethodName := ⟨RX3, "mount", "()I"⟩
abbrev cX3_cutAfter : ByteArray := prog_1_method_11_code
def yX3_cutAfter : MethodName := ⟨RX3, "cutAfter", "(I)V"⟩
abbrev cX3_entry : ByteArray := prog_1_method_12_code
def yX3_entry : MethodName := ⟨RX3, "entry", "(II)I"⟩
abbrev cX3_entries : ByteArray := prog_1_method_13_code
def yX3_entries : MethodName := ⟨RX3, "entries", "()I"⟩
abbrev cX3_free : ByteArray := prog_1_method_14_code
def yX3_free : MethodName := ⟨RX3, "free", "(Z)I"⟩
abbrev cX3_handle : ByteArray := prog_1_method_15_code
def yX3_handle : MethodName := ⟨RX3, "handle", "(I)I"⟩
abbrev cX3_writes : ByteArray := prog_1_method_16_code
def yX3_writes : MethodName := ⟨RX3, "writes", "()I"⟩
abbrev cX3_isOn : ByteArray := prog_1_method_17_code
def yX3_isOn : MethodName := ⟨RX3, "isOn", "()Z"⟩
abbrev cX3_requirePower : ByteArray := prog_1_method_18_code
def yX3_requirePower : MethodName := ⟨RX3, "requirePower", "()V"⟩
abbrev cX3_requireName : ByteArray := prog_1_method_19_code
def yX3_requireName : MethodName := ⟨RX3, "requireName", "(I)V"⟩
abbrev cX3_requireTentative : ByteArray := prog_1_method_20_code
def yX3_requireTentative : MethodName := ⟨RX3, "requireTentative", "(I)I"⟩
abbrev cX3_requirePermanent : ByteArray := prog_1_method_21_code
def yX3_requirePermanent : MethodName := ⟨RX3, "requirePermanent", "(I)I"⟩
abbrev cX3_requireBlock : ByteArray := prog_1_method_22_code
def yX3_requireBlock : MethodName := ⟨RX3, "requireBlock", "(II)V"⟩
abbrev cX3_requireFewEntries : ByteArray := prog_1_method_23_code
def yX3_requireFewEntries : MethodName := ⟨RX3, "requireFewEntries", "()V"⟩
abbrev cX3_draftOpened : ByteArray := prog_1_method_24_code
def yX3_draftOpened : MethodName := ⟨RX3, "draftOpened", "(IIII)V"⟩
abbrev cX3_draftClosed : ByteArray := prog_1_method_25_code
def yX3_draftClosed : MethodName := ⟨RX3, "draftClosed", "(II)V"⟩
abbrev cX3_draftWithoutTentative : ByteArray := prog_1_method_26_code
def yX3_draftWithoutTentative : MethodName := ⟨RX3, "draftWithoutTentative", "()V"⟩
abbrev cX3_draftMovedBefore : ByteArray := prog_1_method_27_code
def yX3_draftMovedBefore : MethodName := ⟨RX3, "draftMovedBefore", "(I)V"⟩
abbrev cX3_makeEmpty : ByteArray := prog_1_method_28_code
def yX3_makeEmpty : MethodName := ⟨RX3, "makeEmpty", "(I)I"⟩
abbrev cX3_change : ByteArray := prog_1_method_29_code
def yX3_change : MethodName := ⟨RX3, "change", "()Z"⟩
abbrev cX3_writeBlock : ByteArray := prog_1_method_30_code
def yX3_writeBlock : MethodName := ⟨RX3, "writeBlock", "(II)Z"⟩
abbrev cX3_writeLedger : ByteArray := prog_1_method_31_code
def yX3_writeLedger : MethodName := ⟨RX3, "writeLedger", "(I)Z"⟩
abbrev cX3_moveAll : ByteArray := prog_1_method_32_code
def yX3_moveAll : MethodName := ⟨RX3, "moveAll", "()I"⟩
abbrev cX3_moveDown : ByteArray := prog_1_method_33_code
def yX3_moveDown : MethodName := ⟨RX3, "moveDown", "(I)Z"⟩
abbrev cX3_copyDown : ByteArray := prog_1_method_34_code
def yX3_copyDown : MethodName := ⟨RX3, "copyDown", "(I)Z"⟩
def RX4 : String := "SqueezedVolumeModel"
def TX4 : u_T := fun k => match k with
  | 0 => ("SqueezedVolumeModel", "code", "I", false)
  | 1 => ("SqueezedVolumeModel", "on", "Z", false)
  | 2 => ("SqueezedVolumeModel", "left", "I", false)
  | 3 => ("SqueezedVolumeModel", "writes", "I", false)
  | 4 => ("SqueezedVolumeModel", "ints", "[I", true)
  | 5 => ("SqueezedVolumeModel", "owner", "[I", true)
  | 6 => ("SqueezedVolumeModel", "next", "[I", true)
  | 7 => ("SqueezedVolumeModel", "kind", "[I", true)
  | 8 => ("SqueezedVolumeModel", "name", "[I", true)
  | 9 => ("SqueezedVolumeModel", "handle", "[I", true)
  | 10 => ("SqueezedVolumeModel", "squeezing", "Z", false)
  | 11 => ("SqueezedVolumeModel", "within", "Z", false)
  | 12 => ("SqueezedVolumeModel", "moving", "Z", false)
  | 13 => ("SqueezedVolumeModel", "mover", "I", false)
  | 14 => ("SqueezedVolumeModel", "from", "I", false)
  | 15 => ("SqueezedVolumeModel", "shift", "I", false)
  | 16 => ("SqueezedVolumeModel", "group", "I", false)
  | 17 => ("SqueezedVolumeModel", "copied", "I", false)
  | 18 => ("SqueezedVolumeModel", "runAt", "I", false)
  | _ => ("SqueezedVolumeModel", "runLength", "I", false)
def tyX4 : Nat → FieldType := fun k => match k with
  | 0 => .int
  | 1 => .boolean
  | 2 => .int
  | 3 => .int
  | 4 => .array .int
  | 5 => .array .int
  | 6 => .array .int
  | 7 => .array .int
  | 8 => .array .int
  | 9 => .array .int
  | 10 => .boolean
  | 11 => .boolean
  | 12 => .boolean
  | 13 => .int
  | 14 => .int
  | 15 => .int
  | 16 => .int
  | 17 => .int
  | 18 => .int
  | _ => .int
abbrev wsX40 : List Cond := u_ws RX4 TX4 20
theorem nmX4 : ∀ a, a < 20 → ∀ b, b < 20 → a ≠ b → (TX4 a).2.1 ≠ (TX4 b).2.1 := by decide +kernel
theorem tyX4_ok : ∀ k, k < 20 → parseFieldDescriptor (TX4 k).2.2.1 = some (tyX4 k) := by decide +kernel
abbrev cX4_init : ByteArray := prog_6_method_1_code
def yX4_init : MethodName := ⟨RX4, "<init>", "()V"⟩
abbrev cX4_thrown : ByteArray := prog_6_method_2_code
def yX4_thrown : MethodName := ⟨RX4, "thrown", "()I"⟩
abbrev cX4_write : ByteArray := prog_6_method_3_code
def yX4_write : MethodName := ⟨RX4, "write", "()Z"⟩
abbrev cX4_runs : ByteArray := prog_6_method_4_code
def yX4_runs : MethodName := ⟨RX4, "runs", "()I"⟩
abbrev cX4_runsNow : ByteArray := prog_6_method_5_code
def yX4_runsNow : MethodName := ⟨RX4, "runsNow", "()I"⟩
abbrev cX4_change : ByteArray := prog_6_method_6_code
def yX4_change : MethodName := ⟨RX4, "change", "()Z"⟩
abbrev cX4_lay : ByteArray := prog_6_method_7_code
def yX4_lay : MethodName := ⟨RX4, "lay", "()V"⟩
abbrev cX4_giveUp : ByteArray := prog_6_method_8_code
def yX4_giveUp : MethodName := ⟨RX4, "giveUp", "(II)V"⟩
abbrev cX4_lengthOf : ByteArray := prog_6_method_9_code
def yX4_lengthOf : MethodName := ⟨RX4, "lengthOf", "(I)I"⟩
abbrev cX4_beginOf : ByteArray := prog_6_method_10_code
def yX4_beginOf : MethodName := ⟨RX4, "beginOf", "(I)I"⟩
abbrev cX4_permanent : ByteArray := prog_6_method_11_code
def yX4_permanent : MethodName := ⟨RX4, "permanent", "(I)I"⟩
abbrev cX4_byHandle : ByteArray := prog_6_method_12_code
def yX4_byHandle : MethodName := ⟨RX4, "byHandle", "(I)I"⟩
abbrev cX4_howMany : ByteArray := prog_6_method_13_code
def yX4_howMany : MethodName := ⟨RX4, "howMany", "(I)I"⟩
abbrev cX4_isName : ByteArray := prog_6_method_14_code
def yX4_isName : MethodName := ⟨RX4, "isName", "(I)Z"⟩
abbrev cX4_runFrom : ByteArray := prog_6_method_15_code
def yX4_runFrom : MethodName := ⟨RX4, "runFrom", "(I)I"⟩
abbrev cX4_fit : ByteArray := prog_6_method_16_code
def yX4_fit : MethodName := ⟨RX4, "fit", "(I)Z"⟩
abbrev cX4_longest : ByteArray := prog_6_method_17_code
def yX4_longest : MethodName := ⟨RX4, "longest", "(Z)I"⟩
abbrev cX4_enter : ByteArray := prog_6_method_18_code
def yX4_enter : MethodName := ⟨RX4, "enter", "(II)I"⟩
abbrev cX4_put : ByteArray := prog_6_method_19_code
def yX4_put : MethodName := ⟨RX4, "put", "(III)I"⟩
abbrev cX4_close : ByteArray := prog_6_method_20_code
def yX4_close : MethodName := ⟨RX4, "close", "(II)I"⟩
abbrev cX4_vanish : ByteArray := prog_6_method_21_code
def yX4_vanish : MethodName := ⟨RX4, "vanish", "(I)I"⟩
abbrev cX4_purge : ByteArray := prog_6_method_22_code
def yX4_purge : MethodName := ⟨RX4, "purge", "(I)I"⟩
abbrev cX4_delete : ByteArray := prog_6_method_23_code
def yX4_delete : MethodName := ⟨RX4, "delete", "(I)I"⟩
abbrev cX4_rename : ByteArray := prog_6_method_24_code
def yX4_rename : MethodName := ⟨RX4, "rename", "(II)I"⟩
abbrev cX4_read : ByteArray := prog_6_method_25_code
def yX4_read : MethodName := ⟨RX4, "read", "(II)I"⟩
abbrev cX4_findMover : ByteArray := prog_6_method_26_code
def yX4_findMover : MethodName := ⟨RX4, "findMover", "()Z"⟩
abbrev cX4_move : ByteArray := prog_6_method_27_code
def yX4_move : MethodName := ⟨RX4, "move", "(IZ)Z"⟩
abbrev cX4_moveAll : ByteArray := prog_6_method_28_code
def yX4_moveAll : MethodName := ⟨RX4, "moveAll", "()Z"⟩
abbrev cX4_squeeze : ByteArray := prog_6_method_29_code
def yX4_squeeze : MethodName := ⟨RX4, "squeeze", "()I"⟩
abbrev cX4_mount : ByteArray := prog_6_method_30_code
def yX4_mount : MethodName := ⟨RX4, "mount", "()I"⟩
abbrev cX4_cutAfter : ByteArray := prog_6_method_31_code
def yX4_cutAfter : MethodName := ⟨RX4, "cutAfter", "(I)V"⟩
abbrev cX4_run : ByteArray := prog_6_method_32_code
def yX4_run : MethodName := ⟨RX4, "run", "(I)Z"⟩
abbrev cX4_entry : ByteArray := prog_6_method_33_code
def yX4_entry : MethodName := ⟨RX4, "entry", "(II)I"⟩
abbrev cX4_entries : ByteArray := prog_6_method_34_code
def yX4_entries : MethodName := ⟨RX4, "entries", "()I"⟩
abbrev cX4_free : ByteArray := prog_6_method_35_code
def yX4_free : MethodName := ⟨RX4, "free", "(Z)I"⟩
abbrev cX4_handle : ByteArray := prog_6_method_36_code
def yX4_handle : MethodName := ⟨RX4, "handle", "(I)I"⟩
abbrev cX4_writes : ByteArray := prog_6_method_37_code
def yX4_writes : MethodName := ⟨RX4, "writes", "()I"⟩
abbrev cX4_isOn : ByteArray := prog_6_method_38_code
def yX4_isOn : MethodName := ⟨RX4, "isOn", "()Z"⟩
def RJx145de : String := "java/io/Serializable"
def TJx145de : u_T := fun k => match k with
  | _ => ("", "", "", false)
def tyJx145de : Nat → FieldType := fun k => match k with
  | _ => .int
abbrev wsJx145de0 : List Cond := u_ws RJx145de TJx145de 0
theorem nmJx145de : ∀ a, a < 0 → ∀ b, b < 0 → a ≠ b → (TJx145de a).2.1 ≠ (TJx145de b).2.1 := by decide +kernel
theorem tyJx145de_ok : ∀ k, k < 0 → parseFieldDescriptor (TJx145de k).2.2.1 = some (tyJx145de k) := by decide +kernel
def RJ9 : String := "java/lang/Math"
def TJ9 : u_T := fun k => match k with
  | _ => ("", "", "", false)
def tyJ9 : Nat → FieldType := fun k => match k with
  | _ => .int
abbrev wsJ90 : List Cond := u_ws RJ9 TJ9 0
theorem nmJ9 : ∀ a, a < 0 → ∀ b, b < 0 → a ≠ b → (TJ9 a).2.1 ≠ (TJ9 b).2.1 := by decide +kernel
theorem tyJ9_ok : ∀ k, k < 0 → parseFieldDescriptor (TJ9 k).2.2.1 = some (tyJ9 k) := by decide +kernel
abbrev cJ9_max_7cf53 : ByteArray := prog_12_method_65_code
def yJ9_max_7cf53 : MethodName := ⟨RJ9, "max", "(II)I"⟩
abbrev cJ9_min_7cf53 : ByteArray := prog_12_method_69_code
def yJ9_min_7cf53 : MethodName := ⟨RJ9, "min", "(II)I"⟩
def RJ0 : String := "java/lang/String"
def TJ0 : u_T := fun k => match k with
  | _ => ("", "", "", false)
def tyJ0 : Nat → FieldType := fun k => match k with
  | _ => .int
abbrev wsJ00 : List Cond := u_ws RJ0 TJ0 0
theorem nmJ0 : ∀ a, a < 0 → ∀ b, b < 0 → a ≠ b → (TJ0 a).2.1 ≠ (TJ0 b).2.1 := by decide +kernel
theorem tyJ0_ok : ∀ k, k < 0 → parseFieldDescriptor (TJ0 k).2.2.1 = some (tyJ0 k) := by decide +kernel
def RL : String := "SqueezedVolumeLaw"
abbrev cL_enter : ByteArray := method_3_code
def yL_enter : MethodName := ⟨RL, "enter", "(LSqueezedVolume;II[J)I"⟩
abbrev cL_put : ByteArray := method_4_code
def yL_put : MethodName := ⟨RL, "put", "(LSqueezedVolume;III[J)I"⟩
abbrev cL_close : ByteArray := method_5_code
def yL_close : MethodName := ⟨RL, "close", "(LSqueezedVolume;II[J)I"⟩
abbrev cL_purge : ByteArray := method_6_code
def yL_purge : MethodName := ⟨RL, "purge", "(LSqueezedVolume;I[J)I"⟩
abbrev cL_delete : ByteArray := method_7_code
def yL_delete : MethodName := ⟨RL, "delete", "(LSqueezedVolume;I[J)I"⟩
abbrev cL_rename : ByteArray := method_8_code
def yL_rename : MethodName := ⟨RL, "rename", "(LSqueezedVolume;II[J)I"⟩
abbrev cL_read : ByteArray := method_9_code
def yL_read : MethodName := ⟨RL, "read", "(LSqueezedVolume;II[J)I"⟩
abbrev cL_squeeze : ByteArray := method_10_code
def yL_squeeze : MethodName := ⟨RL, "squeeze", "(LSqueezedVolume;[J)I"⟩
abbrev cL_mount : ByteArray := method_11_code
def yL_mount : MethodName := ⟨RL, "mount", "(LSqueezedVolume;[J)I"⟩
abbrev cL_cutAfter : ByteArray := method_12_code
def yL_cutAfter : MethodName := ⟨RL, "cutAfter", "(LSqueezedVolume;I)I"⟩
abbrev cL_entry : ByteArray := method_13_code
def yL_entry : MethodName := ⟨RL, "entry", "(LSqueezedVolume;II[J)I"⟩
abbrev cL_entries : ByteArray := method_14_code
def yL_entries : MethodName := ⟨RL, "entries", "(LSqueezedVolume;[J)I"⟩
abbrev cL_free : ByteArray := method_15_code
def yL_free : MethodName := ⟨RL, "free", "(LSqueezedVolume;Z[J)I"⟩
abbrev cL_handle : ByteArray := method_16_code
def yL_handle : MethodName := ⟨RL, "handle", "(LSqueezedVolume;I[J)I"⟩
abbrev cL_law : ByteArray := code
def yL_law : MethodName := ⟨RL, "law", "([I)Z"⟩
def wsX2_init : List Cond := .code yX2_init cX2_init 2 none :: ([.methodLink RX2 1 objectInit, .instanceMethod objectInit, .code objectInit ⟨#[0xb1]⟩ 1 none, .methodLink RX2 7 Lib.Math.max.name, .static Lib.Math.max.name, .initialized "java/lang/Math", .code Lib.Math.max.name Lib.Math.max.code 2 (some .int), .arrayClass .int, .fieldLink RX2 13 "SqueezedVolume$Row" "cells" "[I"] ++ wsX20)
def wsX0_init : List Cond := .code yX0_init cX0_init 1 none :: ([.methodLink RX0 3 objectInit, .instanceMethod objectInit, .code objectInit ⟨#[0xb1]⟩ 1 none, .classLink RX0 9 RX2, .instantiable RX2 1, .initialized RX2, .fieldLink RX0 16 "SqueezedVolume$Directory" "kinds" "LSqueezedVolume$Row;", .fieldLink RX0 20 "SqueezedVolume$Directory" "lengths" "LSqueezedVolume$Row;", .fieldLink RX0 23 "SqueezedVolume$Directory" "names" "LSqueezedVolume$Row;", .fieldLink RX0 26 "SqueezedVolume$Directory" "handles" "LSqueezedVolume$Row;", .fieldLink RX0 29 "SqueezedVolume$Directory" "count" "I", .methodLink RX0 13 yX2_init, .instanceMethod yX2_init, .code yX2_init cX2_init 2 none, .methodLink RX2 1 objectInit, .methodLink RX2 7 Lib.Math.max.name, .static Lib.Math.max.name, .initialized "java/lang/Math", .code Lib.Math.max.name Lib.Math.max.code 2 (some .int), .arrayClass .int, .fieldLink RX2 13 "SqueezedVolume$Row" "cells" "[I"] ++ wsX20 ++ wsX00)
def wsX0_clear : List Cond := .code yX0_clear cX0_clear 1 none :: ([.fieldLink RX0 29 "SqueezedVolume$Directory" "count" "I"] ++ wsX00)
def wsX2_at : List Cond := .code yX2_at cX2_at 2 (some .int) :: ([.fieldLink RX2 13 "SqueezedVolume$Row" "cells" "[I"] ++ wsX20)
def wsX2_set : List Cond := .code yX2_set cX2_set 3 none :: ([.fieldLink RX2 13 "SqueezedVolume$Row" "cells" "[I"] ++ wsX20)
def wsX0_add : List Cond := .code yX0_add cX0_add 6 none :: ([.fieldLink RX0 29 "SqueezedVolume$Directory" "count" "I", .fieldLink RX0 16 "SqueezedVolume$Directory" "kinds" "LSqueezedVolume$Row;", .fieldLink RX0 20 "SqueezedVolume$Directory" "lengths" "LSqueezedVolume$Row;", .fieldLink RX0 23 "SqueezedVolume$Directory" "names" "LSqueezedVolume$Row;", .fieldLink RX0 26 "SqueezedVolume$Directory" "handles" "LSqueezedVolume$Row;", .methodLink RX0 50 yX2_at, .instanceMethod yX2_at, .selects RX2 yX2_at yX2_at, .initialized RX2, .code yX2_at cX2_at 2 (some .int), .fieldLink RX2 13 "SqueezedVolume$Row" "cells" "[I", .methodLink RX0 53 yX2_set, .instanceMethod yX2_set, .selects RX2 yX2_set yX2_set, .code yX2_set cX2_set 3 none] ++ wsX00 ++ wsX20)
def wsX0_addEmpty : List Cond := .code yX0_addEmpty cX0_addEmpty 2 none :: ([.methodLink RX0 33 yX0_add, .instanceMethod yX0_add, .selects RX0 yX0_add yX0_add, .initialized RX0, .code yX0_add cX0_add 6 none, .fieldLink RX0 29 "SqueezedVolume$Directory" "count" "I", .fieldLink RX0 16 "SqueezedVolume$Directory" "kinds" "LSqueezedVolume$Row;", .fieldLink RX0 20 "SqueezedVolume$Directory" "lengths" "LSqueezedVolume$Row;", .fieldLink RX0 23 "SqueezedVolume$Directory" "names" "LSqueezedVolume$Row;", .fieldLink RX0 26 "SqueezedVolume$Directory" "handles" "LSqueezedVolume$Row;", .methodLink RX0 50 yX2_at, .instanceMethod yX2_at, .selects RX2 yX2_at yX2_at, .initialized RX2, .code yX2_at cX2_at 2 (some .int), .fieldLink RX2 13 "SqueezedVolume$Row" "cells" "[I", .methodLink RX0 53 yX2_set, .instanceMethod yX2_set, .selects RX2 yX2_set yX2_set, .code yX2_set cX2_set 3 none] ++ wsX00 ++ wsX20)
def wsX0_kindAt : List Cond := .code yX0_kindAt cX0_kindAt 2 (some .int) :: ([.fieldLink RX0 16 "SqueezedVolume$Directory" "kinds" "LSqueezedVolume$Row;", .methodLink RX0 50 yX2_at, .instanceMethod yX2_at, .selects RX2 yX2_at yX2_at, .initialized RX2, .code yX2_at cX2_at 2 (some .int), .fieldLink RX2 13 "SqueezedVolume$Row" "cells" "[I"] ++ wsX00 ++ wsX20)
def wsX0_lengthAt : List Cond := .code yX0_lengthAt cX0_lengthAt 2 (some .int) :: ([.fieldLink RX0 20 "SqueezedVolume$Directory" "lengths" "LSqueezedVolume$Row;", .methodLink RX0 50 yX2_at, .instanceMethod yX2_at, .selects RX2 yX2_at yX2_at, .initialized RX2, .code yX2_at cX2_at 2 (some .int), .fieldLink RX2 13 "SqueezedVolume$Row" "cells" "[I"] ++ wsX00 ++ wsX20)
def wsX0_nameAt : List Cond := .code yX0_nameAt cX0_nameAt 2 (some .int) :: ([.fieldLink RX0 23 "SqueezedVolume$Directory" "names" "LSqueezedVolume$Row;", .methodLink RX0 50 yX2_at, .instanceMethod yX2_at, .selects RX2 yX2_at yX2_at, .initialized RX2, .code yX2_at cX2_at 2 (some .int), .fieldLink RX2 13 "SqueezedVolume$Row" "cells" "[I"] ++ wsX00 ++ wsX20)
def wsX0_handleAt : List Cond := .code yX0_handleAt cX0_handleAt 2 (some .int) :: ([.fieldLink RX0 26 "SqueezedVolume$Directory" "handles" "LSqueezedVolume$Row;", .methodLink RX0 50 yX2_at, .instanceMethod yX2_at, .selects RX2 yX2_at yX2_at, .initialized RX2, .code yX2_at cX2_at 2 (some .int), .fieldLink RX2 13 "SqueezedVolume$Row" "cells" "[I"] ++ wsX00 ++ wsX20)
def wsX0_addRange_r1 : List Cond := [Cond.methodLink RX0 37 yX0_kindAt, Cond.instanceMethod yX0_kindAt, Cond.selects RX0 yX0_kindAt yX0_kindAt, Cond.initialized RX0, Cond.code yX0_kindAt cX0_kindAt 2 (some .int), Cond.fieldLink RX0 16 "SqueezedVolume$Directory" "kinds" "LSqueezedVolume$Row;", Cond.methodLink RX0 50 yX2_at, Cond.instanceMethod yX2_at, Cond.selects RX2 yX2_at yX2_at, Cond.initialized RX2, Cond.code yX2_at cX2_at 2 (some .int), Cond.fieldLink RX2 13 "SqueezedVolume$Row" "cells" "[I", Cond.methodLink RX0 41 yX0_lengthAt, Cond.instanceMethod yX0_lengthAt, Cond.selects RX0 yX0_lengthAt yX0_lengthAt, Cond.code yX0_lengthAt cX0_lengthAt 2 (some .int), Cond.fieldLink RX0 20 "SqueezedVolume$Directory" "lengths" "LSqueezedVolume$Row;", Cond.methodLink RX0 44 yX0_nameAt, Cond.instanceMethod yX0_nameAt, Cond.selects RX0 yX0_nameAt yX0_nameAt, Cond.code yX0_nameAt cX0_nameAt 2 (some .int), Cond.fieldLink RX0 23 "SqueezedVolume$Directory" "names" "LSqueezedVolume$Row;", Cond.methodLink RX0 47 yX0_handleAt, Cond.instanceMethod yX0_handleAt]
def wsX0_addRange_r2 : List Cond := [Cond.selects RX0 yX0_handleAt yX0_handleAt, Cond.code yX0_handleAt cX0_handleAt 2 (some .int), Cond.fieldLink RX0 26 "SqueezedVolume$Directory" "handles" "LSqueezedVolume$Row;", Cond.methodLink RX0 33 yX0_add, Cond.instanceMethod yX0_add, Cond.selects RX0 yX0_add yX0_add, Cond.code yX0_add cX0_add 6 none, Cond.fieldLink RX0 29 "SqueezedVolume$Directory" "count" "I", Cond.methodLink RX0 53 yX2_set, Cond.instanceMethod yX2_set, Cond.selects RX2 yX2_set yX2_set, Cond.code yX2_set cX2_set 3 none]
def wsX0_addRange : List Cond := .code yX0_addRange cX0_addRange 5 none :: ((wsX0_addRange_r1 ++ wsX0_addRange_r2) ++ wsX00 ++ wsX20)
def wsX2_takeOver : List Cond := .code yX2_takeOver cX2_takeOver 3 none :: ([.fieldLink RX2 13 "SqueezedVolume$Row" "cells" "[I", .methodLink RX2 19 yX2_at, .instanceMethod yX2_at, .selects RX2 yX2_at yX2_at, .initialized RX2, .code yX2_at cX2_at 2 (some .int)] ++ wsX20)
def wsX0_takeOver : List Cond := .code yX0_takeOver cX0_takeOver 2 none :: ([.fieldLink RX0 16 "SqueezedVolume$Directory" "kinds" "LSqueezedVolume$Row;", .fieldLink RX0 20 "SqueezedVolume$Directory" "lengths" "LSqueezedVolume$Row;", .fieldLink RX0 23 "SqueezedVolume$Directory" "names" "LSqueezedVolume$Row;", .fieldLink RX0 26 "SqueezedVolume$Directory" "handles" "LSqueezedVolume$Row;", .fieldLink RX0 29 "SqueezedVolume$Directory" "count" "I", .methodLink RX0 57 yX2_takeOver, .instanceMethod yX2_takeOver, .selects RX2 yX2_takeOver yX2_takeOver, .initialized RX2, .code yX2_takeOver cX2_takeOver 3 none, .fieldLink RX2 13 "SqueezedVolume$Row" "cells" "[I", .methodLink RX2 19 yX2_at, .instanceMethod yX2_at, .selects RX2 yX2_at yX2_at, .code yX2_at cX2_at 2 (some .int)] ++ wsX00 ++ wsX20)
def wsX0_count : List Cond := .code yX0_count cX0_count 1 (some .int) :: ([.fieldLink RX0 29 "SqueezedVolume$Directory" "count" "I"] ++ wsX00)
def wsX0_beginAt : List Cond := .code yX0_beginAt cX0_beginAt 4 (some .int) :: ([.fieldLink RX0 29 "SqueezedVolume$Directory" "count" "I", .fieldLink RX0 20 "SqueezedVolume$Directory" "lengths" "LSqueezedVolume$Row;", .methodLink RX0 50 yX2_at, .instanceMethod yX2_at, .selects RX2 yX2_at yX2_at, .initialized RX2, .code yX2_at cX2_at 2 (some .int), .fieldLink RX2 13 "SqueezedVolume$Row" "cells" "[I"] ++ wsX00 ++ wsX20)
def wsX0_countOf : List Cond := .code yX0_countOf cX0_countOf 4 (some .int) :: ([.fieldLink RX0 29 "SqueezedVolume$Directory" "count" "I", .fieldLink RX0 16 "SqueezedVolume$Directory" "kinds" "LSqueezedVolume$Row;", .methodLink RX0 50 yX2_at, .instanceMethod yX2_at, .selects RX2 yX2_at yX2_at, .initialized RX2, .code yX2_at cX2_at 2 (some .int), .fieldLink RX2 13 "SqueezedVolume$Row" "cells" "[I"] ++ wsX00 ++ wsX20)
def wsX0_findTentative : List Cond := .code yX0_findTentative cX0_findTentative 3 (some .int) :: ([.fieldLink RX0 29 "SqueezedVolume$Directory" "count" "I", .fieldLink RX0 16 "SqueezedVolume$Directory" "kinds" "LSqueezedVolume$Row;", .fieldLink RX0 26 "SqueezedVolume$Directory" "handles" "LSqueezedVolume$Row;", .methodLink RX0 50 yX2_at, .instanceMethod yX2_at, .selects RX2 yX2_at yX2_at, .initialized RX2, .code yX2_at cX2_at 2 (some .int), .fieldLink RX2 13 "SqueezedVolume$Row" "cells" "[I"] ++ wsX00 ++ wsX20)
def wsX0_findPermanent : List Cond := .code yX0_findPermanent cX0_findPermanent 3 (some .int) :: ([.fieldLink RX0 29 "SqueezedVolume$Directory" "count" "I", .fieldLink RX0 16 "SqueezedVolume$Directory" "kinds" "LSqueezedVolume$Row;", .fieldLink RX0 23 "SqueezedVolume$Directory" "names" "LSqueezedVolume$Row;", .methodLink RX0 50 yX2_at, .instanceMethod yX2_at, .selects RX2 yX2_at yX2_at, .initialized RX2, .code yX2_at cX2_at 2 (some .int), .fieldLink RX2 13 "SqueezedVolume$Row" "cells" "[I"] ++ wsX00 ++ wsX20)
def wsX0_leastFreeHandle : List Cond := .code yX0_leastFreeHandle cX0_leastFreeHandle 2 (some .int) :: ([.methodLink RX0 61 yX0_findTentative, .instanceMethod yX0_findTentative, .selects RX0 yX0_findTentative yX0_findTentative, .initialized RX0, .code yX0_findTentative cX0_findTentative 3 (some .int), .fieldLink RX0 29 "SqueezedVolume$Directory" "count" "I", .fieldLink RX0 16 "SqueezedVolume$Directory" "kinds" "LSqueezedVolume$Row;", .fieldLink RX0 26 "SqueezedVolume$Directory" "handles" "LSqueezedVolume$Row;", .methodLink RX0 50 yX2_at, .instanceMethod yX2_at, .selects RX2 yX2_at yX2_at, .initialized RX2, .code yX2_at cX2_at 2 (some .int), .fieldLink RX2 13 "SqueezedVolume$Row" "cells" "[I"] ++ wsX00 ++ wsX20)
def wsX0_leastHandleOf : List Cond := .code yX0_leastHandleOf cX0_leastHandleOf 4 (some .int) :: ([.fieldLink RX0 23 "SqueezedVolume$Directory" "names" "LSqueezedVolume$Row;", .methodLink RX0 61 yX0_findTentative, .instanceMethod yX0_findTentative, .selects RX0 yX0_findTentative yX0_findTentative, .initialized RX0, .code yX0_findTentative cX0_findTentative 3 (some .int), .fieldLink RX0 29 "SqueezedVolume$Directory" "count" "I", .fieldLink RX0 16 "SqueezedVolume$Directory" "kinds" "LSqueezedVolume$Row;", .fieldLink RX0 26 "SqueezedVolume$Directory" "handles" "LSqueezedVolume$Row;", .methodLink RX0 50 yX2_at, .instanceMethod yX2_at, .selects RX2 yX2_at yX2_at, .initialized RX2, .code yX2_at cX2_at 2 (some .int), .fieldLink RX2 13 "SqueezedVolume$Row" "cells" "[I"] ++ wsX00 ++ wsX20)
def wsX0_findRoom : List Cond := .code yX0_findRoom cX0_findRoom 4 (some .int) :: ([.fieldLink RX0 29 "SqueezedVolume$Directory" "count" "I", .fieldLink RX0 16 "SqueezedVolume$Directory" "kinds" "LSqueezedVolume$Row;", .fieldLink RX0 20 "SqueezedVolume$Directory" "lengths" "LSqueezedVolume$Row;", .methodLink RX0 50 yX2_at, .instanceMethod yX2_at, .selects RX2 yX2_at yX2_at, .initialized RX2, .code yX2_at cX2_at 2 (some .int), .fieldLink RX2 13 "SqueezedVolume$Row" "cells" "[I"] ++ wsX00 ++ wsX20)
def wsX0_findGap : List Cond := .code yX0_findGap cX0_findGap 2 (some .int) :: ([.fieldLink RX0 29 "SqueezedVolume$Directory" "count" "I", .fieldLink RX0 16 "SqueezedVolume$Directory" "kinds" "LSqueezedVolume$Row;", .methodLink RX0 50 yX2_at, .instanceMethod yX2_at, .selects RX2 yX2_at yX2_at, .initialized RX2, .code yX2_at cX2_at 2 (some .int), .fieldLink RX2 13 "SqueezedVolume$Row" "cells" "[I"] ++ wsX00 ++ wsX20)
def wsX0_roomToSpare : List Cond := .code yX0_roomToSpare cX0_roomToSpare 5 (some .int) :: ([.fieldLink RX0 29 "SqueezedVolume$Directory" "count" "I", .fieldLink RX0 16 "SqueezedVolume$Directory" "kinds" "LSqueezedVolume$Row;", .fieldLink RX0 20 "SqueezedVolume$Directory" "lengths" "LSqueezedVolume$Row;", .methodLink RX0 64 Lib.Math.min.name, .static Lib.Math.min.name, .initialized "java/lang/Math", .code Lib.Math.min.name Lib.Math.min.code 2 (some .int), .methodLink RX0 70 Lib.Math.max.name, .static Lib.Math.max.name, .code Lib.Math.max.name Lib.Math.max.code 2 (some .int), .methodLink RX0 50 yX2_at, .instanceMethod yX2_at, .selects RX2 yX2_at yX2_at, .initialized RX2, .code yX2_at cX2_at 2 (some .int), .fieldLink RX2 13 "SqueezedVolume$Row" "cells" "[I"] ++ wsX00 ++ wsX20)
def wsX0_longestEmpty : List Cond := .code yX0_longestEmpty cX0_longestEmpty 3 (some .int) :: ([.fieldLink RX0 29 "SqueezedVolume$Directory" "count" "I", .fieldLink RX0 16 "SqueezedVolume$Directory" "kinds" "LSqueezedVolume$Row;", .fieldLink RX0 20 "SqueezedVolume$Directory" "lengths" "LSqueezedVolume$Row;", .methodLink RX0 70 Lib.Math.max.name, .static Lib.Math.max.name, .initialized "java/lang/Math", .code Lib.Math.max.name Lib.Math.max.code 2 (some .int), .methodLink RX0 50 yX2_at, .instanceMethod yX2_at, .selects RX2 yX2_at yX2_at, .initialized RX2, .code yX2_at cX2_at 2 (some .int), .fieldLink RX2 13 "SqueezedVolume$Row" "cells" "[I"] ++ wsX00 ++ wsX20)
def wsX0_emptyBlocks : List Cond := .code yX0_emptyBlocks cX0_emptyBlocks 3 (some .int) :: ([.fieldLink RX0 29 "SqueezedVolume$Directory" "count" "I", .fieldLink RX0 16 "SqueezedVolume$Directory" "kinds" "LSqueezedVolume$Row;", .fieldLink RX0 20 "SqueezedVolume$Directory" "lengths" "LSqueezedVolume$Row;", .methodLink RX0 50 yX2_at, .instanceMethod yX2_at, .selects RX2 yX2_at yX2_at, .initialized RX2, .code yX2_at cX2_at 2 (some .int), .fieldLink RX2 13 "SqueezedVolume$Row" "cells" "[I"] ++ wsX00 ++ wsX20)
def wsX1_init : List Cond := .code yX1_init cX1_init 1 none :: ([.methodLink RX1 3 objectInit, .instanceMethod objectInit, .code objectInit ⟨#[0xb1]⟩ 1 none, .fieldLink RX1 9 "SqueezedVolume$Power" "up" "Z", .fieldLink RX1 15 "SqueezedVolume$Power" "left" "I", .fieldLink RX1 19 "SqueezedVolume$Power" "count" "I"] ++ wsX10)
def wsX1_isUp : List Cond := .code yX1_isUp cX1_isUp 1 (some .boolean) :: ([.fieldLink RX1 9 "SqueezedVolume$Power" "up" "Z"] ++ wsX10)
def wsX1_made : List Cond := .code yX1_made cX1_made 1 (some .int) :: ([.fieldLink RX1 19 "SqueezedVolume$Power" "count" "I"] ++ wsX10)
def wsX1_failAfter : List Cond := .code yX1_failAfter cX1_failAfter 2 none :: ([.fieldLink RX1 15 "SqueezedVolume$Power" "left" "I"] ++ wsX10)
def wsX1_comeAgain : List Cond := .code yX1_comeAgain cX1_comeAgain 1 none :: ([.fieldLink RX1 9 "SqueezedVolume$Power" "up" "Z", .fieldLink RX1 15 "SqueezedVolume$Power" "left" "I"] ++ wsX10)
def wsX1_countWrite : List Cond := .code yX1_countWrite cX1_countWrite 1 (some .boolean) :: ([.fieldLink RX1 15 "SqueezedVolume$Power" "left" "I", .fieldLink RX1 9 "SqueezedVolume$Power" "up" "Z", .fieldLink RX1 19 "SqueezedVolume$Power" "count" "I"] ++ wsX10)
def wsX3_init_r1 : List Cond := [Cond.methodLink RX3 1 objectInit, Cond.instanceMethod objectInit, Cond.code objectInit ⟨#[0xb1]⟩ 1 none, Cond.classLink RX3 7 RX1, Cond.instantiable RX1 3, Cond.initialized RX1, Cond.fieldLink RX3 10 "SqueezedVolume" "power" "LSqueezedVolume$Power;", Cond.classLink RX3 16 RX2, Cond.instantiable RX2 1, Cond.initialized RX2, Cond.fieldLink RX3 21 "SqueezedVolume" "content" "LSqueezedVolume$Row;", Cond.classLink RX3 25 RX0, Cond.instantiable RX0 5, Cond.initialized RX0, Cond.fieldLink RX3 28 "SqueezedVolume" "directory" "LSqueezedVolume$Directory;", Cond.fieldLink RX3 32 "SqueezedVolume" "draft" "LSqueezedVolume$Directory;", Cond.fieldLink RX3 35 "SqueezedVolume" "squeezing" "Z", Cond.fieldLink RX3 39 "SqueezedVolume" "ledger" "I", Cond.methodLink RX3 9 yX1_init, Cond.instanceMethod yX1_init, Cond.code yX1_init cX1_init 1 none, Cond.methodLink RX1 3 objectInit, Cond.fieldLink RX1 9 "SqueezedVolume$Power" "up" "Z", Cond.fieldLink RX1 15 "SqueezedVolume$Power" "left" "I"]
def wsX3_init_r2 : List Cond := [Cond.fieldLink RX1 19 "SqueezedVolume$Power" "count" "I", Cond.methodLink RX3 18 yX2_init, Cond.instanceMethod yX2_init, Cond.code yX2_init cX2_init 2 none, Cond.methodLink RX2 1 objectInit, Cond.methodLink RX2 7 Lib.Math.max.name, Cond.static Lib.Math.max.name, Cond.initialized "java/lang/Math", Cond.code Lib.Math.max.name Lib.Math.max.code 2 (some .int), Cond.arrayClass .int, Cond.fieldLink RX2 13 "SqueezedVolume$Row" "cells" "[I", Cond.methodLink RX3 27 yX0_init, Cond.instanceMethod yX0_init, Cond.code yX0_init cX0_init 1 none, Cond.methodLink RX0 3 objectInit, Cond.classLink RX0 9 RX2, Cond.fieldLink RX0 16 "SqueezedVolume$Directory" "kinds" "LSqueezedVolume$Row;", Cond.fieldLink RX0 20 "SqueezedVolume$Directory" "lengths" "LSqueezedVolume$Row;", Cond.fieldLink RX0 23 "SqueezedVolume$Directory" "names" "LSqueezedVolume$Row;", Cond.fieldLink RX0 26 "SqueezedVolume$Directory" "handles" "LSqueezedVolume$Row;", Cond.fieldLink RX0 29 "SqueezedVolume$Directory" "count" "I", Cond.methodLink RX0 13 yX2_init, Cond.methodLink RX3 43 yX0_addEmpty, Cond.instanceMethod yX0_addEmpty]
def wsX3_init_r3 : List Cond := [Cond.selects RX0 yX0_addEmpty yX0_addEmpty, Cond.code yX0_addEmpty cX0_addEmpty 2 none, Cond.methodLink RX0 33 yX0_add, Cond.instanceMethod yX0_add, Cond.selects RX0 yX0_add yX0_add, Cond.code yX0_add cX0_add 6 none, Cond.methodLink RX0 50 yX2_at, Cond.instanceMethod yX2_at, Cond.selects RX2 yX2_at yX2_at, Cond.code yX2_at cX2_at 2 (some .int), Cond.methodLink RX0 53 yX2_set, Cond.instanceMethod yX2_set, Cond.selects RX2 yX2_set yX2_set, Cond.code yX2_set cX2_set 3 none]
def wsX3_init : List Cond := .code yX3_init cX3_init 1 none :: ((wsX3_init_r1 ++ (wsX3_init_r2 ++ wsX3_init_r3)) ++ wsX10 ++ wsX30 ++ wsX20 ++ wsX00)
def wsX3_requirePower : List Cond := .code yX3_requirePower cX3_requirePower 1 none :: ([.classLink RX3 63 "java/lang/IllegalStateException", .initialized "java/lang/IllegalStateException", .fieldLink RX3 10 "SqueezedVolume" "power" "LSqueezedVolume$Power;", .methodLink RX3 151 yX1_isUp, .instanceMethod yX1_isUp, .selects RX1 yX1_isUp yX1_isUp, .initialized RX1, .code yX1_isUp cX1_isUp 1 (some .boolean), .fieldLink RX1 9 "SqueezedVolume$Power" "up" "Z"] ++ wsX30 ++ wsX10 ++ (vx_atS RX3 67 "java/lang/IllegalStateException" ["java/lang/RuntimeException", "java/lang/Exception"]).filter goodWord)
def wsX3_requireName : List Cond := .code yX3_requireName cX3_requireName 2 none :: ([.classLink RX3 52 "java/lang/IllegalArgumentException", .initialized "java/lang/IllegalArgumentException"] ++ (vx_atS RX3 56 "java/lang/IllegalArgumentException" ["java/lang/RuntimeException", "java/lang/Exception"]).filter goodWord)
def wsX3_draftOpened_r1 : List Cond := [Cond.fieldLink RX3 32 "SqueezedVolume" "draft" "LSqueezedVolume$Directory;", Cond.fieldLink RX3 28 "SqueezedVolume" "directory" "LSqueezedVolume$Directory;", Cond.methodLink RX3 127 yX0_clear, Cond.instanceMethod yX0_clear, Cond.selects RX0 yX0_clear yX0_clear, Cond.initialized RX0, Cond.code yX0_clear cX0_clear 1 none, Cond.fieldLink RX0 29 "SqueezedVolume$Directory" "count" "I", Cond.methodLink RX3 130 yX0_addRange, Cond.instanceMethod yX0_addRange, Cond.selects RX0 yX0_addRange yX0_addRange, Cond.code yX0_addRange cX0_addRange 5 none, Cond.methodLink RX0 37 yX0_kindAt, Cond.instanceMethod yX0_kindAt, Cond.selects RX0 yX0_kindAt yX0_kindAt, Cond.code yX0_kindAt cX0_kindAt 2 (some .int), Cond.fieldLink RX0 16 "SqueezedVolume$Directory" "kinds" "LSqueezedVolume$Row;", Cond.methodLink RX0 50 yX2_at, Cond.instanceMethod yX2_at, Cond.selects RX2 yX2_at yX2_at, Cond.initialized RX2, Cond.code yX2_at cX2_at 2 (some .int), Cond.fieldLink RX2 13 "SqueezedVolume$Row" "cells" "[I", Cond.methodLink RX0 41 yX0_lengthAt]
def wsX3_draftOpened_r2 : List Cond := [Cond.instanceMethod yX0_lengthAt, Cond.selects RX0 yX0_lengthAt yX0_lengthAt, Cond.code yX0_lengthAt cX0_lengthAt 2 (some .int), Cond.fieldLink RX0 20 "SqueezedVolume$Directory" "lengths" "LSqueezedVolume$Row;", Cond.methodLink RX0 44 yX0_nameAt, Cond.instanceMethod yX0_nameAt, Cond.selects RX0 yX0_nameAt yX0_nameAt, Cond.code yX0_nameAt cX0_nameAt 2 (some .int), Cond.fieldLink RX0 23 "SqueezedVolume$Directory" "names" "LSqueezedVolume$Row;", Cond.methodLink RX0 47 yX0_handleAt, Cond.instanceMethod yX0_handleAt, Cond.selects RX0 yX0_handleAt yX0_handleAt, Cond.code yX0_handleAt cX0_handleAt 2 (some .int), Cond.fieldLink RX0 26 "SqueezedVolume$Directory" "handles" "LSqueezedVolume$Row;", Cond.methodLink RX0 33 yX0_add, Cond.instanceMethod yX0_add, Cond.selects RX0 yX0_add yX0_add, Cond.code yX0_add cX0_add 6 none, Cond.methodLink RX0 53 yX2_set, Cond.instanceMethod yX2_set, Cond.selects RX2 yX2_set yX2_set, Cond.code yX2_set cX2_set 3 none, Cond.methodLink RX3 134 yX0_add, Cond.methodLink RX3 105 yX0_lengthAt]
def wsX3_draftOpened_r3 : List Cond := [Cond.methodLink RX3 43 yX0_addEmpty, Cond.instanceMethod yX0_addEmpty, Cond.selects RX0 yX0_addEmpty yX0_addEmpty, Cond.code yX0_addEmpty cX0_addEmpty 2 none, Cond.methodLink RX3 137 yX0_count, Cond.instanceMethod yX0_count, Cond.selects RX0 yX0_count yX0_count, Cond.code yX0_count cX0_count 1 (some .int)]
def wsX3_draftOpened : List Cond := .code yX3_draftOpened cX3_draftOpened 5 none :: ((wsX3_draftOpened_r1 ++ (wsX3_draftOpened_r2 ++ wsX3_draftOpened_r3)) ++ wsX30 ++ wsX00 ++ wsX20)
def wsX3_requireFewEntries : List Cond := .code yX3_requireFewEntries cX3_requireFewEntries 1 none :: ([.classLink RX3 75 "java/lang/UnsupportedOperationException", .initialized "java/lang/UnsupportedOperationException", .fieldLink RX3 32 "SqueezedVolume" "draft" "LSqueezedVolume$Directory;", .methodLink RX3 137 yX0_count, .instanceMethod yX0_count, .selects RX0 yX0_count yX0_count, .initialized RX0, .code yX0_count cX0_count 1 (some .int), .fieldLink RX0 29 "SqueezedVolume$Directory" "count" "I"] ++ wsX30 ++ wsX00 ++ (vx_atS RX3 79 "java/lang/UnsupportedOperationException" ["java/lang/RuntimeException", "java/lang/Exception"]).filter goodWord)
def wsX3_change_r1 : List Cond := [Cond.fieldLink RX3 32 "SqueezedVolume" "draft" "LSqueezedVolume$Directory;", Cond.fieldLink RX3 10 "SqueezedVolume" "power" "LSqueezedVolume$Power;", Cond.fieldLink RX3 28 "SqueezedVolume" "directory" "LSqueezedVolume$Directory;", Cond.methodLink RX3 137 yX0_count, Cond.instanceMethod yX0_count, Cond.selects RX0 yX0_count yX0_count, Cond.initialized RX0, Cond.code yX0_count cX0_count 1 (some .int), Cond.fieldLink RX0 29 "SqueezedVolume$Directory" "count" "I", Cond.methodLink RX3 207 yX1_countWrite, Cond.instanceMethod yX1_countWrite, Cond.selects RX1 yX1_countWrite yX1_countWrite, Cond.initialized RX1, Cond.code yX1_countWrite cX1_countWrite 1 (some .boolean), Cond.fieldLink RX1 15 "SqueezedVolume$Power" "left" "I", Cond.fieldLink RX1 9 "SqueezedVolume$Power" "up" "Z", Cond.fieldLink RX1 19 "SqueezedVolume$Power" "count" "I", Cond.methodLink RX3 210 yX0_takeOver, Cond.instanceMethod yX0_takeOver, Cond.selects RX0 yX0_takeOver yX0_takeOver, Cond.code yX0_takeOver cX0_takeOver 2 none, Cond.fieldLink RX0 16 "SqueezedVolume$Directory" "kinds" "LSqueezedVolume$Row;", Cond.fieldLink RX0 20 "SqueezedVolume$Directory" "lengths" "LSqueezedVolume$Row;", Cond.fieldLink RX0 23 "SqueezedVolume$Directory" "names" "LSqueezedVolume$Row;"]
def wsX3_change_r2 : List Cond := [Cond.fieldLink RX0 26 "SqueezedVolume$Directory" "handles" "LSqueezedVolume$Row;", Cond.methodLink RX0 57 yX2_takeOver, Cond.instanceMethod yX2_takeOver, Cond.selects RX2 yX2_takeOver yX2_takeOver, Cond.initialized RX2, Cond.code yX2_takeOver cX2_takeOver 3 none, Cond.fieldLink RX2 13 "SqueezedVolume$Row" "cells" "[I", Cond.methodLink RX2 19 yX2_at, Cond.instanceMethod yX2_at, Cond.selects RX2 yX2_at yX2_at, Cond.code yX2_at cX2_at 2 (some .int)]
def wsX3_change : List Cond := .code yX3_change cX3_change 3 (some .boolean) :: ((wsX3_change_r1 ++ wsX3_change_r2) ++ wsX30 ++ wsX00 ++ wsX10 ++ wsX20)
def wsX3_enter_r1 : List Cond := [Cond.classLink RX3 52 "java/lang/IllegalArgumentException", Cond.initialized "java/lang/IllegalArgumentException", Cond.classLink RX3 63 "java/lang/IllegalStateException", Cond.initialized "java/lang/IllegalStateException", Cond.classLink RX3 75 "java/lang/UnsupportedOperationException", Cond.initialized "java/lang/UnsupportedOperationException", Cond.fieldLink RX3 28 "SqueezedVolume" "directory" "LSqueezedVolume$Directory;", Cond.methodLink RX3 46 yX3_requirePower, Cond.instanceMethod yX3_requirePower, Cond.selects RX3 yX3_requirePower yX3_requirePower, Cond.initialized RX3, Cond.code yX3_requirePower cX3_requirePower 1 none, Cond.fieldLink RX3 10 "SqueezedVolume" "power" "LSqueezedVolume$Power;", Cond.methodLink RX3 151 yX1_isUp, Cond.instanceMethod yX1_isUp, Cond.selects RX1 yX1_isUp yX1_isUp, Cond.initialized RX1, Cond.code yX1_isUp cX1_isUp 1 (some .boolean), Cond.fieldLink RX1 9 "SqueezedVolume$Power" "up" "Z", Cond.methodLink RX3 49 yX3_requireName, Cond.instanceMethod yX3_requireName, Cond.selects RX3 yX3_requireName yX3_requireName, Cond.code yX3_requireName cX3_requireName 2 none, Cond.methodLink RX3 59 yX0_leastFreeHandle]
def wsX3_enter_r2 : List Cond := [Cond.instanceMethod yX0_leastFreeHandle, Cond.selects RX0 yX0_leastFreeHandle yX0_leastFreeHandle, Cond.initialized RX0, Cond.code yX0_leastFreeHandle cX0_leastFreeHandle 2 (some .int), Cond.methodLink RX0 61 yX0_findTentative, Cond.instanceMethod yX0_findTentative, Cond.selects RX0 yX0_findTentative yX0_findTentative, Cond.code yX0_findTentative cX0_findTentative 3 (some .int), Cond.fieldLink RX0 29 "SqueezedVolume$Directory" "count" "I", Cond.fieldLink RX0 16 "SqueezedVolume$Directory" "kinds" "LSqueezedVolume$Row;", Cond.fieldLink RX0 26 "SqueezedVolume$Directory" "handles" "LSqueezedVolume$Row;", Cond.methodLink RX0 50 yX2_at, Cond.instanceMethod yX2_at, Cond.selects RX2 yX2_at yX2_at, Cond.initialized RX2, Cond.code yX2_at cX2_at 2 (some .int), Cond.fieldLink RX2 13 "SqueezedVolume$Row" "cells" "[I", Cond.methodLink RX3 68 yX0_roomToSpare, Cond.instanceMethod yX0_roomToSpare, Cond.selects RX0 yX0_roomToSpare yX0_roomToSpare, Cond.code yX0_roomToSpare cX0_roomToSpare 5 (some .int), Cond.fieldLink RX0 20 "SqueezedVolume$Directory" "lengths" "LSqueezedVolume$Row;", Cond.methodLink RX0 64 Lib.Math.min.name, Cond.static Lib.Math.min.name]
def wsX3_enter_r3 : List Cond := [Cond.initialized "java/lang/Math", Cond.code Lib.Math.min.name Lib.Math.min.code 2 (some .int), Cond.methodLink RX0 70 Lib.Math.max.name, Cond.static Lib.Math.max.name, Cond.code Lib.Math.max.name Lib.Math.max.code 2 (some .int), Cond.methodLink RX3 71 yX0_findRoom, Cond.instanceMethod yX0_findRoom, Cond.selects RX0 yX0_findRoom yX0_findRoom, Cond.code yX0_findRoom cX0_findRoom 4 (some .int), Cond.methodLink RX3 80 yX3_draftOpened, Cond.instanceMethod yX3_draftOpened, Cond.selects RX3 yX3_draftOpened yX3_draftOpened, Cond.code yX3_draftOpened cX3_draftOpened 5 none, Cond.fieldLink RX3 32 "SqueezedVolume" "draft" "LSqueezedVolume$Directory;", Cond.methodLink RX3 127 yX0_clear, Cond.instanceMethod yX0_clear, Cond.selects RX0 yX0_clear yX0_clear, Cond.code yX0_clear cX0_clear 1 none, Cond.methodLink RX3 130 yX0_addRange, Cond.instanceMethod yX0_addRange, Cond.selects RX0 yX0_addRange yX0_addRange, Cond.code yX0_addRange cX0_addRange 5 none, Cond.methodLink RX0 37 yX0_kindAt, Cond.instanceMethod yX0_kindAt]
def wsX3_enter_r4 : List Cond := [Cond.selects RX0 yX0_kindAt yX0_kindAt, Cond.code yX0_kindAt cX0_kindAt 2 (some .int), Cond.methodLink RX0 41 yX0_lengthAt, Cond.instanceMethod yX0_lengthAt, Cond.selects RX0 yX0_lengthAt yX0_lengthAt, Cond.code yX0_lengthAt cX0_lengthAt 2 (some .int), Cond.methodLink RX0 44 yX0_nameAt, Cond.instanceMethod yX0_nameAt, Cond.selects RX0 yX0_nameAt yX0_nameAt, Cond.code yX0_nameAt cX0_nameAt 2 (some .int), Cond.fieldLink RX0 23 "SqueezedVolume$Directory" "names" "LSqueezedVolume$Row;", Cond.methodLink RX0 47 yX0_handleAt, Cond.instanceMethod yX0_handleAt, Cond.selects RX0 yX0_handleAt yX0_handleAt, Cond.code yX0_handleAt cX0_handleAt 2 (some .int), Cond.methodLink RX0 33 yX0_add, Cond.instanceMethod yX0_add, Cond.selects RX0 yX0_add yX0_add, Cond.code yX0_add cX0_add 6 none, Cond.methodLink RX0 53 yX2_set, Cond.instanceMethod yX2_set, Cond.selects RX2 yX2_set yX2_set, Cond.code yX2_set cX2_set 3 none, Cond.methodLink RX3 134 yX0_add]
def wsX3_enter_r5 : List Cond := [Cond.methodLink RX3 105 yX0_lengthAt, Cond.methodLink RX3 43 yX0_addEmpty, Cond.instanceMethod yX0_addEmpty, Cond.selects RX0 yX0_addEmpty yX0_addEmpty, Cond.code yX0_addEmpty cX0_addEmpty 2 none, Cond.methodLink RX3 137 yX0_count, Cond.instanceMethod yX0_count, Cond.selects RX0 yX0_count yX0_count, Cond.code yX0_count cX0_count 1 (some .int), Cond.methodLink RX3 84 yX3_requireFewEntries, Cond.instanceMethod yX3_requireFewEntries, Cond.selects RX3 yX3_requireFewEntries yX3_requireFewEntries, Cond.code yX3_requireFewEntries cX3_requireFewEntries 1 none, Cond.methodLink RX3 87 yX3_change, Cond.instanceMethod yX3_change, Cond.selects RX3 yX3_change yX3_change, Cond.code yX3_change cX3_change 3 (some .boolean), Cond.methodLink RX3 207 yX1_countWrite, Cond.instanceMethod yX1_countWrite, Cond.selects RX1 yX1_countWrite yX1_countWrite, Cond.code yX1_countWrite cX1_countWrite 1 (some .boolean), Cond.fieldLink RX1 15 "SqueezedVolume$Power" "left" "I", Cond.fieldLink RX1 19 "SqueezedVolume$Power" "count" "I", Cond.methodLink RX3 210 yX0_takeOver]
def wsX3_enter_r6 : List Cond := [Cond.instanceMethod yX0_takeOver, Cond.selects RX0 yX0_takeOver yX0_takeOver, Cond.code yX0_takeOver cX0_takeOver 2 none, Cond.methodLink RX0 57 yX2_takeOver, Cond.instanceMethod yX2_takeOver, Cond.selects RX2 yX2_takeOver yX2_takeOver, Cond.code yX2_takeOver cX2_takeOver 3 none, Cond.methodLink RX2 19 yX2_at]
def wsX3_enter : List Cond := .code yX3_enter cX3_enter 6 (some .int) :: ((wsX3_enter_r1 ++ (wsX3_enter_r2 ++ (wsX3_enter_r3 ++ (wsX3_enter_r4 ++ (wsX3_enter_r5 ++ wsX3_enter_r6))))) ++ wsX30 ++ wsX10 ++ wsX00 ++ wsX20 ++ (vx_atS RX3 56 "java/lang/IllegalArgumentException" ["java/lang/RuntimeException", "java/lang/Exception"]).filter goodWord ++ (vx_atS RX3 67 "java/lang/IllegalStateException" ["java/lang/RuntimeException", "java/lang/Exception"]).filter goodWord ++ (vx_atS RX3 79 "java/lang/UnsupportedOperationException" ["java/lang/RuntimeException", "java/lang/Exception"]).filter goodWord)
def wsX3_requireTentative : List Cond := .code yX3_requireTentative cX3_requireTentative 3 (some .int) :: ([.classLink RX3 196 "java/util/NoSuchElementException", .initialized "java/util/NoSuchElementException", .fieldLink RX3 28 "SqueezedVolume" "directory" "LSqueezedVolume$Directory;", .methodLink RX3 193 yX0_findTentative, .instanceMethod yX0_findTentative, .selects RX0 yX0_findTentative yX0_findTentative, .initialized RX0, .code yX0_findTentative cX0_findTentative 3 (some .int), .fieldLink RX0 29 "SqueezedVolume$Directory" "count" "I", .fieldLink RX0 16 "SqueezedVolume$Directory" "kinds" "LSqueezedVolume$Row;", .fieldLink RX0 26 "SqueezedVolume$Directory" "handles" "LSqueezedVolume$Row;", .methodLink RX0 50 yX2_at, .instanceMethod yX2_at, .selects RX2 yX2_at yX2_at, .initialized RX2, .code yX2_at cX2_at 2 (some .int), .fieldLink RX2 13 "SqueezedVolume$Row" "cells" "[I"] ++ wsX30 ++ wsX00 ++ wsX20 ++ (vx_atS RX3 200 "java/util/NoSuchElementException" ["java/lang/RuntimeException", "java/lang/Exception"]).filter goodWord)
def wsX3_requireBlock : List Cond := .code yX3_requireBlock cX3_requireBlock 3 none :: ([.classLink RX3 52 "java/lang/IllegalArgumentException", .initialized "java/lang/IllegalArgumentException", .fieldLink RX3 28 "SqueezedVolume" "directory" "LSqueezedVolume$Directory;", .methodLink RX3 105 yX0_lengthAt, .instanceMethod yX0_lengthAt, .selects RX0 yX0_lengthAt yX0_lengthAt, .initialized RX0, .code yX0_lengthAt cX0_lengthAt 2 (some .int), .fieldLink RX0 20 "SqueezedVolume$Directory" "lengths" "LSqueezedVolume$Row;", .methodLink RX0 50 yX2_at, .instanceMethod yX2_at, .selects RX2 yX2_at yX2_at, .initialized RX2, .code yX2_at cX2_at 2 (some .int), .fieldLink RX2 13 "SqueezedVolume$Row" "cells" "[I"] ++ wsX30 ++ wsX00 ++ wsX20 ++ (vx_atS RX3 56 "java/lang/IllegalArgumentException" ["java/lang/RuntimeException", "java/lang/Exception"]).filter goodWord)
def wsX3_writeBlock : List Cond := .code yX3_writeBlock cX3_writeBlock 3 (some .boolean) :: ([.fieldLink RX3 10 "SqueezedVolume" "power" "LSqueezedVolume$Power;", .fieldLink RX3 21 "SqueezedVolume" "content" "LSqueezedVolume$Row;", .methodLink RX3 207 yX1_countWrite, .instanceMethod yX1_countWrite, .selects RX1 yX1_countWrite yX1_countWrite, .initialized RX1, .code yX1_countWrite cX1_countWrite 1 (some .boolean), .fieldLink RX1 15 "SqueezedVolume$Power" "left" "I", .fieldLink RX1 9 "SqueezedVolume$Power" "up" "Z", .fieldLink RX1 19 "SqueezedVolume$Power" "count" "I", .methodLink RX3 214 yX2_set, .instanceMethod yX2_set, .selects RX2 yX2_set yX2_set, .initialized RX2, .code yX2_set cX2_set 3 none, .fieldLink RX2 13 "SqueezedVolume$Row" "cells" "[I"] ++ wsX30 ++ wsX10 ++ wsX20)
def wsX3_put_r1 : List Cond := [Cond.fieldLink RX3 28 "SqueezedVolume" "directory" "LSqueezedVolume$Directory;", Cond.methodLink RX3 46 yX3_requirePower, Cond.instanceMethod yX3_requirePower, Cond.selects RX3 yX3_requirePower yX3_requirePower, Cond.initialized RX3, Cond.code yX3_requirePower cX3_requirePower 1 none, Cond.classLink RX3 63 "java/lang/IllegalStateException", Cond.initialized "java/lang/IllegalStateException", Cond.fieldLink RX3 10 "SqueezedVolume" "power" "LSqueezedVolume$Power;", Cond.methodLink RX3 151 yX1_isUp, Cond.instanceMethod yX1_isUp, Cond.selects RX1 yX1_isUp yX1_isUp, Cond.initialized RX1, Cond.code yX1_isUp cX1_isUp 1 (some .boolean), Cond.fieldLink RX1 9 "SqueezedVolume$Power" "up" "Z", Cond.methodLink RX3 91 yX3_requireTentative, Cond.instanceMethod yX3_requireTentative, Cond.selects RX3 yX3_requireTentative yX3_requireTentative, Cond.code yX3_requireTentative cX3_requireTentative 3 (some .int), Cond.classLink RX3 196 "java/util/NoSuchElementException", Cond.initialized "java/util/NoSuchElementException", Cond.methodLink RX3 193 yX0_findTentative, Cond.instanceMethod yX0_findTentative, Cond.selects RX0 yX0_findTentative yX0_findTentative]
def wsX3_put_r2 : List Cond := [Cond.initialized RX0, Cond.code yX0_findTentative cX0_findTentative 3 (some .int), Cond.fieldLink RX0 29 "SqueezedVolume$Directory" "count" "I", Cond.fieldLink RX0 16 "SqueezedVolume$Directory" "kinds" "LSqueezedVolume$Row;", Cond.fieldLink RX0 26 "SqueezedVolume$Directory" "handles" "LSqueezedVolume$Row;", Cond.methodLink RX0 50 yX2_at, Cond.instanceMethod yX2_at, Cond.selects RX2 yX2_at yX2_at, Cond.initialized RX2, Cond.code yX2_at cX2_at 2 (some .int), Cond.fieldLink RX2 13 "SqueezedVolume$Row" "cells" "[I", Cond.methodLink RX3 94 yX3_requireBlock, Cond.instanceMethod yX3_requireBlock, Cond.selects RX3 yX3_requireBlock yX3_requireBlock, Cond.code yX3_requireBlock cX3_requireBlock 3 none, Cond.classLink RX3 52 "java/lang/IllegalArgumentException", Cond.initialized "java/lang/IllegalArgumentException", Cond.methodLink RX3 105 yX0_lengthAt, Cond.instanceMethod yX0_lengthAt, Cond.selects RX0 yX0_lengthAt yX0_lengthAt, Cond.code yX0_lengthAt cX0_lengthAt 2 (some .int), Cond.fieldLink RX0 20 "SqueezedVolume$Directory" "lengths" "LSqueezedVolume$Row;", Cond.methodLink RX3 98 yX0_beginAt, Cond.instanceMethod yX0_beginAt]
def wsX3_put_r3 : List Cond := [Cond.selects RX0 yX0_beginAt yX0_beginAt, Cond.code yX0_beginAt cX0_beginAt 4 (some .int), Cond.methodLink RX3 101 yX3_writeBlock, Cond.instanceMethod yX3_writeBlock, Cond.selects RX3 yX3_writeBlock yX3_writeBlock, Cond.code yX3_writeBlock cX3_writeBlock 3 (some .boolean), Cond.fieldLink RX3 21 "SqueezedVolume" "content" "LSqueezedVolume$Row;", Cond.methodLink RX3 207 yX1_countWrite, Cond.instanceMethod yX1_countWrite, Cond.selects RX1 yX1_countWrite yX1_countWrite, Cond.code yX1_countWrite cX1_countWrite 1 (some .boolean), Cond.fieldLink RX1 15 "SqueezedVolume$Power" "left" "I", Cond.fieldLink RX1 19 "SqueezedVolume$Power" "count" "I", Cond.methodLink RX3 214 yX2_set, Cond.instanceMethod yX2_set, Cond.selects RX2 yX2_set yX2_set, Cond.code yX2_set cX2_set 3 none]
def wsX3_put : List Cond := .code yX3_put cX3_put 5 (some .int) :: ((wsX3_put_r1 ++ (wsX3_put_r2 ++ wsX3_put_r3)) ++ wsX30 ++ wsX10 ++ wsX00 ++ wsX20 ++ (vx_atS RX3 67 "java/lang/IllegalStateException" ["java/lang/RuntimeException", "java/lang/Exception"]).filter goodWord ++ (vx_atS RX3 200 "java/util/NoSuchElementException" ["java/lang/RuntimeException", "java/lang/Exception"]).filter goodWord ++ (vx_atS RX3 56 "java/lang/IllegalArgumentException" ["java/lang/RuntimeException", "java/lang/Exception"]).filter goodWord)
def wsX3_draftClosed_r1 : List Cond := [Cond.fieldLink RX3 28 "SqueezedVolume" "directory" "LSqueezedVolume$Directory;", Cond.fieldLink RX3 32 "SqueezedVolume" "draft" "LSqueezedVolume$Directory;", Cond.methodLink RX3 177 yX0_nameAt, Cond.instanceMethod yX0_nameAt, Cond.selects RX0 yX0_nameAt yX0_nameAt, Cond.initialized RX0, Cond.code yX0_nameAt cX0_nameAt 2 (some .int), Cond.fieldLink RX0 23 "SqueezedVolume$Directory" "names" "LSqueezedVolume$Row;", Cond.methodLink RX0 50 yX2_at, Cond.instanceMethod yX2_at, Cond.selects RX2 yX2_at yX2_at, Cond.initialized RX2, Cond.code yX2_at cX2_at 2 (some .int), Cond.fieldLink RX2 13 "SqueezedVolume$Row" "cells" "[I", Cond.methodLink RX3 122 yX0_findPermanent, Cond.instanceMethod yX0_findPermanent, Cond.selects RX0 yX0_findPermanent yX0_findPermanent, Cond.code yX0_findPermanent cX0_findPermanent 3 (some .int), Cond.fieldLink RX0 29 "SqueezedVolume$Directory" "count" "I", Cond.fieldLink RX0 16 "SqueezedVolume$Directory" "kinds" "LSqueezedVolume$Row;", Cond.methodLink RX3 127 yX0_clear, Cond.instanceMethod yX0_clear, Cond.selects RX0 yX0_clear yX0_clear, Cond.code yX0_clear cX0_clear 1 none]
def wsX3_draftClosed_r2 : List Cond := [Cond.methodLink RX3 137 yX0_count, Cond.instanceMethod yX0_count, Cond.selects RX0 yX0_count yX0_count, Cond.code yX0_count cX0_count 1 (some .int), Cond.methodLink RX3 134 yX0_add, Cond.instanceMethod yX0_add, Cond.selects RX0 yX0_add yX0_add, Cond.code yX0_add cX0_add 6 none, Cond.fieldLink RX0 20 "SqueezedVolume$Directory" "lengths" "LSqueezedVolume$Row;", Cond.fieldLink RX0 26 "SqueezedVolume$Directory" "handles" "LSqueezedVolume$Row;", Cond.methodLink RX0 53 yX2_set, Cond.instanceMethod yX2_set, Cond.selects RX2 yX2_set yX2_set, Cond.code yX2_set cX2_set 3 none, Cond.methodLink RX3 105 yX0_lengthAt, Cond.instanceMethod yX0_lengthAt, Cond.selects RX0 yX0_lengthAt yX0_lengthAt, Cond.code yX0_lengthAt cX0_lengthAt 2 (some .int), Cond.methodLink RX3 43 yX0_addEmpty, Cond.instanceMethod yX0_addEmpty, Cond.selects RX0 yX0_addEmpty yX0_addEmpty, Cond.code yX0_addEmpty cX0_addEmpty 2 none, Cond.methodLink RX0 33 yX0_add, Cond.methodLink RX3 130 yX0_addRange]
def wsX3_draftClosed_r3 : List Cond := [Cond.instanceMethod yX0_addRange, Cond.selects RX0 yX0_addRange yX0_addRange, Cond.code yX0_addRange cX0_addRange 5 none, Cond.methodLink RX0 37 yX0_kindAt, Cond.instanceMethod yX0_kindAt, Cond.selects RX0 yX0_kindAt yX0_kindAt, Cond.code yX0_kindAt cX0_kindAt 2 (some .int), Cond.methodLink RX0 41 yX0_lengthAt, Cond.methodLink RX0 44 yX0_nameAt, Cond.methodLink RX0 47 yX0_handleAt, Cond.instanceMethod yX0_handleAt, Cond.selects RX0 yX0_handleAt yX0_handleAt, Cond.code yX0_handleAt cX0_handleAt 2 (some .int)]
def wsX3_draftClosed : List Cond := .code yX3_draftClosed cX3_draftClosed 6 none :: ((wsX3_draftClosed_r1 ++ (wsX3_draftClosed_r2 ++ wsX3_draftClosed_r3)) ++ wsX30 ++ wsX00 ++ wsX20)
def wsX3_close_r1 : List Cond := [Cond.classLink RX3 52 "java/lang/IllegalArgumentException", Cond.initialized "java/lang/IllegalArgumentException", Cond.fieldLink RX3 28 "SqueezedVolume" "directory" "LSqueezedVolume$Directory;", Cond.fieldLink RX3 32 "SqueezedVolume" "draft" "LSqueezedVolume$Directory;", Cond.methodLink RX3 46 yX3_requirePower, Cond.instanceMethod yX3_requirePower, Cond.selects RX3 yX3_requirePower yX3_requirePower, Cond.initialized RX3, Cond.code yX3_requirePower cX3_requirePower 1 none, Cond.classLink RX3 63 "java/lang/IllegalStateException", Cond.initialized "java/lang/IllegalStateException", Cond.fieldLink RX3 10 "SqueezedVolume" "power" "LSqueezedVolume$Power;", Cond.methodLink RX3 151 yX1_isUp, Cond.instanceMethod yX1_isUp, Cond.selects RX1 yX1_isUp yX1_isUp, Cond.initialized RX1, Cond.code yX1_isUp cX1_isUp 1 (some .boolean), Cond.fieldLink RX1 9 "SqueezedVolume$Power" "up" "Z", Cond.methodLink RX3 91 yX3_requireTentative, Cond.instanceMethod yX3_requireTentative, Cond.selects RX3 yX3_requireTentative yX3_requireTentative, Cond.code yX3_requireTentative cX3_requireTentative 3 (some .int), Cond.classLink RX3 196 "java/util/NoSuchElementException", Cond.initialized "java/util/NoSuchElementException"]
def wsX3_close_r2 : List Cond := [Cond.methodLink RX3 193 yX0_findTentative, Cond.instanceMethod yX0_findTentative, Cond.selects RX0 yX0_findTentative yX0_findTentative, Cond.initialized RX0, Cond.code yX0_findTentative cX0_findTentative 3 (some .int), Cond.fieldLink RX0 29 "SqueezedVolume$Directory" "count" "I", Cond.fieldLink RX0 16 "SqueezedVolume$Directory" "kinds" "LSqueezedVolume$Row;", Cond.fieldLink RX0 26 "SqueezedVolume$Directory" "handles" "LSqueezedVolume$Row;", Cond.methodLink RX0 50 yX2_at, Cond.instanceMethod yX2_at, Cond.selects RX2 yX2_at yX2_at, Cond.initialized RX2, Cond.code yX2_at cX2_at 2 (some .int), Cond.fieldLink RX2 13 "SqueezedVolume$Row" "cells" "[I", Cond.methodLink RX3 105 yX0_lengthAt, Cond.instanceMethod yX0_lengthAt, Cond.selects RX0 yX0_lengthAt yX0_lengthAt, Cond.code yX0_lengthAt cX0_lengthAt 2 (some .int), Cond.fieldLink RX0 20 "SqueezedVolume$Directory" "lengths" "LSqueezedVolume$Row;", Cond.methodLink RX3 110 yX3_draftClosed, Cond.instanceMethod yX3_draftClosed, Cond.selects RX3 yX3_draftClosed yX3_draftClosed, Cond.code yX3_draftClosed cX3_draftClosed 6 none, Cond.methodLink RX3 177 yX0_nameAt]
def wsX3_close_r3 : List Cond := [Cond.instanceMethod yX0_nameAt, Cond.selects RX0 yX0_nameAt yX0_nameAt, Cond.code yX0_nameAt cX0_nameAt 2 (some .int), Cond.fieldLink RX0 23 "SqueezedVolume$Directory" "names" "LSqueezedVolume$Row;", Cond.methodLink RX3 122 yX0_findPermanent, Cond.instanceMethod yX0_findPermanent, Cond.selects RX0 yX0_findPermanent yX0_findPermanent, Cond.code yX0_findPermanent cX0_findPermanent 3 (some .int), Cond.methodLink RX3 127 yX0_clear, Cond.instanceMethod yX0_clear, Cond.selects RX0 yX0_clear yX0_clear, Cond.code yX0_clear cX0_clear 1 none, Cond.methodLink RX3 137 yX0_count, Cond.instanceMethod yX0_count, Cond.selects RX0 yX0_count yX0_count, Cond.code yX0_count cX0_count 1 (some .int), Cond.methodLink RX3 134 yX0_add, Cond.instanceMethod yX0_add, Cond.selects RX0 yX0_add yX0_add, Cond.code yX0_add cX0_add 6 none, Cond.methodLink RX0 53 yX2_set, Cond.instanceMethod yX2_set, Cond.selects RX2 yX2_set yX2_set, Cond.code yX2_set cX2_set 3 none]
def wsX3_close_r4 : List Cond := [Cond.methodLink RX3 43 yX0_addEmpty, Cond.instanceMethod yX0_addEmpty, Cond.selects RX0 yX0_addEmpty yX0_addEmpty, Cond.code yX0_addEmpty cX0_addEmpty 2 none, Cond.methodLink RX0 33 yX0_add, Cond.methodLink RX3 130 yX0_addRange, Cond.instanceMethod yX0_addRange, Cond.selects RX0 yX0_addRange yX0_addRange, Cond.code yX0_addRange cX0_addRange 5 none, Cond.methodLink RX0 37 yX0_kindAt, Cond.instanceMethod yX0_kindAt, Cond.selects RX0 yX0_kindAt yX0_kindAt, Cond.code yX0_kindAt cX0_kindAt 2 (some .int), Cond.methodLink RX0 41 yX0_lengthAt, Cond.methodLink RX0 44 yX0_nameAt, Cond.methodLink RX0 47 yX0_handleAt, Cond.instanceMethod yX0_handleAt, Cond.selects RX0 yX0_handleAt yX0_handleAt, Cond.code yX0_handleAt cX0_handleAt 2 (some .int), Cond.methodLink RX3 84 yX3_requireFewEntries, Cond.instanceMethod yX3_requireFewEntries, Cond.selects RX3 yX3_requireFewEntries yX3_requireFewEntries, Cond.code yX3_requireFewEntries cX3_requireFewEntries 1 none, Cond.classLink RX3 75 "java/lang/UnsupportedOperationException"]
def wsX3_close_r5 : List Cond := [Cond.initialized "java/lang/UnsupportedOperationException", Cond.methodLink RX3 113 yX0_emptyBlocks, Cond.instanceMethod yX0_emptyBlocks, Cond.selects RX0 yX0_emptyBlocks yX0_emptyBlocks, Cond.code yX0_emptyBlocks cX0_emptyBlocks 3 (some .int), Cond.methodLink RX3 87 yX3_change, Cond.instanceMethod yX3_change, Cond.selects RX3 yX3_change yX3_change, Cond.code yX3_change cX3_change 3 (some .boolean), Cond.methodLink RX3 207 yX1_countWrite, Cond.instanceMethod yX1_countWrite, Cond.selects RX1 yX1_countWrite yX1_countWrite, Cond.code yX1_countWrite cX1_countWrite 1 (some .boolean), Cond.fieldLink RX1 15 "SqueezedVolume$Power" "left" "I", Cond.fieldLink RX1 19 "SqueezedVolume$Power" "count" "I", Cond.methodLink RX3 210 yX0_takeOver, Cond.instanceMethod yX0_takeOver, Cond.selects RX0 yX0_takeOver yX0_takeOver, Cond.code yX0_takeOver cX0_takeOver 2 none, Cond.methodLink RX0 57 yX2_takeOver, Cond.instanceMethod yX2_takeOver, Cond.selects RX2 yX2_takeOver yX2_takeOver, Cond.code yX2_takeOver cX2_takeOver 3 none, Cond.methodLink RX2 19 yX2_at]
def wsX3_close : List Cond := .code yX3_close cX3_close 5 (some .int) :: ((wsX3_close_r1 ++ (wsX3_close_r2 ++ (wsX3_close_r3 ++ (wsX3_close_r4 ++ wsX3_close_r5)))) ++ wsX30 ++ wsX10 ++ wsX00 ++ wsX20 ++ (vx_atS RX3 56 "java/lang/IllegalArgumentException" ["java/lang/RuntimeException", "java/lang/Exception"]).filter goodWord ++ (vx_atS RX3 67 "java/lang/IllegalStateException" ["java/lang/RuntimeException", "java/lang/Exception"]).filter goodWord ++ (vx_atS RX3 200 "java/util/NoSuchElementException" ["java/lang/RuntimeException", "java/lang/Exception"]).filter goodWord ++ (vx_atS RX3 79 "java/lang/UnsupportedOperationException" ["java/lang/RuntimeException", "java/lang/Exception"]).filter goodWord)
def wsX3_makeEmpty_r1 : List Cond := [Cond.fieldLink RX3 28 "SqueezedVolume" "directory" "LSqueezedVolume$Directory;", Cond.fieldLink RX3 32 "SqueezedVolume" "draft" "LSqueezedVolume$Directory;", Cond.methodLink RX3 105 yX0_lengthAt, Cond.instanceMethod yX0_lengthAt, Cond.selects RX0 yX0_lengthAt yX0_lengthAt, Cond.initialized RX0, Cond.code yX0_lengthAt cX0_lengthAt 2 (some .int), Cond.fieldLink RX0 20 "SqueezedVolume$Directory" "lengths" "LSqueezedVolume$Row;", Cond.methodLink RX0 50 yX2_at, Cond.instanceMethod yX2_at, Cond.selects RX2 yX2_at yX2_at, Cond.initialized RX2, Cond.code yX2_at cX2_at 2 (some .int), Cond.fieldLink RX2 13 "SqueezedVolume$Row" "cells" "[I", Cond.methodLink RX3 127 yX0_clear, Cond.instanceMethod yX0_clear, Cond.selects RX0 yX0_clear yX0_clear, Cond.code yX0_clear cX0_clear 1 none, Cond.fieldLink RX0 29 "SqueezedVolume$Directory" "count" "I", Cond.methodLink RX3 130 yX0_addRange, Cond.instanceMethod yX0_addRange, Cond.selects RX0 yX0_addRange yX0_addRange, Cond.code yX0_addRange cX0_addRange 5 none, Cond.methodLink RX0 37 yX0_kindAt]
def wsX3_makeEmpty_r2 : List Cond := [Cond.instanceMethod yX0_kindAt, Cond.selects RX0 yX0_kindAt yX0_kindAt, Cond.code yX0_kindAt cX0_kindAt 2 (some .int), Cond.fieldLink RX0 16 "SqueezedVolume$Directory" "kinds" "LSqueezedVolume$Row;", Cond.methodLink RX0 41 yX0_lengthAt, Cond.methodLink RX0 44 yX0_nameAt, Cond.instanceMethod yX0_nameAt, Cond.selects RX0 yX0_nameAt yX0_nameAt, Cond.code yX0_nameAt cX0_nameAt 2 (some .int), Cond.fieldLink RX0 23 "SqueezedVolume$Directory" "names" "LSqueezedVolume$Row;", Cond.methodLink RX0 47 yX0_handleAt, Cond.instanceMethod yX0_handleAt, Cond.selects RX0 yX0_handleAt yX0_handleAt, Cond.code yX0_handleAt cX0_handleAt 2 (some .int), Cond.fieldLink RX0 26 "SqueezedVolume$Directory" "handles" "LSqueezedVolume$Row;", Cond.methodLink RX0 33 yX0_add, Cond.instanceMethod yX0_add, Cond.selects RX0 yX0_add yX0_add, Cond.code yX0_add cX0_add 6 none, Cond.methodLink RX0 53 yX2_set, Cond.instanceMethod yX2_set, Cond.selects RX2 yX2_set yX2_set, Cond.code yX2_set cX2_set 3 none, Cond.methodLink RX3 43 yX0_addEmpty]
def wsX3_makeEmpty_r3 : List Cond := [Cond.instanceMethod yX0_addEmpty, Cond.selects RX0 yX0_addEmpty yX0_addEmpty, Cond.code yX0_addEmpty cX0_addEmpty 2 none, Cond.methodLink RX3 137 yX0_count, Cond.instanceMethod yX0_count, Cond.selects RX0 yX0_count yX0_count, Cond.code yX0_count cX0_count 1 (some .int), Cond.methodLink RX3 87 yX3_change, Cond.instanceMethod yX3_change, Cond.selects RX3 yX3_change yX3_change, Cond.initialized RX3, Cond.code yX3_change cX3_change 3 (some .boolean), Cond.fieldLink RX3 10 "SqueezedVolume" "power" "LSqueezedVolume$Power;", Cond.methodLink RX3 207 yX1_countWrite, Cond.instanceMethod yX1_countWrite, Cond.selects RX1 yX1_countWrite yX1_countWrite, Cond.initialized RX1, Cond.code yX1_countWrite cX1_countWrite 1 (some .boolean), Cond.fieldLink RX1 15 "SqueezedVolume$Power" "left" "I", Cond.fieldLink RX1 9 "SqueezedVolume$Power" "up" "Z", Cond.fieldLink RX1 19 "SqueezedVolume$Power" "count" "I", Cond.methodLink RX3 210 yX0_takeOver, Cond.instanceMethod yX0_takeOver, Cond.selects RX0 yX0_takeOver yX0_takeOver]
def wsX3_makeEmpty_r4 : List Cond := [Cond.code yX0_takeOver cX0_takeOver 2 none, Cond.methodLink RX0 57 yX2_takeOver, Cond.instanceMethod yX2_takeOver, Cond.selects RX2 yX2_takeOver yX2_takeOver, Cond.code yX2_takeOver cX2_takeOver 3 none, Cond.methodLink RX2 19 yX2_at]
def wsX3_makeEmpty : List Cond := .code yX3_makeEmpty cX3_makeEmpty 3 (some .int) :: ((wsX3_makeEmpty_r1 ++ (wsX3_makeEmpty_r2 ++ (wsX3_makeEmpty_r3 ++ wsX3_makeEmpty_r4))) ++ wsX30 ++ wsX00 ++ wsX20 ++ wsX10)
def wsX3_purge_r1 : List Cond := [Cond.methodLink RX3 46 yX3_requirePower, Cond.instanceMethod yX3_requirePower, Cond.selects RX3 yX3_requirePower yX3_requirePower, Cond.initialized RX3, Cond.code yX3_requirePower cX3_requirePower 1 none, Cond.classLink RX3 63 "java/lang/IllegalStateException", Cond.initialized "java/lang/IllegalStateException", Cond.fieldLink RX3 10 "SqueezedVolume" "power" "LSqueezedVolume$Power;", Cond.methodLink RX3 151 yX1_isUp, Cond.instanceMethod yX1_isUp, Cond.selects RX1 yX1_isUp yX1_isUp, Cond.initialized RX1, Cond.code yX1_isUp cX1_isUp 1 (some .boolean), Cond.fieldLink RX1 9 "SqueezedVolume$Power" "up" "Z", Cond.methodLink RX3 91 yX3_requireTentative, Cond.instanceMethod yX3_requireTentative, Cond.selects RX3 yX3_requireTentative yX3_requireTentative, Cond.code yX3_requireTentative cX3_requireTentative 3 (some .int), Cond.classLink RX3 196 "java/util/NoSuchElementException", Cond.initialized "java/util/NoSuchElementException", Cond.fieldLink RX3 28 "SqueezedVolume" "directory" "LSqueezedVolume$Directory;", Cond.methodLink RX3 193 yX0_findTentative, Cond.instanceMethod yX0_findTentative, Cond.selects RX0 yX0_findTentative yX0_findTentative]
def wsX3_purge_r2 : List Cond := [Cond.initialized RX0, Cond.code yX0_findTentative cX0_findTentative 3 (some .int), Cond.fieldLink RX0 29 "SqueezedVolume$Directory" "count" "I", Cond.fieldLink RX0 16 "SqueezedVolume$Directory" "kinds" "LSqueezedVolume$Row;", Cond.fieldLink RX0 26 "SqueezedVolume$Directory" "handles" "LSqueezedVolume$Row;", Cond.methodLink RX0 50 yX2_at, Cond.instanceMethod yX2_at, Cond.selects RX2 yX2_at yX2_at, Cond.initialized RX2, Cond.code yX2_at cX2_at 2 (some .int), Cond.fieldLink RX2 13 "SqueezedVolume$Row" "cells" "[I", Cond.methodLink RX3 116 yX3_makeEmpty, Cond.instanceMethod yX3_makeEmpty, Cond.selects RX3 yX3_makeEmpty yX3_makeEmpty, Cond.code yX3_makeEmpty cX3_makeEmpty 3 (some .int), Cond.fieldLink RX3 32 "SqueezedVolume" "draft" "LSqueezedVolume$Directory;", Cond.methodLink RX3 105 yX0_lengthAt, Cond.instanceMethod yX0_lengthAt, Cond.selects RX0 yX0_lengthAt yX0_lengthAt, Cond.code yX0_lengthAt cX0_lengthAt 2 (some .int), Cond.fieldLink RX0 20 "SqueezedVolume$Directory" "lengths" "LSqueezedVolume$Row;", Cond.methodLink RX3 127 yX0_clear, Cond.instanceMethod yX0_clear, Cond.selects RX0 yX0_clear yX0_clear]
def wsX3_purge_r3 : List Cond := [Cond.code yX0_clear cX0_clear 1 none, Cond.methodLink RX3 130 yX0_addRange, Cond.instanceMethod yX0_addRange, Cond.selects RX0 yX0_addRange yX0_addRange, Cond.code yX0_addRange cX0_addRange 5 none, Cond.methodLink RX0 37 yX0_kindAt, Cond.instanceMethod yX0_kindAt, Cond.selects RX0 yX0_kindAt yX0_kindAt, Cond.code yX0_kindAt cX0_kindAt 2 (some .int), Cond.methodLink RX0 41 yX0_lengthAt, Cond.methodLink RX0 44 yX0_nameAt, Cond.instanceMethod yX0_nameAt, Cond.selects RX0 yX0_nameAt yX0_nameAt, Cond.code yX0_nameAt cX0_nameAt 2 (some .int), Cond.fieldLink RX0 23 "SqueezedVolume$Directory" "names" "LSqueezedVolume$Row;", Cond.methodLink RX0 47 yX0_handleAt, Cond.instanceMethod yX0_handleAt, Cond.selects RX0 yX0_handleAt yX0_handleAt, Cond.code yX0_handleAt cX0_handleAt 2 (some .int), Cond.methodLink RX0 33 yX0_add, Cond.instanceMethod yX0_add, Cond.selects RX0 yX0_add yX0_add, Cond.code yX0_add cX0_add 6 none, Cond.methodLink RX0 53 yX2_set]
def wsX3_purge_r4 : List Cond := [Cond.instanceMethod yX2_set, Cond.selects RX2 yX2_set yX2_set, Cond.code yX2_set cX2_set 3 none, Cond.methodLink RX3 43 yX0_addEmpty, Cond.instanceMethod yX0_addEmpty, Cond.selects RX0 yX0_addEmpty yX0_addEmpty, Cond.code yX0_addEmpty cX0_addEmpty 2 none, Cond.methodLink RX3 137 yX0_count, Cond.instanceMethod yX0_count, Cond.selects RX0 yX0_count yX0_count, Cond.code yX0_count cX0_count 1 (some .int), Cond.methodLink RX3 87 yX3_change, Cond.instanceMethod yX3_change, Cond.selects RX3 yX3_change yX3_change, Cond.code yX3_change cX3_change 3 (some .boolean), Cond.methodLink RX3 207 yX1_countWrite, Cond.instanceMethod yX1_countWrite, Cond.selects RX1 yX1_countWrite yX1_countWrite, Cond.code yX1_countWrite cX1_countWrite 1 (some .boolean), Cond.fieldLink RX1 15 "SqueezedVolume$Power" "left" "I", Cond.fieldLink RX1 19 "SqueezedVolume$Power" "count" "I", Cond.methodLink RX3 210 yX0_takeOver, Cond.instanceMethod yX0_takeOver, Cond.selects RX0 yX0_takeOver yX0_takeOver]
def wsX3_purge_r5 : List Cond := [Cond.code yX0_takeOver cX0_takeOver 2 none, Cond.methodLink RX0 57 yX2_takeOver, Cond.instanceMethod yX2_takeOver, Cond.selects RX2 yX2_takeOver yX2_takeOver, Cond.code yX2_takeOver cX2_takeOver 3 none, Cond.methodLink RX2 19 yX2_at]
def wsX3_purge : List Cond := .code yX3_purge cX3_purge 2 (some .int) :: ((wsX3_purge_r1 ++ (wsX3_purge_r2 ++ (wsX3_purge_r3 ++ (wsX3_purge_r4 ++ wsX3_purge_r5)))) ++ wsX30 ++ wsX10 ++ wsX00 ++ wsX20 ++ (vx_atS RX3 67 "java/lang/IllegalStateException" ["java/lang/RuntimeException", "java/lang/Exception"]).filter goodWord ++ (vx_atS RX3 200 "java/util/NoSuchElementException" ["java/lang/RuntimeException", "java/lang/Exception"]).filter goodWord)
def wsX3_requirePermanent : List Cond := .code yX3_requirePermanent cX3_requirePermanent 3 (some .int) :: ([.classLink RX3 196 "java/util/NoSuchElementException", .initialized "java/util/NoSuchElementException", .fieldLink RX3 28 "SqueezedVolume" "directory" "LSqueezedVolume$Directory;", .methodLink RX3 122 yX0_findPermanent, .instanceMethod yX0_findPermanent, .selects RX0 yX0_findPermanent yX0_findPermanent, .initialized RX0, .code yX0_findPermanent cX0_findPermanent 3 (some .int), .fieldLink RX0 29 "SqueezedVolume$Directory" "count" "I", .fieldLink RX0 16 "SqueezedVolume$Directory" "kinds" "LSqueezedVolume$Row;", .fieldLink RX0 23 "SqueezedVolume$Directory" "names" "LSqueezedVolume$Row;", .methodLink RX0 50 yX2_at, .instanceMethod yX2_at, .selects RX2 yX2_at yX2_at, .initialized RX2, .code yX2_at cX2_at 2 (some .int), .fieldLink RX2 13 "SqueezedVolume$Row" "cells" "[I"] ++ wsX30 ++ wsX00 ++ wsX20 ++ (vx_atS RX3 200 "java/util/NoSuchElementException" ["java/lang/RuntimeException", "java/lang/Exception"]).filter goodWord)
def wsX3_delete_r1 : List Cond := [Cond.methodLink RX3 46 yX3_requirePower, Cond.instanceMethod yX3_requirePower, Cond.selects RX3 yX3_requirePower yX3_requirePower, Cond.initialized RX3, Cond.code yX3_requirePower cX3_requirePower 1 none, Cond.classLink RX3 63 "java/lang/IllegalStateException", Cond.initialized "java/lang/IllegalStateException", Cond.fieldLink RX3 10 "SqueezedVolume" "power" "LSqueezedVolume$Power;", Cond.methodLink RX3 151 yX1_isUp, Cond.instanceMethod yX1_isUp, Cond.selects RX1 yX1_isUp yX1_isUp, Cond.initialized RX1, Cond.code yX1_isUp cX1_isUp 1 (some .boolean), Cond.fieldLink RX1 9 "SqueezedVolume$Power" "up" "Z", Cond.methodLink RX3 119 yX3_requirePermanent, Cond.instanceMethod yX3_requirePermanent, Cond.selects RX3 yX3_requirePermanent yX3_requirePermanent, Cond.code yX3_requirePermanent cX3_requirePermanent 3 (some .int), Cond.classLink RX3 196 "java/util/NoSuchElementException", Cond.initialized "java/util/NoSuchElementException", Cond.fieldLink RX3 28 "SqueezedVolume" "directory" "LSqueezedVolume$Directory;", Cond.methodLink RX3 122 yX0_findPermanent, Cond.instanceMethod yX0_findPermanent, Cond.selects RX0 yX0_findPermanent yX0_findPermanent]
def wsX3_delete_r2 : List Cond := [Cond.initialized RX0, Cond.code yX0_findPermanent cX0_findPermanent 3 (some .int), Cond.fieldLink RX0 29 "SqueezedVolume$Directory" "count" "I", Cond.fieldLink RX0 16 "SqueezedVolume$Directory" "kinds" "LSqueezedVolume$Row;", Cond.fieldLink RX0 23 "SqueezedVolume$Directory" "names" "LSqueezedVolume$Row;", Cond.methodLink RX0 50 yX2_at, Cond.instanceMethod yX2_at, Cond.selects RX2 yX2_at yX2_at, Cond.initialized RX2, Cond.code yX2_at cX2_at 2 (some .int), Cond.fieldLink RX2 13 "SqueezedVolume$Row" "cells" "[I", Cond.methodLink RX3 116 yX3_makeEmpty, Cond.instanceMethod yX3_makeEmpty, Cond.selects RX3 yX3_makeEmpty yX3_makeEmpty, Cond.code yX3_makeEmpty cX3_makeEmpty 3 (some .int), Cond.fieldLink RX3 32 "SqueezedVolume" "draft" "LSqueezedVolume$Directory;", Cond.methodLink RX3 105 yX0_lengthAt, Cond.instanceMethod yX0_lengthAt, Cond.selects RX0 yX0_lengthAt yX0_lengthAt, Cond.code yX0_lengthAt cX0_lengthAt 2 (some .int), Cond.fieldLink RX0 20 "SqueezedVolume$Directory" "lengths" "LSqueezedVolume$Row;", Cond.methodLink RX3 127 yX0_clear, Cond.instanceMethod yX0_clear, Cond.selects RX0 yX0_clear yX0_clear]
def wsX3_delete_r3 : List Cond := [Cond.code yX0_clear cX0_clear 1 none, Cond.methodLink RX3 130 yX0_addRange, Cond.instanceMethod yX0_addRange, Cond.selects RX0 yX0_addRange yX0_addRange, Cond.code yX0_addRange cX0_addRange 5 none, Cond.methodLink RX0 37 yX0_kindAt, Cond.instanceMethod yX0_kindAt, Cond.selects RX0 yX0_kindAt yX0_kindAt, Cond.code yX0_kindAt cX0_kindAt 2 (some .int), Cond.methodLink RX0 41 yX0_lengthAt, Cond.methodLink RX0 44 yX0_nameAt, Cond.instanceMethod yX0_nameAt, Cond.selects RX0 yX0_nameAt yX0_nameAt, Cond.code yX0_nameAt cX0_nameAt 2 (some .int), Cond.methodLink RX0 47 yX0_handleAt, Cond.instanceMethod yX0_handleAt, Cond.selects RX0 yX0_handleAt yX0_handleAt, Cond.code yX0_handleAt cX0_handleAt 2 (some .int), Cond.fieldLink RX0 26 "SqueezedVolume$Directory" "handles" "LSqueezedVolume$Row;", Cond.methodLink RX0 33 yX0_add, Cond.instanceMethod yX0_add, Cond.selects RX0 yX0_add yX0_add, Cond.code yX0_add cX0_add 6 none, Cond.methodLink RX0 53 yX2_set]
def wsX3_delete_r4 : List Cond := [Cond.instanceMethod yX2_set, Cond.selects RX2 yX2_set yX2_set, Cond.code yX2_set cX2_set 3 none, Cond.methodLink RX3 43 yX0_addEmpty, Cond.instanceMethod yX0_addEmpty, Cond.selects RX0 yX0_addEmpty yX0_addEmpty, Cond.code yX0_addEmpty cX0_addEmpty 2 none, Cond.methodLink RX3 137 yX0_count, Cond.instanceMethod yX0_count, Cond.selects RX0 yX0_count yX0_count, Cond.code yX0_count cX0_count 1 (some .int), Cond.methodLink RX3 87 yX3_change, Cond.instanceMethod yX3_change, Cond.selects RX3 yX3_change yX3_change, Cond.code yX3_change cX3_change 3 (some .boolean), Cond.methodLink RX3 207 yX1_countWrite, Cond.instanceMethod yX1_countWrite, Cond.selects RX1 yX1_countWrite yX1_countWrite, Cond.code yX1_countWrite cX1_countWrite 1 (some .boolean), Cond.fieldLink RX1 15 "SqueezedVolume$Power" "left" "I", Cond.fieldLink RX1 19 "SqueezedVolume$Power" "count" "I", Cond.methodLink RX3 210 yX0_takeOver, Cond.instanceMethod yX0_takeOver, Cond.selects RX0 yX0_takeOver yX0_takeOver]
def wsX3_delete_r5 : List Cond := [Cond.code yX0_takeOver cX0_takeOver 2 none, Cond.methodLink RX0 57 yX2_takeOver, Cond.instanceMethod yX2_takeOver, Cond.selects RX2 yX2_takeOver yX2_takeOver, Cond.code yX2_takeOver cX2_takeOver 3 none, Cond.methodLink RX2 19 yX2_at]
def wsX3_delete : List Cond := .code yX3_delete cX3_delete 2 (some .int) :: ((wsX3_delete_r1 ++ (wsX3_delete_r2 ++ (wsX3_delete_r3 ++ (wsX3_delete_r4 ++ wsX3_delete_r5)))) ++ wsX30 ++ wsX10 ++ wsX00 ++ wsX20 ++ (vx_atS RX3 67 "java/lang/IllegalStateException" ["java/lang/RuntimeException", "java/lang/Exception"]).filter goodWord ++ (vx_atS RX3 200 "java/util/NoSuchElementException" ["java/lang/RuntimeException", "java/lang/Exception"]).filter goodWord)
def wsX3_rename_r1 : List Cond := [Cond.classLink RX3 75 "java/lang/UnsupportedOperationException", Cond.initialized "java/lang/UnsupportedOperationException", Cond.fieldLink RX3 28 "SqueezedVolume" "directory" "LSqueezedVolume$Directory;", Cond.fieldLink RX3 32 "SqueezedVolume" "draft" "LSqueezedVolume$Directory;", Cond.methodLink RX3 46 yX3_requirePower, Cond.instanceMethod yX3_requirePower, Cond.selects RX3 yX3_requirePower yX3_requirePower, Cond.initialized RX3, Cond.code yX3_requirePower cX3_requirePower 1 none, Cond.classLink RX3 63 "java/lang/IllegalStateException", Cond.initialized "java/lang/IllegalStateException", Cond.fieldLink RX3 10 "SqueezedVolume" "power" "LSqueezedVolume$Power;", Cond.methodLink RX3 151 yX1_isUp, Cond.instanceMethod yX1_isUp, Cond.selects RX1 yX1_isUp yX1_isUp, Cond.initialized RX1, Cond.code yX1_isUp cX1_isUp 1 (some .boolean), Cond.fieldLink RX1 9 "SqueezedVolume$Power" "up" "Z", Cond.methodLink RX3 49 yX3_requireName, Cond.instanceMethod yX3_requireName, Cond.selects RX3 yX3_requireName yX3_requireName, Cond.code yX3_requireName cX3_requireName 2 none, Cond.classLink RX3 52 "java/lang/IllegalArgumentException", Cond.initialized "java/lang/IllegalArgumentException"]
def wsX3_rename_r2 : List Cond := [Cond.methodLink RX3 119 yX3_requirePermanent, Cond.instanceMethod yX3_requirePermanent, Cond.selects RX3 yX3_requirePermanent yX3_requirePermanent, Cond.code yX3_requirePermanent cX3_requirePermanent 3 (some .int), Cond.classLink RX3 196 "java/util/NoSuchElementException", Cond.initialized "java/util/NoSuchElementException", Cond.methodLink RX3 122 yX0_findPermanent, Cond.instanceMethod yX0_findPermanent, Cond.selects RX0 yX0_findPermanent yX0_findPermanent, Cond.initialized RX0, Cond.code yX0_findPermanent cX0_findPermanent 3 (some .int), Cond.fieldLink RX0 29 "SqueezedVolume$Directory" "count" "I", Cond.fieldLink RX0 16 "SqueezedVolume$Directory" "kinds" "LSqueezedVolume$Row;", Cond.fieldLink RX0 23 "SqueezedVolume$Directory" "names" "LSqueezedVolume$Row;", Cond.methodLink RX0 50 yX2_at, Cond.instanceMethod yX2_at, Cond.selects RX2 yX2_at yX2_at, Cond.initialized RX2, Cond.code yX2_at cX2_at 2 (some .int), Cond.fieldLink RX2 13 "SqueezedVolume$Row" "cells" "[I", Cond.methodLink RX3 127 yX0_clear, Cond.instanceMethod yX0_clear, Cond.selects RX0 yX0_clear yX0_clear, Cond.code yX0_clear cX0_clear 1 none]
def wsX3_rename_r3 : List Cond := [Cond.methodLink RX3 130 yX0_addRange, Cond.instanceMethod yX0_addRange, Cond.selects RX0 yX0_addRange yX0_addRange, Cond.code yX0_addRange cX0_addRange 5 none, Cond.methodLink RX0 37 yX0_kindAt, Cond.instanceMethod yX0_kindAt, Cond.selects RX0 yX0_kindAt yX0_kindAt, Cond.code yX0_kindAt cX0_kindAt 2 (some .int), Cond.methodLink RX0 41 yX0_lengthAt, Cond.instanceMethod yX0_lengthAt, Cond.selects RX0 yX0_lengthAt yX0_lengthAt, Cond.code yX0_lengthAt cX0_lengthAt 2 (some .int), Cond.fieldLink RX0 20 "SqueezedVolume$Directory" "lengths" "LSqueezedVolume$Row;", Cond.methodLink RX0 44 yX0_nameAt, Cond.instanceMethod yX0_nameAt, Cond.selects RX0 yX0_nameAt yX0_nameAt, Cond.code yX0_nameAt cX0_nameAt 2 (some .int), Cond.methodLink RX0 47 yX0_handleAt, Cond.instanceMethod yX0_handleAt, Cond.selects RX0 yX0_handleAt yX0_handleAt, Cond.code yX0_handleAt cX0_handleAt 2 (some .int), Cond.fieldLink RX0 26 "SqueezedVolume$Directory" "handles" "LSqueezedVolume$Row;", Cond.methodLink RX0 33 yX0_add, Cond.instanceMethod yX0_add]
def wsX3_rename_r4 : List Cond := [Cond.selects RX0 yX0_add yX0_add, Cond.code yX0_add cX0_add 6 none, Cond.methodLink RX0 53 yX2_set, Cond.instanceMethod yX2_set, Cond.selects RX2 yX2_set yX2_set, Cond.code yX2_set cX2_set 3 none, Cond.methodLink RX3 105 yX0_lengthAt, Cond.methodLink RX3 134 yX0_add, Cond.methodLink RX3 137 yX0_count, Cond.instanceMethod yX0_count, Cond.selects RX0 yX0_count yX0_count, Cond.code yX0_count cX0_count 1 (some .int), Cond.methodLink RX3 87 yX3_change, Cond.instanceMethod yX3_change, Cond.selects RX3 yX3_change yX3_change, Cond.code yX3_change cX3_change 3 (some .boolean), Cond.methodLink RX3 207 yX1_countWrite, Cond.instanceMethod yX1_countWrite, Cond.selects RX1 yX1_countWrite yX1_countWrite, Cond.code yX1_countWrite cX1_countWrite 1 (some .boolean), Cond.fieldLink RX1 15 "SqueezedVolume$Power" "left" "I", Cond.fieldLink RX1 19 "SqueezedVolume$Power" "count" "I", Cond.methodLink RX3 210 yX0_takeOver, Cond.instanceMethod yX0_takeOver]
def wsX3_rename_r5 : List Cond := [Cond.selects RX0 yX0_takeOver yX0_takeOver, Cond.code yX0_takeOver cX0_takeOver 2 none, Cond.methodLink RX0 57 yX2_takeOver, Cond.instanceMethod yX2_takeOver, Cond.selects RX2 yX2_takeOver yX2_takeOver, Cond.code yX2_takeOver cX2_takeOver 3 none, Cond.methodLink RX2 19 yX2_at]
def wsX3_rename : List Cond := .code yX3_rename cX3_rename 4 (some .int) :: ((wsX3_rename_r1 ++ (wsX3_rename_r2 ++ (wsX3_rename_r3 ++ (wsX3_rename_r4 ++ wsX3_rename_r5)))) ++ wsX30 ++ wsX10 ++ wsX00 ++ wsX20 ++ (vx_atS RX3 79 "java/lang/UnsupportedOperationException" ["java/lang/RuntimeException", "java/lang/Exception"]).filter goodWord ++ (vx_atS RX3 67 "java/lang/IllegalStateException" ["java/lang/RuntimeException", "java/lang/Exception"]).filter goodWord ++ (vx_atS RX3 56 "java/lang/IllegalArgumentException" ["java/lang/RuntimeException", "java/lang/Exception"]).filter goodWord ++ (vx_atS RX3 200 "java/util/NoSuchElementException" ["java/lang/RuntimeException", "java/lang/Exception"]).filter goodWord)
def wsX3_read_r1 : List Cond := [Cond.fieldLink RX3 21 "SqueezedVolume" "content" "LSqueezedVolume$Row;", Cond.fieldLink RX3 28 "SqueezedVolume" "directory" "LSqueezedVolume$Directory;", Cond.methodLink RX3 46 yX3_requirePower, Cond.instanceMethod yX3_requirePower, Cond.selects RX3 yX3_requirePower yX3_requirePower, Cond.initialized RX3, Cond.code yX3_requirePower cX3_requirePower 1 none, Cond.classLink RX3 63 "java/lang/IllegalStateException", Cond.initialized "java/lang/IllegalStateException", Cond.fieldLink RX3 10 "SqueezedVolume" "power" "LSqueezedVolume$Power;", Cond.methodLink RX3 151 yX1_isUp, Cond.instanceMethod yX1_isUp, Cond.selects RX1 yX1_isUp yX1_isUp, Cond.initialized RX1, Cond.code yX1_isUp cX1_isUp 1 (some .boolean), Cond.fieldLink RX1 9 "SqueezedVolume$Power" "up" "Z", Cond.methodLink RX3 119 yX3_requirePermanent, Cond.instanceMethod yX3_requirePermanent, Cond.selects RX3 yX3_requirePermanent yX3_requirePermanent, Cond.code yX3_requirePermanent cX3_requirePermanent 3 (some .int), Cond.classLink RX3 196 "java/util/NoSuchElementException", Cond.initialized "java/util/NoSuchElementException", Cond.methodLink RX3 122 yX0_findPermanent, Cond.instanceMethod yX0_findPermanent]
def wsX3_read_r2 : List Cond := [Cond.selects RX0 yX0_findPermanent yX0_findPermanent, Cond.initialized RX0, Cond.code yX0_findPermanent cX0_findPermanent 3 (some .int), Cond.fieldLink RX0 29 "SqueezedVolume$Directory" "count" "I", Cond.fieldLink RX0 16 "SqueezedVolume$Directory" "kinds" "LSqueezedVolume$Row;", Cond.fieldLink RX0 23 "SqueezedVolume$Directory" "names" "LSqueezedVolume$Row;", Cond.methodLink RX0 50 yX2_at, Cond.instanceMethod yX2_at, Cond.selects RX2 yX2_at yX2_at, Cond.initialized RX2, Cond.code yX2_at cX2_at 2 (some .int), Cond.fieldLink RX2 13 "SqueezedVolume$Row" "cells" "[I", Cond.methodLink RX3 94 yX3_requireBlock, Cond.instanceMethod yX3_requireBlock, Cond.selects RX3 yX3_requireBlock yX3_requireBlock, Cond.code yX3_requireBlock cX3_requireBlock 3 none, Cond.classLink RX3 52 "java/lang/IllegalArgumentException", Cond.initialized "java/lang/IllegalArgumentException", Cond.methodLink RX3 105 yX0_lengthAt, Cond.instanceMethod yX0_lengthAt, Cond.selects RX0 yX0_lengthAt yX0_lengthAt, Cond.code yX0_lengthAt cX0_lengthAt 2 (some .int), Cond.fieldLink RX0 20 "SqueezedVolume$Directory" "lengths" "LSqueezedVolume$Row;", Cond.methodLink RX3 98 yX0_beginAt]
def wsX3_read_r3 : List Cond := [Cond.instanceMethod yX0_beginAt, Cond.selects RX0 yX0_beginAt yX0_beginAt, Cond.code yX0_beginAt cX0_beginAt 4 (some .int), Cond.methodLink RX3 140 yX2_at]
def wsX3_read : List Cond := .code yX3_read cX3_read 4 (some .int) :: ((wsX3_read_r1 ++ (wsX3_read_r2 ++ wsX3_read_r3)) ++ wsX30 ++ wsX10 ++ wsX00 ++ wsX20 ++ (vx_atS RX3 67 "java/lang/IllegalStateException" ["java/lang/RuntimeException", "java/lang/Exception"]).filter goodWord ++ (vx_atS RX3 200 "java/util/NoSuchElementException" ["java/lang/RuntimeException", "java/lang/Exception"]).filter goodWord ++ (vx_atS RX3 56 "java/lang/IllegalArgumentException" ["java/lang/RuntimeException", "java/lang/Exception"]).filter goodWord)
def wsX3_writeLedger : List Cond := .code yX3_writeLedger cX3_writeLedger 2 (some .boolean) :: ([.fieldLink RX3 10 "SqueezedVolume" "power" "LSqueezedVolume$Power;", .fieldLink RX3 39 "SqueezedVolume" "ledger" "I", .fieldLink RX3 35 "SqueezedVolume" "squeezing" "Z", .methodLink RX3 207 yX1_countWrite, .instanceMethod yX1_countWrite, .selects RX1 yX1_countWrite yX1_countWrite, .initialized RX1, .code yX1_countWrite cX1_countWrite 1 (some .boolean), .fieldLink RX1 15 "SqueezedVolume$Power" "left" "I", .fieldLink RX1 9 "SqueezedVolume$Power" "up" "Z", .fieldLink RX1 19 "SqueezedVolume$Power" "count" "I"] ++ wsX30 ++ wsX10)
def wsX3_copyDown_r1 : List Cond := [Cond.fieldLink RX3 28 "SqueezedVolume" "directory" "LSqueezedVolume$Directory;", Cond.methodLink RX3 230 Lib.Math.min.name, Cond.static Lib.Math.min.name, Cond.initialized "java/lang/Math", Cond.code Lib.Math.min.name Lib.Math.min.code 2 (some .int), Cond.fieldLink RX3 39 "SqueezedVolume" "ledger" "I", Cond.methodLink RX3 236 Lib.Math.max.name, Cond.static Lib.Math.max.name, Cond.code Lib.Math.max.name Lib.Math.max.code 2 (some .int), Cond.fieldLink RX3 21 "SqueezedVolume" "content" "LSqueezedVolume$Row;", Cond.methodLink RX3 98 yX0_beginAt, Cond.instanceMethod yX0_beginAt, Cond.selects RX0 yX0_beginAt yX0_beginAt, Cond.initialized RX0, Cond.code yX0_beginAt cX0_beginAt 4 (some .int), Cond.fieldLink RX0 29 "SqueezedVolume$Directory" "count" "I", Cond.fieldLink RX0 20 "SqueezedVolume$Directory" "lengths" "LSqueezedVolume$Row;", Cond.methodLink RX0 50 yX2_at, Cond.instanceMethod yX2_at, Cond.selects RX2 yX2_at yX2_at, Cond.initialized RX2, Cond.code yX2_at cX2_at 2 (some .int), Cond.fieldLink RX2 13 "SqueezedVolume$Row" "cells" "[I", Cond.methodLink RX3 105 yX0_lengthAt]
def wsX3_copyDown_r2 : List Cond := [Cond.instanceMethod yX0_lengthAt, Cond.selects RX0 yX0_lengthAt yX0_lengthAt, Cond.code yX0_lengthAt cX0_lengthAt 2 (some .int), Cond.methodLink RX3 239 yX3_writeLedger, Cond.instanceMethod yX3_writeLedger, Cond.selects RX3 yX3_writeLedger yX3_writeLedger, Cond.initialized RX3, Cond.code yX3_writeLedger cX3_writeLedger 2 (some .boolean), Cond.fieldLink RX3 10 "SqueezedVolume" "power" "LSqueezedVolume$Power;", Cond.fieldLink RX3 35 "SqueezedVolume" "squeezing" "Z", Cond.methodLink RX3 207 yX1_countWrite, Cond.instanceMethod yX1_countWrite, Cond.selects RX1 yX1_countWrite yX1_countWrite, Cond.initialized RX1, Cond.code yX1_countWrite cX1_countWrite 1 (some .boolean), Cond.fieldLink RX1 15 "SqueezedVolume$Power" "left" "I", Cond.fieldLink RX1 9 "SqueezedVolume$Power" "up" "Z", Cond.fieldLink RX1 19 "SqueezedVolume$Power" "count" "I", Cond.methodLink RX3 140 yX2_at, Cond.methodLink RX3 101 yX3_writeBlock, Cond.instanceMethod yX3_writeBlock, Cond.selects RX3 yX3_writeBlock yX3_writeBlock, Cond.code yX3_writeBlock cX3_writeBlock 3 (some .boolean), Cond.methodLink RX3 214 yX2_set]
def wsX3_copyDown_r3 : List Cond := [Cond.instanceMethod yX2_set, Cond.selects RX2 yX2_set yX2_set, Cond.code yX2_set cX2_set 3 none]
def wsX3_copyDown : List Cond := .code yX3_copyDown cX3_copyDown 7 (some .boolean) :: ((wsX3_copyDown_r1 ++ (wsX3_copyDown_r2 ++ wsX3_copyDown_r3)) ++ wsX30 ++ wsX00 ++ wsX20 ++ wsX10)
def wsX3_draftMovedBefore_r1 : List Cond := [Cond.fieldLink RX3 32 "SqueezedVolume" "draft" "LSqueezedVolume$Directory;", Cond.fieldLink RX3 28 "SqueezedVolume" "directory" "LSqueezedVolume$Directory;", Cond.methodLink RX3 127 yX0_clear, Cond.instanceMethod yX0_clear, Cond.selects RX0 yX0_clear yX0_clear, Cond.initialized RX0, Cond.code yX0_clear cX0_clear 1 none, Cond.fieldLink RX0 29 "SqueezedVolume$Directory" "count" "I", Cond.methodLink RX3 130 yX0_addRange, Cond.instanceMethod yX0_addRange, Cond.selects RX0 yX0_addRange yX0_addRange, Cond.code yX0_addRange cX0_addRange 5 none, Cond.methodLink RX0 37 yX0_kindAt, Cond.instanceMethod yX0_kindAt, Cond.selects RX0 yX0_kindAt yX0_kindAt, Cond.code yX0_kindAt cX0_kindAt 2 (some .int), Cond.fieldLink RX0 16 "SqueezedVolume$Directory" "kinds" "LSqueezedVolume$Row;", Cond.methodLink RX0 50 yX2_at, Cond.instanceMethod yX2_at, Cond.selects RX2 yX2_at yX2_at, Cond.initialized RX2, Cond.code yX2_at cX2_at 2 (some .int), Cond.fieldLink RX2 13 "SqueezedVolume$Row" "cells" "[I", Cond.methodLink RX0 41 yX0_lengthAt]
def wsX3_draftMovedBefore_r2 : List Cond := [Cond.instanceMethod yX0_lengthAt, Cond.selects RX0 yX0_lengthAt yX0_lengthAt, Cond.code yX0_lengthAt cX0_lengthAt 2 (some .int), Cond.fieldLink RX0 20 "SqueezedVolume$Directory" "lengths" "LSqueezedVolume$Row;", Cond.methodLink RX0 44 yX0_nameAt, Cond.instanceMethod yX0_nameAt, Cond.selects RX0 yX0_nameAt yX0_nameAt, Cond.code yX0_nameAt cX0_nameAt 2 (some .int), Cond.fieldLink RX0 23 "SqueezedVolume$Directory" "names" "LSqueezedVolume$Row;", Cond.methodLink RX0 47 yX0_handleAt, Cond.instanceMethod yX0_handleAt, Cond.selects RX0 yX0_handleAt yX0_handleAt, Cond.code yX0_handleAt cX0_handleAt 2 (some .int), Cond.fieldLink RX0 26 "SqueezedVolume$Directory" "handles" "LSqueezedVolume$Row;", Cond.methodLink RX0 33 yX0_add, Cond.instanceMethod yX0_add, Cond.selects RX0 yX0_add yX0_add, Cond.code yX0_add cX0_add 6 none, Cond.methodLink RX0 53 yX2_set, Cond.instanceMethod yX2_set, Cond.selects RX2 yX2_set yX2_set, Cond.code yX2_set cX2_set 3 none, Cond.methodLink RX3 105 yX0_lengthAt, Cond.methodLink RX3 43 yX0_addEmpty]
def wsX3_draftMovedBefore_r3 : List Cond := [Cond.instanceMethod yX0_addEmpty, Cond.selects RX0 yX0_addEmpty yX0_addEmpty, Cond.code yX0_addEmpty cX0_addEmpty 2 none, Cond.methodLink RX3 137 yX0_count, Cond.instanceMethod yX0_count, Cond.selects RX0 yX0_count yX0_count, Cond.code yX0_count cX0_count 1 (some .int)]
def wsX3_draftMovedBefore : List Cond := .code yX3_draftMovedBefore cX3_draftMovedBefore 2 none :: ((wsX3_draftMovedBefore_r1 ++ (wsX3_draftMovedBefore_r2 ++ wsX3_draftMovedBefore_r3)) ++ wsX30 ++ wsX00 ++ wsX20)
def wsX3_moveDown_r1 : List Cond := [Cond.fieldLink RX3 39 "SqueezedVolume" "ledger" "I", Cond.methodLink RX3 224 yX3_copyDown, Cond.instanceMethod yX3_copyDown, Cond.selects RX3 yX3_copyDown yX3_copyDown, Cond.initialized RX3, Cond.code yX3_copyDown cX3_copyDown 7 (some .boolean), Cond.fieldLink RX3 28 "SqueezedVolume" "directory" "LSqueezedVolume$Directory;", Cond.methodLink RX3 230 Lib.Math.min.name, Cond.static Lib.Math.min.name, Cond.initialized "java/lang/Math", Cond.code Lib.Math.min.name Lib.Math.min.code 2 (some .int), Cond.methodLink RX3 236 Lib.Math.max.name, Cond.static Lib.Math.max.name, Cond.code Lib.Math.max.name Lib.Math.max.code 2 (some .int), Cond.fieldLink RX3 21 "SqueezedVolume" "content" "LSqueezedVolume$Row;", Cond.methodLink RX3 98 yX0_beginAt, Cond.instanceMethod yX0_beginAt, Cond.selects RX0 yX0_beginAt yX0_beginAt, Cond.initialized RX0, Cond.code yX0_beginAt cX0_beginAt 4 (some .int), Cond.fieldLink RX0 29 "SqueezedVolume$Directory" "count" "I", Cond.fieldLink RX0 20 "SqueezedVolume$Directory" "lengths" "LSqueezedVolume$Row;", Cond.methodLink RX0 50 yX2_at, Cond.instanceMethod yX2_at]
def wsX3_moveDown_r2 : List Cond := [Cond.selects RX2 yX2_at yX2_at, Cond.initialized RX2, Cond.code yX2_at cX2_at 2 (some .int), Cond.fieldLink RX2 13 "SqueezedVolume$Row" "cells" "[I", Cond.methodLink RX3 105 yX0_lengthAt, Cond.instanceMethod yX0_lengthAt, Cond.selects RX0 yX0_lengthAt yX0_lengthAt, Cond.code yX0_lengthAt cX0_lengthAt 2 (some .int), Cond.methodLink RX3 239 yX3_writeLedger, Cond.instanceMethod yX3_writeLedger, Cond.selects RX3 yX3_writeLedger yX3_writeLedger, Cond.code yX3_writeLedger cX3_writeLedger 2 (some .boolean), Cond.fieldLink RX3 10 "SqueezedVolume" "power" "LSqueezedVolume$Power;", Cond.fieldLink RX3 35 "SqueezedVolume" "squeezing" "Z", Cond.methodLink RX3 207 yX1_countWrite, Cond.instanceMethod yX1_countWrite, Cond.selects RX1 yX1_countWrite yX1_countWrite, Cond.initialized RX1, Cond.code yX1_countWrite cX1_countWrite 1 (some .boolean), Cond.fieldLink RX1 15 "SqueezedVolume$Power" "left" "I", Cond.fieldLink RX1 9 "SqueezedVolume$Power" "up" "Z", Cond.fieldLink RX1 19 "SqueezedVolume$Power" "count" "I", Cond.methodLink RX3 140 yX2_at, Cond.methodLink RX3 101 yX3_writeBlock]
def wsX3_moveDown_r3 : List Cond := [Cond.instanceMethod yX3_writeBlock, Cond.selects RX3 yX3_writeBlock yX3_writeBlock, Cond.code yX3_writeBlock cX3_writeBlock 3 (some .boolean), Cond.methodLink RX3 214 yX2_set, Cond.instanceMethod yX2_set, Cond.selects RX2 yX2_set yX2_set, Cond.code yX2_set cX2_set 3 none, Cond.methodLink RX3 227 yX3_draftMovedBefore, Cond.instanceMethod yX3_draftMovedBefore, Cond.selects RX3 yX3_draftMovedBefore yX3_draftMovedBefore, Cond.code yX3_draftMovedBefore cX3_draftMovedBefore 2 none, Cond.fieldLink RX3 32 "SqueezedVolume" "draft" "LSqueezedVolume$Directory;", Cond.methodLink RX3 127 yX0_clear, Cond.instanceMethod yX0_clear, Cond.selects RX0 yX0_clear yX0_clear, Cond.code yX0_clear cX0_clear 1 none, Cond.methodLink RX3 130 yX0_addRange, Cond.instanceMethod yX0_addRange, Cond.selects RX0 yX0_addRange yX0_addRange, Cond.code yX0_addRange cX0_addRange 5 none, Cond.methodLink RX0 37 yX0_kindAt, Cond.instanceMethod yX0_kindAt, Cond.selects RX0 yX0_kindAt yX0_kindAt, Cond.code yX0_kindAt cX0_kindAt 2 (some .int)]
def wsX3_moveDown_r4 : List Cond := [Cond.fieldLink RX0 16 "SqueezedVolume$Directory" "kinds" "LSqueezedVolume$Row;", Cond.methodLink RX0 41 yX0_lengthAt, Cond.methodLink RX0 44 yX0_nameAt, Cond.instanceMethod yX0_nameAt, Cond.selects RX0 yX0_nameAt yX0_nameAt, Cond.code yX0_nameAt cX0_nameAt 2 (some .int), Cond.fieldLink RX0 23 "SqueezedVolume$Directory" "names" "LSqueezedVolume$Row;", Cond.methodLink RX0 47 yX0_handleAt, Cond.instanceMethod yX0_handleAt, Cond.selects RX0 yX0_handleAt yX0_handleAt, Cond.code yX0_handleAt cX0_handleAt 2 (some .int), Cond.fieldLink RX0 26 "SqueezedVolume$Directory" "handles" "LSqueezedVolume$Row;", Cond.methodLink RX0 33 yX0_add, Cond.instanceMethod yX0_add, Cond.selects RX0 yX0_add yX0_add, Cond.code yX0_add cX0_add 6 none, Cond.methodLink RX0 53 yX2_set, Cond.methodLink RX3 43 yX0_addEmpty, Cond.instanceMethod yX0_addEmpty, Cond.selects RX0 yX0_addEmpty yX0_addEmpty, Cond.code yX0_addEmpty cX0_addEmpty 2 none, Cond.methodLink RX3 137 yX0_count, Cond.instanceMethod yX0_count, Cond.selects RX0 yX0_count yX0_count]
def wsX3_moveDown_r5 : List Cond := [Cond.code yX0_count cX0_count 1 (some .int), Cond.methodLink RX3 87 yX3_change, Cond.instanceMethod yX3_change, Cond.selects RX3 yX3_change yX3_change, Cond.code yX3_change cX3_change 3 (some .boolean), Cond.methodLink RX3 210 yX0_takeOver, Cond.instanceMethod yX0_takeOver, Cond.selects RX0 yX0_takeOver yX0_takeOver, Cond.code yX0_takeOver cX0_takeOver 2 none, Cond.methodLink RX0 57 yX2_takeOver, Cond.instanceMethod yX2_takeOver, Cond.selects RX2 yX2_takeOver yX2_takeOver, Cond.code yX2_takeOver cX2_takeOver 3 none, Cond.methodLink RX2 19 yX2_at]
def wsX3_moveDown : List Cond := .code yX3_moveDown cX3_moveDown 2 (some .boolean) :: ((wsX3_moveDown_r1 ++ (wsX3_moveDown_r2 ++ (wsX3_moveDown_r3 ++ (wsX3_moveDown_r4 ++ wsX3_moveDown_r5)))) ++ wsX30 ++ wsX00 ++ wsX20 ++ wsX10)
def wsX3_moveAll_r1 : List Cond := [Cond.fieldLink RX3 28 "SqueezedVolume" "directory" "LSqueezedVolume$Directory;", Cond.fieldLink RX3 35 "SqueezedVolume" "squeezing" "Z", Cond.methodLink RX3 217 yX0_findGap, Cond.instanceMethod yX0_findGap, Cond.selects RX0 yX0_findGap yX0_findGap, Cond.initialized RX0, Cond.code yX0_findGap cX0_findGap 2 (some .int), Cond.fieldLink RX0 29 "SqueezedVolume$Directory" "count" "I", Cond.fieldLink RX0 16 "SqueezedVolume$Directory" "kinds" "LSqueezedVolume$Row;", Cond.methodLink RX0 50 yX2_at, Cond.instanceMethod yX2_at, Cond.selects RX2 yX2_at yX2_at, Cond.initialized RX2, Cond.code yX2_at cX2_at 2 (some .int), Cond.fieldLink RX2 13 "SqueezedVolume$Row" "cells" "[I", Cond.methodLink RX3 105 yX0_lengthAt, Cond.instanceMethod yX0_lengthAt, Cond.selects RX0 yX0_lengthAt yX0_lengthAt, Cond.code yX0_lengthAt cX0_lengthAt 2 (some .int), Cond.fieldLink RX0 20 "SqueezedVolume$Directory" "lengths" "LSqueezedVolume$Row;", Cond.methodLink RX3 220 yX3_moveDown, Cond.instanceMethod yX3_moveDown, Cond.selects RX3 yX3_moveDown yX3_moveDown, Cond.initialized RX3]
def wsX3_moveAll_r2 : List Cond := [Cond.code yX3_moveDown cX3_moveDown 2 (some .boolean), Cond.fieldLink RX3 39 "SqueezedVolume" "ledger" "I", Cond.methodLink RX3 224 yX3_copyDown, Cond.instanceMethod yX3_copyDown, Cond.selects RX3 yX3_copyDown yX3_copyDown, Cond.code yX3_copyDown cX3_copyDown 7 (some .boolean), Cond.methodLink RX3 230 Lib.Math.min.name, Cond.static Lib.Math.min.name, Cond.initialized "java/lang/Math", Cond.code Lib.Math.min.name Lib.Math.min.code 2 (some .int), Cond.methodLink RX3 236 Lib.Math.max.name, Cond.static Lib.Math.max.name, Cond.code Lib.Math.max.name Lib.Math.max.code 2 (some .int), Cond.fieldLink RX3 21 "SqueezedVolume" "content" "LSqueezedVolume$Row;", Cond.methodLink RX3 98 yX0_beginAt, Cond.instanceMethod yX0_beginAt, Cond.selects RX0 yX0_beginAt yX0_beginAt, Cond.code yX0_beginAt cX0_beginAt 4 (some .int), Cond.methodLink RX3 239 yX3_writeLedger, Cond.instanceMethod yX3_writeLedger, Cond.selects RX3 yX3_writeLedger yX3_writeLedger, Cond.code yX3_writeLedger cX3_writeLedger 2 (some .boolean), Cond.fieldLink RX3 10 "SqueezedVolume" "power" "LSqueezedVolume$Power;", Cond.methodLink RX3 207 yX1_countWrite]
def wsX3_moveAll_r3 : List Cond := [Cond.instanceMethod yX1_countWrite, Cond.selects RX1 yX1_countWrite yX1_countWrite, Cond.initialized RX1, Cond.code yX1_countWrite cX1_countWrite 1 (some .boolean), Cond.fieldLink RX1 15 "SqueezedVolume$Power" "left" "I", Cond.fieldLink RX1 9 "SqueezedVolume$Power" "up" "Z", Cond.fieldLink RX1 19 "SqueezedVolume$Power" "count" "I", Cond.methodLink RX3 140 yX2_at, Cond.methodLink RX3 101 yX3_writeBlock, Cond.instanceMethod yX3_writeBlock, Cond.selects RX3 yX3_writeBlock yX3_writeBlock, Cond.code yX3_writeBlock cX3_writeBlock 3 (some .boolean), Cond.methodLink RX3 214 yX2_set, Cond.instanceMethod yX2_set, Cond.selects RX2 yX2_set yX2_set, Cond.code yX2_set cX2_set 3 none, Cond.methodLink RX3 227 yX3_draftMovedBefore, Cond.instanceMethod yX3_draftMovedBefore, Cond.selects RX3 yX3_draftMovedBefore yX3_draftMovedBefore, Cond.code yX3_draftMovedBefore cX3_draftMovedBefore 2 none, Cond.fieldLink RX3 32 "SqueezedVolume" "draft" "LSqueezedVolume$Directory;", Cond.methodLink RX3 127 yX0_clear, Cond.instanceMethod yX0_clear, Cond.selects RX0 yX0_clear yX0_clear]
def wsX3_moveAll_r4 : List Cond := [Cond.code yX0_clear cX0_clear 1 none, Cond.methodLink RX3 130 yX0_addRange, Cond.instanceMethod yX0_addRange, Cond.selects RX0 yX0_addRange yX0_addRange, Cond.code yX0_addRange cX0_addRange 5 none, Cond.methodLink RX0 37 yX0_kindAt, Cond.instanceMethod yX0_kindAt, Cond.selects RX0 yX0_kindAt yX0_kindAt, Cond.code yX0_kindAt cX0_kindAt 2 (some .int), Cond.methodLink RX0 41 yX0_lengthAt, Cond.methodLink RX0 44 yX0_nameAt, Cond.instanceMethod yX0_nameAt, Cond.selects RX0 yX0_nameAt yX0_nameAt, Cond.code yX0_nameAt cX0_nameAt 2 (some .int), Cond.fieldLink RX0 23 "SqueezedVolume$Directory" "names" "LSqueezedVolume$Row;", Cond.methodLink RX0 47 yX0_handleAt, Cond.instanceMethod yX0_handleAt, Cond.selects RX0 yX0_handleAt yX0_handleAt, Cond.code yX0_handleAt cX0_handleAt 2 (some .int), Cond.fieldLink RX0 26 "SqueezedVolume$Directory" "handles" "LSqueezedVolume$Row;", Cond.methodLink RX0 33 yX0_add, Cond.instanceMethod yX0_add, Cond.selects RX0 yX0_add yX0_add, Cond.code yX0_add cX0_add 6 none]
def wsX3_moveAll_r5 : List Cond := [Cond.methodLink RX0 53 yX2_set, Cond.methodLink RX3 43 yX0_addEmpty, Cond.instanceMethod yX0_addEmpty, Cond.selects RX0 yX0_addEmpty yX0_addEmpty, Cond.code yX0_addEmpty cX0_addEmpty 2 none, Cond.methodLink RX3 137 yX0_count, Cond.instanceMethod yX0_count, Cond.selects RX0 yX0_count yX0_count, Cond.code yX0_count cX0_count 1 (some .int), Cond.methodLink RX3 87 yX3_change, Cond.instanceMethod yX3_change, Cond.selects RX3 yX3_change yX3_change, Cond.code yX3_change cX3_change 3 (some .boolean), Cond.methodLink RX3 210 yX0_takeOver, Cond.instanceMethod yX0_takeOver, Cond.selects RX0 yX0_takeOver yX0_takeOver, Cond.code yX0_takeOver cX0_takeOver 2 none, Cond.methodLink RX0 57 yX2_takeOver, Cond.instanceMethod yX2_takeOver, Cond.selects RX2 yX2_takeOver yX2_takeOver, Cond.code yX2_takeOver cX2_takeOver 3 none, Cond.methodLink RX2 19 yX2_at]
def wsX3_moveAll : List Cond := .code yX3_moveAll cX3_moveAll 4 (some .int) :: ((wsX3_moveAll_r1 ++ (wsX3_moveAll_r2 ++ (wsX3_moveAll_r3 ++ (wsX3_moveAll_r4 ++ wsX3_moveAll_r5)))) ++ wsX30 ++ wsX00 ++ wsX20 ++ wsX10)
def wsX3_squeeze_r1 : List Cond := [Cond.classLink RX3 63 "java/lang/IllegalStateException", Cond.initialized "java/lang/IllegalStateException", Cond.fieldLink RX3 28 "SqueezedVolume" "directory" "LSqueezedVolume$Directory;", Cond.methodLink RX3 46 yX3_requirePower, Cond.instanceMethod yX3_requirePower, Cond.selects RX3 yX3_requirePower yX3_requirePower, Cond.initialized RX3, Cond.code yX3_requirePower cX3_requirePower 1 none, Cond.fieldLink RX3 10 "SqueezedVolume" "power" "LSqueezedVolume$Power;", Cond.methodLink RX3 151 yX1_isUp, Cond.instanceMethod yX1_isUp, Cond.selects RX1 yX1_isUp yX1_isUp, Cond.initialized RX1, Cond.code yX1_isUp cX1_isUp 1 (some .boolean), Cond.fieldLink RX1 9 "SqueezedVolume$Power" "up" "Z", Cond.methodLink RX3 143 yX0_countOf, Cond.instanceMethod yX0_countOf, Cond.selects RX0 yX0_countOf yX0_countOf, Cond.initialized RX0, Cond.code yX0_countOf cX0_countOf 4 (some .int), Cond.fieldLink RX0 29 "SqueezedVolume$Directory" "count" "I", Cond.fieldLink RX0 16 "SqueezedVolume$Directory" "kinds" "LSqueezedVolume$Row;", Cond.methodLink RX0 50 yX2_at, Cond.instanceMethod yX2_at]
def wsX3_squeeze_r2 : List Cond := [Cond.selects RX2 yX2_at yX2_at, Cond.initialized RX2, Cond.code yX2_at cX2_at 2 (some .int), Cond.fieldLink RX2 13 "SqueezedVolume$Row" "cells" "[I", Cond.methodLink RX3 148 yX3_moveAll, Cond.instanceMethod yX3_moveAll, Cond.selects RX3 yX3_moveAll yX3_moveAll, Cond.code yX3_moveAll cX3_moveAll 4 (some .int), Cond.fieldLink RX3 35 "SqueezedVolume" "squeezing" "Z", Cond.methodLink RX3 217 yX0_findGap, Cond.instanceMethod yX0_findGap, Cond.selects RX0 yX0_findGap yX0_findGap, Cond.code yX0_findGap cX0_findGap 2 (some .int), Cond.methodLink RX3 105 yX0_lengthAt, Cond.instanceMethod yX0_lengthAt, Cond.selects RX0 yX0_lengthAt yX0_lengthAt, Cond.code yX0_lengthAt cX0_lengthAt 2 (some .int), Cond.fieldLink RX0 20 "SqueezedVolume$Directory" "lengths" "LSqueezedVolume$Row;", Cond.methodLink RX3 220 yX3_moveDown, Cond.instanceMethod yX3_moveDown, Cond.selects RX3 yX3_moveDown yX3_moveDown, Cond.code yX3_moveDown cX3_moveDown 2 (some .boolean), Cond.fieldLink RX3 39 "SqueezedVolume" "ledger" "I", Cond.methodLink RX3 224 yX3_copyDown]
def wsX3_squeeze_r3 : List Cond := [Cond.instanceMethod yX3_copyDown, Cond.selects RX3 yX3_copyDown yX3_copyDown, Cond.code yX3_copyDown cX3_copyDown 7 (some .boolean), Cond.methodLink RX3 230 Lib.Math.min.name, Cond.static Lib.Math.min.name, Cond.initialized "java/lang/Math", Cond.code Lib.Math.min.name Lib.Math.min.code 2 (some .int), Cond.methodLink RX3 236 Lib.Math.max.name, Cond.static Lib.Math.max.name, Cond.code Lib.Math.max.name Lib.Math.max.code 2 (some .int), Cond.fieldLink RX3 21 "SqueezedVolume" "content" "LSqueezedVolume$Row;", Cond.methodLink RX3 98 yX0_beginAt, Cond.instanceMethod yX0_beginAt, Cond.selects RX0 yX0_beginAt yX0_beginAt, Cond.code yX0_beginAt cX0_beginAt 4 (some .int), Cond.methodLink RX3 239 yX3_writeLedger, Cond.instanceMethod yX3_writeLedger, Cond.selects RX3 yX3_writeLedger yX3_writeLedger, Cond.code yX3_writeLedger cX3_writeLedger 2 (some .boolean), Cond.methodLink RX3 207 yX1_countWrite, Cond.instanceMethod yX1_countWrite, Cond.selects RX1 yX1_countWrite yX1_countWrite, Cond.code yX1_countWrite cX1_countWrite 1 (some .boolean), Cond.fieldLink RX1 15 "SqueezedVolume$Power" "left" "I"]
def wsX3_squeeze_r4 : List Cond := [Cond.fieldLink RX1 19 "SqueezedVolume$Power" "count" "I", Cond.methodLink RX3 140 yX2_at, Cond.methodLink RX3 101 yX3_writeBlock, Cond.instanceMethod yX3_writeBlock, Cond.selects RX3 yX3_writeBlock yX3_writeBlock, Cond.code yX3_writeBlock cX3_writeBlock 3 (some .boolean), Cond.methodLink RX3 214 yX2_set, Cond.instanceMethod yX2_set, Cond.selects RX2 yX2_set yX2_set, Cond.code yX2_set cX2_set 3 none, Cond.methodLink RX3 227 yX3_draftMovedBefore, Cond.instanceMethod yX3_draftMovedBefore, Cond.selects RX3 yX3_draftMovedBefore yX3_draftMovedBefore, Cond.code yX3_draftMovedBefore cX3_draftMovedBefore 2 none, Cond.fieldLink RX3 32 "SqueezedVolume" "draft" "LSqueezedVolume$Directory;", Cond.methodLink RX3 127 yX0_clear, Cond.instanceMethod yX0_clear, Cond.selects RX0 yX0_clear yX0_clear, Cond.code yX0_clear cX0_clear 1 none, Cond.methodLink RX3 130 yX0_addRange, Cond.instanceMethod yX0_addRange, Cond.selects RX0 yX0_addRange yX0_addRange, Cond.code yX0_addRange cX0_addRange 5 none, Cond.methodLink RX0 37 yX0_kindAt]
def wsX3_squeeze_r5 : List Cond := [Cond.instanceMethod yX0_kindAt, Cond.selects RX0 yX0_kindAt yX0_kindAt, Cond.code yX0_kindAt cX0_kindAt 2 (some .int), Cond.methodLink RX0 41 yX0_lengthAt, Cond.methodLink RX0 44 yX0_nameAt, Cond.instanceMethod yX0_nameAt, Cond.selects RX0 yX0_nameAt yX0_nameAt, Cond.code yX0_nameAt cX0_nameAt 2 (some .int), Cond.fieldLink RX0 23 "SqueezedVolume$Directory" "names" "LSqueezedVolume$Row;", Cond.methodLink RX0 47 yX0_handleAt, Cond.instanceMethod yX0_handleAt, Cond.selects RX0 yX0_handleAt yX0_handleAt, Cond.code yX0_handleAt cX0_handleAt 2 (some .int), Cond.fieldLink RX0 26 "SqueezedVolume$Directory" "handles" "LSqueezedVolume$Row;", Cond.methodLink RX0 33 yX0_add, Cond.instanceMethod yX0_add, Cond.selects RX0 yX0_add yX0_add, Cond.code yX0_add cX0_add 6 none, Cond.methodLink RX0 53 yX2_set, Cond.methodLink RX3 43 yX0_addEmpty, Cond.instanceMethod yX0_addEmpty, Cond.selects RX0 yX0_addEmpty yX0_addEmpty, Cond.code yX0_addEmpty cX0_addEmpty 2 none, Cond.methodLink RX3 137 yX0_count]
def wsX3_squeeze_r6 : List Cond := [Cond.instanceMethod yX0_count, Cond.selects RX0 yX0_count yX0_count, Cond.code yX0_count cX0_count 1 (some .int), Cond.methodLink RX3 87 yX3_change, Cond.instanceMethod yX3_change, Cond.selects RX3 yX3_change yX3_change, Cond.code yX3_change cX3_change 3 (some .boolean), Cond.methodLink RX3 210 yX0_takeOver, Cond.instanceMethod yX0_takeOver, Cond.selects RX0 yX0_takeOver yX0_takeOver, Cond.code yX0_takeOver cX0_takeOver 2 none, Cond.methodLink RX0 57 yX2_takeOver, Cond.instanceMethod yX2_takeOver, Cond.selects RX2 yX2_takeOver yX2_takeOver, Cond.code yX2_takeOver cX2_takeOver 3 none, Cond.methodLink RX2 19 yX2_at]
def wsX3_squeeze : List Cond := .code yX3_squeeze cX3_squeeze 1 (some .int) :: ((wsX3_squeeze_r1 ++ (wsX3_squeeze_r2 ++ (wsX3_squeeze_r3 ++ (wsX3_squeeze_r4 ++ (wsX3_squeeze_r5 ++ wsX3_squeeze_r6))))) ++ wsX30 ++ wsX10 ++ wsX00 ++ wsX20 ++ (vx_atS RX3 67 "java/lang/IllegalStateException" ["java/lang/RuntimeException", "java/lang/Exception"]).filter goodWord)
def wsX3_draftWithoutTentative_r1 : List Cond := [Cond.fieldLink RX3 32 "SqueezedVolume" "draft" "LSqueezedVolume$Directory;", Cond.fieldLink RX3 28 "SqueezedVolume" "directory" "LSqueezedVolume$Directory;", Cond.methodLink RX3 127 yX0_clear, Cond.instanceMethod yX0_clear, Cond.selects RX0 yX0_clear yX0_clear, Cond.initialized RX0, Cond.code yX0_clear cX0_clear 1 none, Cond.fieldLink RX0 29 "SqueezedVolume$Directory" "count" "I", Cond.methodLink RX3 137 yX0_count, Cond.instanceMethod yX0_count, Cond.selects RX0 yX0_count yX0_count, Cond.code yX0_count cX0_count 1 (some .int), Cond.methodLink RX3 174 yX0_kindAt, Cond.instanceMethod yX0_kindAt, Cond.selects RX0 yX0_kindAt yX0_kindAt, Cond.code yX0_kindAt cX0_kindAt 2 (some .int), Cond.fieldLink RX0 16 "SqueezedVolume$Directory" "kinds" "LSqueezedVolume$Row;", Cond.methodLink RX0 50 yX2_at, Cond.instanceMethod yX2_at, Cond.selects RX2 yX2_at yX2_at, Cond.initialized RX2, Cond.code yX2_at cX2_at 2 (some .int), Cond.fieldLink RX2 13 "SqueezedVolume$Row" "cells" "[I", Cond.methodLink RX3 105 yX0_lengthAt]
def wsX3_draftWithoutTentative_r2 : List Cond := [Cond.instanceMethod yX0_lengthAt, Cond.selects RX0 yX0_lengthAt yX0_lengthAt, Cond.code yX0_lengthAt cX0_lengthAt 2 (some .int), Cond.fieldLink RX0 20 "SqueezedVolume$Directory" "lengths" "LSqueezedVolume$Row;", Cond.methodLink RX3 43 yX0_addEmpty, Cond.instanceMethod yX0_addEmpty, Cond.selects RX0 yX0_addEmpty yX0_addEmpty, Cond.code yX0_addEmpty cX0_addEmpty 2 none, Cond.methodLink RX0 33 yX0_add, Cond.instanceMethod yX0_add, Cond.selects RX0 yX0_add yX0_add, Cond.code yX0_add cX0_add 6 none, Cond.fieldLink RX0 23 "SqueezedVolume$Directory" "names" "LSqueezedVolume$Row;", Cond.fieldLink RX0 26 "SqueezedVolume$Directory" "handles" "LSqueezedVolume$Row;", Cond.methodLink RX0 53 yX2_set, Cond.instanceMethod yX2_set, Cond.selects RX2 yX2_set yX2_set, Cond.code yX2_set cX2_set 3 none, Cond.methodLink RX3 130 yX0_addRange, Cond.instanceMethod yX0_addRange, Cond.selects RX0 yX0_addRange yX0_addRange, Cond.code yX0_addRange cX0_addRange 5 none, Cond.methodLink RX0 37 yX0_kindAt, Cond.methodLink RX0 41 yX0_lengthAt]
def wsX3_draftWithoutTentative_r3 : List Cond := [Cond.methodLink RX0 44 yX0_nameAt, Cond.instanceMethod yX0_nameAt, Cond.selects RX0 yX0_nameAt yX0_nameAt, Cond.code yX0_nameAt cX0_nameAt 2 (some .int), Cond.methodLink RX0 47 yX0_handleAt, Cond.instanceMethod yX0_handleAt, Cond.selects RX0 yX0_handleAt yX0_handleAt, Cond.code yX0_handleAt cX0_handleAt 2 (some .int)]
def wsX3_draftWithoutTentative : List Cond := .code yX3_draftWithoutTentative cX3_draftWithoutTentative 2 none :: ((wsX3_draftWithoutTentative_r1 ++ (wsX3_draftWithoutTentative_r2 ++ wsX3_draftWithoutTentative_r3)) ++ wsX30 ++ wsX00 ++ wsX20)
def wsX3_mount_r1 : List Cond := [Cond.classLink RX3 63 "java/lang/IllegalStateException", Cond.initialized "java/lang/IllegalStateException", Cond.fieldLink RX3 10 "SqueezedVolume" "power" "LSqueezedVolume$Power;", Cond.fieldLink RX3 35 "SqueezedVolume" "squeezing" "Z", Cond.fieldLink RX3 28 "SqueezedVolume" "directory" "LSqueezedVolume$Directory;", Cond.methodLink RX3 151 yX1_isUp, Cond.instanceMethod yX1_isUp, Cond.selects RX1 yX1_isUp yX1_isUp, Cond.initialized RX1, Cond.code yX1_isUp cX1_isUp 1 (some .boolean), Cond.fieldLink RX1 9 "SqueezedVolume$Power" "up" "Z", Cond.methodLink RX3 156 yX1_comeAgain, Cond.instanceMethod yX1_comeAgain, Cond.selects RX1 yX1_comeAgain yX1_comeAgain, Cond.code yX1_comeAgain cX1_comeAgain 1 none, Cond.fieldLink RX1 15 "SqueezedVolume$Power" "left" "I", Cond.methodLink RX3 148 yX3_moveAll, Cond.instanceMethod yX3_moveAll, Cond.selects RX3 yX3_moveAll yX3_moveAll, Cond.initialized RX3, Cond.code yX3_moveAll cX3_moveAll 4 (some .int), Cond.methodLink RX3 217 yX0_findGap, Cond.instanceMethod yX0_findGap, Cond.selects RX0 yX0_findGap yX0_findGap]
def wsX3_mount_r2 : List Cond := [Cond.initialized RX0, Cond.code yX0_findGap cX0_findGap 2 (some .int), Cond.fieldLink RX0 29 "SqueezedVolume$Directory" "count" "I", Cond.fieldLink RX0 16 "SqueezedVolume$Directory" "kinds" "LSqueezedVolume$Row;", Cond.methodLink RX0 50 yX2_at, Cond.instanceMethod yX2_at, Cond.selects RX2 yX2_at yX2_at, Cond.initialized RX2, Cond.code yX2_at cX2_at 2 (some .int), Cond.fieldLink RX2 13 "SqueezedVolume$Row" "cells" "[I", Cond.methodLink RX3 105 yX0_lengthAt, Cond.instanceMethod yX0_lengthAt, Cond.selects RX0 yX0_lengthAt yX0_lengthAt, Cond.code yX0_lengthAt cX0_lengthAt 2 (some .int), Cond.fieldLink RX0 20 "SqueezedVolume$Directory" "lengths" "LSqueezedVolume$Row;", Cond.methodLink RX3 220 yX3_moveDown, Cond.instanceMethod yX3_moveDown, Cond.selects RX3 yX3_moveDown yX3_moveDown, Cond.code yX3_moveDown cX3_moveDown 2 (some .boolean), Cond.fieldLink RX3 39 "SqueezedVolume" "ledger" "I", Cond.methodLink RX3 224 yX3_copyDown, Cond.instanceMethod yX3_copyDown, Cond.selects RX3 yX3_copyDown yX3_copyDown, Cond.code yX3_copyDown cX3_copyDown 7 (some .boolean)]
def wsX3_mount_r3 : List Cond := [Cond.methodLink RX3 230 Lib.Math.min.name, Cond.static Lib.Math.min.name, Cond.initialized "java/lang/Math", Cond.code Lib.Math.min.name Lib.Math.min.code 2 (some .int), Cond.methodLink RX3 236 Lib.Math.max.name, Cond.static Lib.Math.max.name, Cond.code Lib.Math.max.name Lib.Math.max.code 2 (some .int), Cond.fieldLink RX3 21 "SqueezedVolume" "content" "LSqueezedVolume$Row;", Cond.methodLink RX3 98 yX0_beginAt, Cond.instanceMethod yX0_beginAt, Cond.selects RX0 yX0_beginAt yX0_beginAt, Cond.code yX0_beginAt cX0_beginAt 4 (some .int), Cond.methodLink RX3 239 yX3_writeLedger, Cond.instanceMethod yX3_writeLedger, Cond.selects RX3 yX3_writeLedger yX3_writeLedger, Cond.code yX3_writeLedger cX3_writeLedger 2 (some .boolean), Cond.methodLink RX3 207 yX1_countWrite, Cond.instanceMethod yX1_countWrite, Cond.selects RX1 yX1_countWrite yX1_countWrite, Cond.code yX1_countWrite cX1_countWrite 1 (some .boolean), Cond.fieldLink RX1 19 "SqueezedVolume$Power" "count" "I", Cond.methodLink RX3 140 yX2_at, Cond.methodLink RX3 101 yX3_writeBlock, Cond.instanceMethod yX3_writeBlock]
def wsX3_mount_r4 : List Cond := [Cond.selects RX3 yX3_writeBlock yX3_writeBlock, Cond.code yX3_writeBlock cX3_writeBlock 3 (some .boolean), Cond.methodLink RX3 214 yX2_set, Cond.instanceMethod yX2_set, Cond.selects RX2 yX2_set yX2_set, Cond.code yX2_set cX2_set 3 none, Cond.methodLink RX3 227 yX3_draftMovedBefore, Cond.instanceMethod yX3_draftMovedBefore, Cond.selects RX3 yX3_draftMovedBefore yX3_draftMovedBefore, Cond.code yX3_draftMovedBefore cX3_draftMovedBefore 2 none, Cond.fieldLink RX3 32 "SqueezedVolume" "draft" "LSqueezedVolume$Directory;", Cond.methodLink RX3 127 yX0_clear, Cond.instanceMethod yX0_clear, Cond.selects RX0 yX0_clear yX0_clear, Cond.code yX0_clear cX0_clear 1 none, Cond.methodLink RX3 130 yX0_addRange, Cond.instanceMethod yX0_addRange, Cond.selects RX0 yX0_addRange yX0_addRange, Cond.code yX0_addRange cX0_addRange 5 none, Cond.methodLink RX0 37 yX0_kindAt, Cond.instanceMethod yX0_kindAt, Cond.selects RX0 yX0_kindAt yX0_kindAt, Cond.code yX0_kindAt cX0_kindAt 2 (some .int), Cond.methodLink RX0 41 yX0_lengthAt]
def wsX3_mount_r5 : List Cond := [Cond.methodLink RX0 44 yX0_nameAt, Cond.instanceMethod yX0_nameAt, Cond.selects RX0 yX0_nameAt yX0_nameAt, Cond.code yX0_nameAt cX0_nameAt 2 (some .int), Cond.fieldLink RX0 23 "SqueezedVolume$Directory" "names" "LSqueezedVolume$Row;", Cond.methodLink RX0 47 yX0_handleAt, Cond.instanceMethod yX0_handleAt, Cond.selects RX0 yX0_handleAt yX0_handleAt, Cond.code yX0_handleAt cX0_handleAt 2 (some .int), Cond.fieldLink RX0 26 "SqueezedVolume$Directory" "handles" "LSqueezedVolume$Row;", Cond.methodLink RX0 33 yX0_add, Cond.instanceMethod yX0_add, Cond.selects RX0 yX0_add yX0_add, Cond.code yX0_add cX0_add 6 none, Cond.methodLink RX0 53 yX2_set, Cond.methodLink RX3 43 yX0_addEmpty, Cond.instanceMethod yX0_addEmpty, Cond.selects RX0 yX0_addEmpty yX0_addEmpty, Cond.code yX0_addEmpty cX0_addEmpty 2 none, Cond.methodLink RX3 137 yX0_count, Cond.instanceMethod yX0_count, Cond.selects RX0 yX0_count yX0_count, Cond.code yX0_count cX0_count 1 (some .int), Cond.methodLink RX3 87 yX3_change]
def wsX3_mount_r6 : List Cond := [Cond.instanceMethod yX3_change, Cond.selects RX3 yX3_change yX3_change, Cond.code yX3_change cX3_change 3 (some .boolean), Cond.methodLink RX3 210 yX0_takeOver, Cond.instanceMethod yX0_takeOver, Cond.selects RX0 yX0_takeOver yX0_takeOver, Cond.code yX0_takeOver cX0_takeOver 2 none, Cond.methodLink RX0 57 yX2_takeOver, Cond.instanceMethod yX2_takeOver, Cond.selects RX2 yX2_takeOver yX2_takeOver, Cond.code yX2_takeOver cX2_takeOver 3 none, Cond.methodLink RX2 19 yX2_at, Cond.methodLink RX3 143 yX0_countOf, Cond.instanceMethod yX0_countOf, Cond.selects RX0 yX0_countOf yX0_countOf, Cond.code yX0_countOf cX0_countOf 4 (some .int), Cond.methodLink RX3 159 yX3_draftWithoutTentative, Cond.instanceMethod yX3_draftWithoutTentative, Cond.selects RX3 yX3_draftWithoutTentative yX3_draftWithoutTentative, Cond.code yX3_draftWithoutTentative cX3_draftWithoutTentative 2 none, Cond.methodLink RX3 174 yX0_kindAt]
def wsX3_mount : List Cond := .code yX3_mount cX3_mount 1 (some .int) :: ((wsX3_mount_r1 ++ (wsX3_mount_r2 ++ (wsX3_mount_r3 ++ (wsX3_mount_r4 ++ (wsX3_mount_r5 ++ wsX3_mount_r6))))) ++ wsX30 ++ wsX10 ++ wsX00 ++ wsX20 ++ (vx_atS RX3 67 "java/lang/IllegalStateException" ["java/lang/RuntimeException", "java/lang/Exception"]).filter goodWord)
def wsX3_cutAfter : List Cond := .code yX3_cutAfter cX3_cutAfter 2 none :: ([.classLink RX3 52 "java/lang/IllegalArgumentException", .initialized "java/lang/IllegalArgumentException", .fieldLink RX3 10 "SqueezedVolume" "power" "LSqueezedVolume$Power;", .methodLink RX3 46 yX3_requirePower, .instanceMethod yX3_requirePower, .selects RX3 yX3_requirePower yX3_requirePower, .initialized RX3, .code yX3_requirePower cX3_requirePower 1 none, .classLink RX3 63 "java/lang/IllegalStateException", .initialized "java/lang/IllegalStateException", .methodLink RX3 151 yX1_isUp, .instanceMethod yX1_isUp, .selects RX1 yX1_isUp yX1_isUp, .initialized RX1, .code yX1_isUp cX1_isUp 1 (some .boolean), .fieldLink RX1 9 "SqueezedVolume$Power" "up" "Z", .methodLink RX3 164 yX1_failAfter, .instanceMethod yX1_failAfter, .selects RX1 yX1_failAfter yX1_failAfter, .code yX1_failAfter cX1_failAfter 2 none, .fieldLink RX1 15 "SqueezedVolume$Power" "left" "I"] ++ wsX30 ++ wsX10 ++ (vx_atS RX3 56 "java/lang/IllegalArgumentException" ["java/lang/RuntimeException", "java/lang/Exception"]).filter goodWord ++ (vx_atS RX3 67 "java/lang/IllegalStateException" ["java/lang/RuntimeException", "java/lang/Exception"]).filter goodWord)
def wsX3_entry_r1 : List Cond := [Cond.classLink RX3 52 "java/lang/IllegalArgumentException", Cond.initialized "java/lang/IllegalArgumentException", Cond.classLink RX3 169 "java/lang/IndexOutOfBoundsException", Cond.initialized "java/lang/IndexOutOfBoundsException", Cond.fieldLink RX3 28 "SqueezedVolume" "directory" "LSqueezedVolume$Directory;", Cond.methodLink RX3 46 yX3_requirePower, Cond.instanceMethod yX3_requirePower, Cond.selects RX3 yX3_requirePower yX3_requirePower, Cond.initialized RX3, Cond.code yX3_requirePower cX3_requirePower 1 none, Cond.classLink RX3 63 "java/lang/IllegalStateException", Cond.initialized "java/lang/IllegalStateException", Cond.fieldLink RX3 10 "SqueezedVolume" "power" "LSqueezedVolume$Power;", Cond.methodLink RX3 151 yX1_isUp, Cond.instanceMethod yX1_isUp, Cond.selects RX1 yX1_isUp yX1_isUp, Cond.initialized RX1, Cond.code yX1_isUp cX1_isUp 1 (some .boolean), Cond.fieldLink RX1 9 "SqueezedVolume$Power" "up" "Z", Cond.methodLink RX3 137 yX0_count, Cond.instanceMethod yX0_count, Cond.selects RX0 yX0_count yX0_count, Cond.initialized RX0, Cond.code yX0_count cX0_count 1 (some .int)]
def wsX3_entry_r2 : List Cond := [Cond.fieldLink RX0 29 "SqueezedVolume$Directory" "count" "I", Cond.methodLink RX3 174 yX0_kindAt, Cond.instanceMethod yX0_kindAt, Cond.selects RX0 yX0_kindAt yX0_kindAt, Cond.code yX0_kindAt cX0_kindAt 2 (some .int), Cond.fieldLink RX0 16 "SqueezedVolume$Directory" "kinds" "LSqueezedVolume$Row;", Cond.methodLink RX0 50 yX2_at, Cond.instanceMethod yX2_at, Cond.selects RX2 yX2_at yX2_at, Cond.initialized RX2, Cond.code yX2_at cX2_at 2 (some .int), Cond.fieldLink RX2 13 "SqueezedVolume$Row" "cells" "[I", Cond.methodLink RX3 98 yX0_beginAt, Cond.instanceMethod yX0_beginAt, Cond.selects RX0 yX0_beginAt yX0_beginAt, Cond.code yX0_beginAt cX0_beginAt 4 (some .int), Cond.fieldLink RX0 20 "SqueezedVolume$Directory" "lengths" "LSqueezedVolume$Row;", Cond.methodLink RX3 105 yX0_lengthAt, Cond.instanceMethod yX0_lengthAt, Cond.selects RX0 yX0_lengthAt yX0_lengthAt, Cond.code yX0_lengthAt cX0_lengthAt 2 (some .int), Cond.methodLink RX3 177 yX0_nameAt, Cond.instanceMethod yX0_nameAt, Cond.selects RX0 yX0_nameAt yX0_nameAt]
def wsX3_entry_r3 : List Cond := [Cond.code yX0_nameAt cX0_nameAt 2 (some .int), Cond.fieldLink RX0 23 "SqueezedVolume$Directory" "names" "LSqueezedVolume$Row;"]
def wsX3_entry : List Cond := .code yX3_entry cX3_entry 3 (some .int) :: ((wsX3_entry_r1 ++ (wsX3_entry_r2 ++ wsX3_entry_r3)) ++ wsX30 ++ wsX10 ++ wsX00 ++ wsX20 ++ (vx_atS RX3 56 "java/lang/IllegalArgumentException" ["java/lang/RuntimeException", "java/lang/Exception"]).filter goodWord ++ (vx_atS RX3 173 "java/lang/IndexOutOfBoundsException" ["java/lang/RuntimeException", "java/lang/Exception"]).filter goodWord ++ (vx_atS RX3 67 "java/lang/IllegalStateException" ["java/lang/RuntimeException", "java/lang/Exception"]).filter goodWord)
def wsX3_entries : List Cond := .code yX3_entries cX3_entries 1 (some .int) :: ([.fieldLink RX3 28 "SqueezedVolume" "directory" "LSqueezedVolume$Directory;", .methodLink RX3 46 yX3_requirePower, .instanceMethod yX3_requirePower, .selects RX3 yX3_requirePower yX3_requirePower, .initialized RX3, .code yX3_requirePower cX3_requirePower 1 none, .classLink RX3 63 "java/lang/IllegalStateException", .initialized "java/lang/IllegalStateException", .fieldLink RX3 10 "SqueezedVolume" "power" "LSqueezedVolume$Power;", .methodLink RX3 151 yX1_isUp, .instanceMethod yX1_isUp, .selects RX1 yX1_isUp yX1_isUp, .initialized RX1, .code yX1_isUp cX1_isUp 1 (some .boolean), .fieldLink RX1 9 "SqueezedVolume$Power" "up" "Z", .methodLink RX3 137 yX0_count, .instanceMethod yX0_count, .selects RX0 yX0_count yX0_count, .initialized RX0, .code yX0_count cX0_count 1 (some .int), .fieldLink RX0 29 "SqueezedVolume$Directory" "count" "I"] ++ wsX30 ++ wsX10 ++ wsX00 ++ (vx_atS RX3 67 "java/lang/IllegalStateException" ["java/lang/RuntimeException", "java/lang/Exception"]).filter goodWord)
def wsX3_free_r1 : List Cond := [Cond.fieldLink RX3 28 "SqueezedVolume" "directory" "LSqueezedVolume$Directory;", Cond.methodLink RX3 46 yX3_requirePower, Cond.instanceMethod yX3_requirePower, Cond.selects RX3 yX3_requirePower yX3_requirePower, Cond.initialized RX3, Cond.code yX3_requirePower cX3_requirePower 1 none, Cond.classLink RX3 63 "java/lang/IllegalStateException", Cond.initialized "java/lang/IllegalStateException", Cond.fieldLink RX3 10 "SqueezedVolume" "power" "LSqueezedVolume$Power;", Cond.methodLink RX3 151 yX1_isUp, Cond.instanceMethod yX1_isUp, Cond.selects RX1 yX1_isUp yX1_isUp, Cond.initialized RX1, Cond.code yX1_isUp cX1_isUp 1 (some .boolean), Cond.fieldLink RX1 9 "SqueezedVolume$Power" "up" "Z", Cond.methodLink RX3 180 yX0_longestEmpty, Cond.instanceMethod yX0_longestEmpty, Cond.selects RX0 yX0_longestEmpty yX0_longestEmpty, Cond.initialized RX0, Cond.code yX0_longestEmpty cX0_longestEmpty 3 (some .int), Cond.fieldLink RX0 29 "SqueezedVolume$Directory" "count" "I", Cond.fieldLink RX0 16 "SqueezedVolume$Directory" "kinds" "LSqueezedVolume$Row;", Cond.fieldLink RX0 20 "SqueezedVolume$Directory" "lengths" "LSqueezedVolume$Row;", Cond.methodLink RX0 70 Lib.Math.max.name]
def wsX3_free_r2 : List Cond := [Cond.static Lib.Math.max.name, Cond.initialized "java/lang/Math", Cond.code Lib.Math.max.name Lib.Math.max.code 2 (some .int), Cond.methodLink RX0 50 yX2_at, Cond.instanceMethod yX2_at, Cond.selects RX2 yX2_at yX2_at, Cond.initialized RX2, Cond.code yX2_at cX2_at 2 (some .int), Cond.fieldLink RX2 13 "SqueezedVolume$Row" "cells" "[I", Cond.methodLink RX3 113 yX0_emptyBlocks, Cond.instanceMethod yX0_emptyBlocks, Cond.selects RX0 yX0_emptyBlocks yX0_emptyBlocks, Cond.code yX0_emptyBlocks cX0_emptyBlocks 3 (some .int)]
def wsX3_free : List Cond := .code yX3_free cX3_free 2 (some .int) :: ((wsX3_free_r1 ++ wsX3_free_r2) ++ wsX30 ++ wsX10 ++ wsX00 ++ wsX20 ++ (vx_atS RX3 67 "java/lang/IllegalStateException" ["java/lang/RuntimeException", "java/lang/Exception"]).filter goodWord)
def wsX3_handle_r1 : List Cond := [Cond.fieldLink RX3 28 "SqueezedVolume" "directory" "LSqueezedVolume$Directory;", Cond.methodLink RX3 46 yX3_requirePower, Cond.instanceMethod yX3_requirePower, Cond.selects RX3 yX3_requirePower yX3_requirePower, Cond.initialized RX3, Cond.code yX3_requirePower cX3_requirePower 1 none, Cond.classLink RX3 63 "java/lang/IllegalStateException", Cond.initialized "java/lang/IllegalStateException", Cond.fieldLink RX3 10 "SqueezedVolume" "power" "LSqueezedVolume$Power;", Cond.methodLink RX3 151 yX1_isUp, Cond.instanceMethod yX1_isUp, Cond.selects RX1 yX1_isUp yX1_isUp, Cond.initialized RX1, Cond.code yX1_isUp cX1_isUp 1 (some .boolean), Cond.fieldLink RX1 9 "SqueezedVolume$Power" "up" "Z", Cond.methodLink RX3 183 yX0_leastHandleOf, Cond.instanceMethod yX0_leastHandleOf, Cond.selects RX0 yX0_leastHandleOf yX0_leastHandleOf, Cond.initialized RX0, Cond.code yX0_leastHandleOf cX0_leastHandleOf 4 (some .int), Cond.fieldLink RX0 23 "SqueezedVolume$Directory" "names" "LSqueezedVolume$Row;", Cond.methodLink RX0 61 yX0_findTentative, Cond.instanceMethod yX0_findTentative, Cond.selects RX0 yX0_findTentative yX0_findTentative]
def wsX3_handle_r2 : List Cond := [Cond.code yX0_findTentative cX0_findTentative 3 (some .int), Cond.fieldLink RX0 29 "SqueezedVolume$Directory" "count" "I", Cond.fieldLink RX0 16 "SqueezedVolume$Directory" "kinds" "LSqueezedVolume$Row;", Cond.fieldLink RX0 26 "SqueezedVolume$Directory" "handles" "LSqueezedVolume$Row;", Cond.methodLink RX0 50 yX2_at, Cond.instanceMethod yX2_at, Cond.selects RX2 yX2_at yX2_at, Cond.initialized RX2, Cond.code yX2_at cX2_at 2 (some .int), Cond.fieldLink RX2 13 "SqueezedVolume$Row" "cells" "[I"]
def wsX3_handle : List Cond := .code yX3_handle cX3_handle 2 (some .int) :: ((wsX3_handle_r1 ++ wsX3_handle_r2) ++ wsX30 ++ wsX10 ++ wsX00 ++ wsX20 ++ (vx_atS RX3 67 "java/lang/IllegalStateException" ["java/lang/RuntimeException", "java/lang/Exception"]).filter goodWord)
def wsX3_writes : List Cond := .code yX3_writes cX3_writes 1 (some .int) :: ([.fieldLink RX3 10 "SqueezedVolume" "power" "LSqueezedVolume$Power;", .methodLink RX3 186 yX1_made, .instanceMethod yX1_made, .selects RX1 yX1_made yX1_made, .initialized RX1, .code yX1_made cX1_made 1 (some .int), .fieldLink RX1 19 "SqueezedVolume$Power" "count" "I"] ++ wsX30 ++ wsX10)
def wsX3_isOn : List Cond := .code yX3_isOn cX3_isOn 1 (some .boolean) :: ([.fieldLink RX3 10 "SqueezedVolume" "power" "LSqueezedVolume$Power;", .methodLink RX3 151 yX1_isUp, .instanceMethod yX1_isUp, .selects RX1 yX1_isUp yX1_isUp, .initialized RX1, .code yX1_isUp cX1_isUp 1 (some .boolean), .fieldLink RX1 9 "SqueezedVolume$Power" "up" "Z"] ++ wsX30 ++ wsX10)
def wsX4_init : List Cond := .code yX4_init cX4_init 1 none :: ([.methodLink RX4 1 objectInit, .instanceMethod objectInit, .code objectInit ⟨#[0xb1]⟩ 1 none, .fieldLink RX4 7 "SqueezedVolumeModel" "on" "Z", .fieldLink RX4 13 "SqueezedVolumeModel" "left" "I", .arrayClass .int, .fieldLink RX4 17 "SqueezedVolumeModel" "ints" "[I", .fieldLink RX4 21 "SqueezedVolumeModel" "owner" "[I", .fieldLink RX4 24 "SqueezedVolumeModel" "next" "[I", .fieldLink RX4 27 "SqueezedVolumeModel" "kind" "[I", .fieldLink RX4 30 "SqueezedVolumeModel" "name" "[I", .fieldLink RX4 33 "SqueezedVolumeModel" "handle" "[I"] ++ wsX40)
def wsX4_thrown : List Cond := .code yX4_thrown cX4_thrown 1 (some .int) :: ([.fieldLink RX4 36 "SqueezedVolumeModel" "code" "I"] ++ wsX40)
def wsX4_write : List Cond := .code yX4_write cX4_write 1 (some .boolean) :: ([.fieldLink RX4 13 "SqueezedVolumeModel" "left" "I", .fieldLink RX4 7 "SqueezedVolumeModel" "on" "Z", .fieldLink RX4 39 "SqueezedVolumeModel" "writes" "I", .fieldLink RX4 42 "SqueezedVolumeModel" "squeezing" "Z", .fieldLink RX4 45 "SqueezedVolumeModel" "within" "Z"] ++ wsX40)
def wsX4_runs : List Cond := .code yX4_runs cX4_runs 3 (some .int) :: ([.fieldLink RX4 24 "SqueezedVolumeModel" "next" "[I"] ++ wsX40)
def wsX4_runsNow : List Cond := .code yX4_runsNow cX4_runsNow 3 (some .int) :: ([.fieldLink RX4 21 "SqueezedVolumeModel" "owner" "[I"] ++ wsX40)
def wsX4_change : List Cond := .code yX4_change cX4_change 3 (some .boolean) :: ([.fieldLink RX4 21 "SqueezedVolumeModel" "owner" "[I", .fieldLink RX4 24 "SqueezedVolumeModel" "next" "[I", .methodLink RX4 48 yX4_runs, .instanceMethod yX4_runs, .selects RX4 yX4_runs yX4_runs, .initialized RX4, .code yX4_runs cX4_runs 3 (some .int), .methodLink RX4 52 yX4_write, .instanceMethod yX4_write, .selects RX4 yX4_write yX4_write, .code yX4_write cX4_write 1 (some .boolean), .fieldLink RX4 13 "SqueezedVolumeModel" "left" "I", .fieldLink RX4 7 "SqueezedVolumeModel" "on" "Z", .fieldLink RX4 39 "SqueezedVolumeModel" "writes" "I", .fieldLink RX4 42 "SqueezedVolumeModel" "squeezing" "Z", .fieldLink RX4 45 "SqueezedVolumeModel" "within" "Z"] ++ wsX40)
def wsX4_lay : List Cond := .code yX4_lay cX4_lay 2 none :: ([.fieldLink RX4 24 "SqueezedVolumeModel" "next" "[I", .fieldLink RX4 21 "SqueezedVolumeModel" "owner" "[I"] ++ wsX40)
def wsX4_giveUp : List Cond := .code yX4_giveUp cX4_giveUp 6 none :: ([.fieldLink RX4 21 "SqueezedVolumeModel" "owner" "[I", .fieldLink RX4 24 "SqueezedVolumeModel" "next" "[I"] ++ wsX40)
def wsX4_lengthOf : List Cond := .code yX4_lengthOf cX4_lengthOf 4 (some .int) :: ([.fieldLink RX4 21 "SqueezedVolumeModel" "owner" "[I"] ++ wsX40)
def wsX4_beginOf : List Cond := .code yX4_beginOf cX4_beginOf 4 (some .int) :: ([.fieldLink RX4 21 "SqueezedVolumeModel" "owner" "[I"] ++ wsX40)
def wsX4_permanent : List Cond := .code yX4_permanent cX4_permanent 4 (some .int) :: ([.fieldLink RX4 27 "SqueezedVolumeModel" "kind" "[I", .fieldLink RX4 30 "SqueezedVolumeModel" "name" "[I"] ++ wsX40)
def wsX4_byHandle : List Cond := .code yX4_byHandle cX4_byHandle 4 (some .int) :: ([.fieldLink RX4 27 "SqueezedVolumeModel" "kind" "[I", .fieldLink RX4 33 "SqueezedVolumeModel" "handle" "[I"] ++ wsX40)
def wsX4_howMany : List Cond := .code yX4_howMany cX4_howMany 4 (some .int) :: ([.fieldLink RX4 27 "SqueezedVolumeModel" "kind" "[I"] ++ wsX40)
def wsX4_isName : List Cond := .code yX4_isName cX4_isName 1 (some .boolean) :: ([])
def wsX4_runFrom : List Cond := .code yX4_runFrom cX4_runFrom 3 (some .int) :: ([.fieldLink RX4 21 "SqueezedVolumeModel" "owner" "[I"] ++ wsX40)
def wsX4_fit : List Cond := .code yX4_fit cX4_fit 4 (some .boolean) :: ([.fieldLink RX4 56 "SqueezedVolumeModel" "runLength" "I", .fieldLink RX4 21 "SqueezedVolumeModel" "owner" "[I", .fieldLink RX4 63 "SqueezedVolumeModel" "runAt" "I", .methodLink RX4 59 yX4_runFrom, .instanceMethod yX4_runFrom, .selects RX4 yX4_runFrom yX4_runFrom, .initialized RX4, .code yX4_runFrom cX4_runFrom 3 (some .int)] ++ wsX40)
def wsX4_longest : List Cond := .code yX4_longest cX4_longest 6 (some .int) :: ([.fieldLink RX4 21 "SqueezedVolumeModel" "owner" "[I", .methodLink RX4 59 yX4_runFrom, .instanceMethod yX4_runFrom, .selects RX4 yX4_runFrom yX4_runFrom, .initialized RX4, .code yX4_runFrom cX4_runFrom 3 (some .int)] ++ wsX40)
def wsX4_enter_r1 : List Cond := [Cond.fieldLink RX4 7 "SqueezedVolumeModel" "on" "Z", Cond.fieldLink RX4 36 "SqueezedVolumeModel" "code" "I", Cond.fieldLink RX4 27 "SqueezedVolumeModel" "kind" "[I", Cond.fieldLink RX4 63 "SqueezedVolumeModel" "runAt" "I", Cond.fieldLink RX4 24 "SqueezedVolumeModel" "next" "[I", Cond.fieldLink RX4 30 "SqueezedVolumeModel" "name" "[I", Cond.fieldLink RX4 33 "SqueezedVolumeModel" "handle" "[I", Cond.methodLink RX4 66 yX4_isName, Cond.static yX4_isName, Cond.initialized RX4, Cond.code yX4_isName cX4_isName 1 (some .boolean), Cond.methodLink RX4 70 yX4_howMany, Cond.instanceMethod yX4_howMany, Cond.selects RX4 yX4_howMany yX4_howMany, Cond.code yX4_howMany cX4_howMany 4 (some .int), Cond.methodLink RX4 73 yX4_longest, Cond.instanceMethod yX4_longest, Cond.selects RX4 yX4_longest yX4_longest, Cond.code yX4_longest cX4_longest 6 (some .int), Cond.fieldLink RX4 21 "SqueezedVolumeModel" "owner" "[I", Cond.methodLink RX4 59 yX4_runFrom, Cond.instanceMethod yX4_runFrom, Cond.selects RX4 yX4_runFrom yX4_runFrom, Cond.code yX4_runFrom cX4_runFrom 3 (some .int)]
def wsX4_enter_r2 : List Cond := [Cond.methodLink RX4 77 yX4_fit, Cond.instanceMethod yX4_fit, Cond.selects RX4 yX4_fit yX4_fit, Cond.code yX4_fit cX4_fit 4 (some .boolean), Cond.fieldLink RX4 56 "SqueezedVolumeModel" "runLength" "I", Cond.methodLink RX4 80 yX4_lay, Cond.instanceMethod yX4_lay, Cond.selects RX4 yX4_lay yX4_lay, Cond.code yX4_lay cX4_lay 2 none, Cond.methodLink RX4 48 yX4_runs, Cond.instanceMethod yX4_runs, Cond.selects RX4 yX4_runs yX4_runs, Cond.code yX4_runs cX4_runs 3 (some .int), Cond.methodLink RX4 83 yX4_change, Cond.instanceMethod yX4_change, Cond.selects RX4 yX4_change yX4_change, Cond.code yX4_change cX4_change 3 (some .boolean), Cond.methodLink RX4 52 yX4_write, Cond.instanceMethod yX4_write, Cond.selects RX4 yX4_write yX4_write, Cond.code yX4_write cX4_write 1 (some .boolean), Cond.fieldLink RX4 13 "SqueezedVolumeModel" "left" "I", Cond.fieldLink RX4 39 "SqueezedVolumeModel" "writes" "I", Cond.fieldLink RX4 42 "SqueezedVolumeModel" "squeezing" "Z"]
def wsX4_enter_r3 : List Cond := [Cond.fieldLink RX4 45 "SqueezedVolumeModel" "within" "Z", Cond.methodLink RX4 86 yX4_byHandle, Cond.instanceMethod yX4_byHandle, Cond.selects RX4 yX4_byHandle yX4_byHandle, Cond.code yX4_byHandle cX4_byHandle 4 (some .int)]
def wsX4_enter : List Cond := .code yX4_enter cX4_enter 7 (some .int) :: ((wsX4_enter_r1 ++ (wsX4_enter_r2 ++ wsX4_enter_r3)) ++ wsX40)
def wsX4_put_r1 : List Cond := [Cond.fieldLink RX4 7 "SqueezedVolumeModel" "on" "Z", Cond.fieldLink RX4 36 "SqueezedVolumeModel" "code" "I", Cond.fieldLink RX4 17 "SqueezedVolumeModel" "ints" "[I", Cond.methodLink RX4 86 yX4_byHandle, Cond.instanceMethod yX4_byHandle, Cond.selects RX4 yX4_byHandle yX4_byHandle, Cond.initialized RX4, Cond.code yX4_byHandle cX4_byHandle 4 (some .int), Cond.fieldLink RX4 27 "SqueezedVolumeModel" "kind" "[I", Cond.fieldLink RX4 33 "SqueezedVolumeModel" "handle" "[I", Cond.methodLink RX4 89 yX4_lengthOf, Cond.instanceMethod yX4_lengthOf, Cond.selects RX4 yX4_lengthOf yX4_lengthOf, Cond.code yX4_lengthOf cX4_lengthOf 4 (some .int), Cond.fieldLink RX4 21 "SqueezedVolumeModel" "owner" "[I", Cond.methodLink RX4 52 yX4_write, Cond.instanceMethod yX4_write, Cond.selects RX4 yX4_write yX4_write, Cond.code yX4_write cX4_write 1 (some .boolean), Cond.fieldLink RX4 13 "SqueezedVolumeModel" "left" "I", Cond.fieldLink RX4 39 "SqueezedVolumeModel" "writes" "I", Cond.fieldLink RX4 42 "SqueezedVolumeModel" "squeezing" "Z", Cond.fieldLink RX4 45 "SqueezedVolumeModel" "within" "Z", Cond.methodLink RX4 92 yX4_beginOf]
def wsX4_put_r2 : List Cond := [Cond.instanceMethod yX4_beginOf, Cond.selects RX4 yX4_beginOf yX4_beginOf, Cond.code yX4_beginOf cX4_beginOf 4 (some .int)]
def wsX4_put : List Cond := .code yX4_put cX4_put 5 (some .int) :: ((wsX4_put_r1 ++ wsX4_put_r2) ++ wsX40)
def wsX4_close_r1 : List Cond := [Cond.fieldLink RX4 7 "SqueezedVolumeModel" "on" "Z", Cond.fieldLink RX4 36 "SqueezedVolumeModel" "code" "I", Cond.fieldLink RX4 30 "SqueezedVolumeModel" "name" "[I", Cond.fieldLink RX4 27 "SqueezedVolumeModel" "kind" "[I", Cond.methodLink RX4 86 yX4_byHandle, Cond.instanceMethod yX4_byHandle, Cond.selects RX4 yX4_byHandle yX4_byHandle, Cond.initialized RX4, Cond.code yX4_byHandle cX4_byHandle 4 (some .int), Cond.fieldLink RX4 33 "SqueezedVolumeModel" "handle" "[I", Cond.methodLink RX4 89 yX4_lengthOf, Cond.instanceMethod yX4_lengthOf, Cond.selects RX4 yX4_lengthOf yX4_lengthOf, Cond.code yX4_lengthOf cX4_lengthOf 4 (some .int), Cond.fieldLink RX4 21 "SqueezedVolumeModel" "owner" "[I", Cond.methodLink RX4 95 yX4_permanent, Cond.instanceMethod yX4_permanent, Cond.selects RX4 yX4_permanent yX4_permanent, Cond.code yX4_permanent cX4_permanent 4 (some .int), Cond.methodLink RX4 80 yX4_lay, Cond.instanceMethod yX4_lay, Cond.selects RX4 yX4_lay yX4_lay, Cond.code yX4_lay cX4_lay 2 none, Cond.fieldLink RX4 24 "SqueezedVolumeModel" "next" "[I"]
def wsX4_close_r2 : List Cond := [Cond.methodLink RX4 98 yX4_giveUp, Cond.instanceMethod yX4_giveUp, Cond.selects RX4 yX4_giveUp yX4_giveUp, Cond.code yX4_giveUp cX4_giveUp 6 none, Cond.methodLink RX4 48 yX4_runs, Cond.instanceMethod yX4_runs, Cond.selects RX4 yX4_runs yX4_runs, Cond.code yX4_runs cX4_runs 3 (some .int), Cond.methodLink RX4 83 yX4_change, Cond.instanceMethod yX4_change, Cond.selects RX4 yX4_change yX4_change, Cond.code yX4_change cX4_change 3 (some .boolean), Cond.methodLink RX4 52 yX4_write, Cond.instanceMethod yX4_write, Cond.selects RX4 yX4_write yX4_write, Cond.code yX4_write cX4_write 1 (some .boolean), Cond.fieldLink RX4 13 "SqueezedVolumeModel" "left" "I", Cond.fieldLink RX4 39 "SqueezedVolumeModel" "writes" "I", Cond.fieldLink RX4 42 "SqueezedVolumeModel" "squeezing" "Z", Cond.fieldLink RX4 45 "SqueezedVolumeModel" "within" "Z"]
def wsX4_close : List Cond := .code yX4_close cX4_close 6 (some .int) :: ((wsX4_close_r1 ++ wsX4_close_r2) ++ wsX40)
def wsX4_vanish_r1 : List Cond := [Cond.fieldLink RX4 27 "SqueezedVolumeModel" "kind" "[I", Cond.methodLink RX4 89 yX4_lengthOf, Cond.instanceMethod yX4_lengthOf, Cond.selects RX4 yX4_lengthOf yX4_lengthOf, Cond.initialized RX4, Cond.code yX4_lengthOf cX4_lengthOf 4 (some .int), Cond.fieldLink RX4 21 "SqueezedVolumeModel" "owner" "[I", Cond.methodLink RX4 80 yX4_lay, Cond.instanceMethod yX4_lay, Cond.selects RX4 yX4_lay yX4_lay, Cond.code yX4_lay cX4_lay 2 none, Cond.fieldLink RX4 24 "SqueezedVolumeModel" "next" "[I", Cond.methodLink RX4 98 yX4_giveUp, Cond.instanceMethod yX4_giveUp, Cond.selects RX4 yX4_giveUp yX4_giveUp, Cond.code yX4_giveUp cX4_giveUp 6 none, Cond.methodLink RX4 83 yX4_change, Cond.instanceMethod yX4_change, Cond.selects RX4 yX4_change yX4_change, Cond.code yX4_change cX4_change 3 (some .boolean), Cond.methodLink RX4 48 yX4_runs, Cond.instanceMethod yX4_runs, Cond.selects RX4 yX4_runs yX4_runs, Cond.code yX4_runs cX4_runs 3 (some .int)]
def wsX4_vanish_r2 : List Cond := [Cond.methodLink RX4 52 yX4_write, Cond.instanceMethod yX4_write, Cond.selects RX4 yX4_write yX4_write, Cond.code yX4_write cX4_write 1 (some .boolean), Cond.fieldLink RX4 13 "SqueezedVolumeModel" "left" "I", Cond.fieldLink RX4 7 "SqueezedVolumeModel" "on" "Z", Cond.fieldLink RX4 39 "SqueezedVolumeModel" "writes" "I", Cond.fieldLink RX4 42 "SqueezedVolumeModel" "squeezing" "Z", Cond.fieldLink RX4 45 "SqueezedVolumeModel" "within" "Z"]
def wsX4_vanish : List Cond := .code yX4_vanish cX4_vanish 3 (some .int) :: ((wsX4_vanish_r1 ++ wsX4_vanish_r2) ++ wsX40)
def wsX4_purge_r1 : List Cond := [Cond.fieldLink RX4 7 "SqueezedVolumeModel" "on" "Z", Cond.fieldLink RX4 36 "SqueezedVolumeModel" "code" "I", Cond.methodLink RX4 86 yX4_byHandle, Cond.instanceMethod yX4_byHandle, Cond.selects RX4 yX4_byHandle yX4_byHandle, Cond.initialized RX4, Cond.code yX4_byHandle cX4_byHandle 4 (some .int), Cond.fieldLink RX4 27 "SqueezedVolumeModel" "kind" "[I", Cond.fieldLink RX4 33 "SqueezedVolumeModel" "handle" "[I", Cond.methodLink RX4 102 yX4_vanish, Cond.instanceMethod yX4_vanish, Cond.selects RX4 yX4_vanish yX4_vanish, Cond.code yX4_vanish cX4_vanish 3 (some .int), Cond.methodLink RX4 89 yX4_lengthOf, Cond.instanceMethod yX4_lengthOf, Cond.selects RX4 yX4_lengthOf yX4_lengthOf, Cond.code yX4_lengthOf cX4_lengthOf 4 (some .int), Cond.fieldLink RX4 21 "SqueezedVolumeModel" "owner" "[I", Cond.methodLink RX4 80 yX4_lay, Cond.instanceMethod yX4_lay, Cond.selects RX4 yX4_lay yX4_lay, Cond.code yX4_lay cX4_lay 2 none, Cond.fieldLink RX4 24 "SqueezedVolumeModel" "next" "[I", Cond.methodLink RX4 98 yX4_giveUp]
def wsX4_purge_r2 : List Cond := [Cond.instanceMethod yX4_giveUp, Cond.selects RX4 yX4_giveUp yX4_giveUp, Cond.code yX4_giveUp cX4_giveUp 6 none, Cond.methodLink RX4 83 yX4_change, Cond.instanceMethod yX4_change, Cond.selects RX4 yX4_change yX4_change, Cond.code yX4_change cX4_change 3 (some .boolean), Cond.methodLink RX4 48 yX4_runs, Cond.instanceMethod yX4_runs, Cond.selects RX4 yX4_runs yX4_runs, Cond.code yX4_runs cX4_runs 3 (some .int), Cond.methodLink RX4 52 yX4_write, Cond.instanceMethod yX4_write, Cond.selects RX4 yX4_write yX4_write, Cond.code yX4_write cX4_write 1 (some .boolean), Cond.fieldLink RX4 13 "SqueezedVolumeModel" "left" "I", Cond.fieldLink RX4 39 "SqueezedVolumeModel" "writes" "I", Cond.fieldLink RX4 42 "SqueezedVolumeModel" "squeezing" "Z", Cond.fieldLink RX4 45 "SqueezedVolumeModel" "within" "Z"]
def wsX4_purge : List Cond := .code yX4_purge cX4_purge 3 (some .int) :: ((wsX4_purge_r1 ++ wsX4_purge_r2) ++ wsX40)
def wsX4_delete_r1 : List Cond := [Cond.fieldLink RX4 7 "SqueezedVolumeModel" "on" "Z", Cond.fieldLink RX4 36 "SqueezedVolumeModel" "code" "I", Cond.methodLink RX4 95 yX4_permanent, Cond.instanceMethod yX4_permanent, Cond.selects RX4 yX4_permanent yX4_permanent, Cond.initialized RX4, Cond.code yX4_permanent cX4_permanent 4 (some .int), Cond.fieldLink RX4 27 "SqueezedVolumeModel" "kind" "[I", Cond.fieldLink RX4 30 "SqueezedVolumeModel" "name" "[I", Cond.methodLink RX4 102 yX4_vanish, Cond.instanceMethod yX4_vanish, Cond.selects RX4 yX4_vanish yX4_vanish, Cond.code yX4_vanish cX4_vanish 3 (some .int), Cond.methodLink RX4 89 yX4_lengthOf, Cond.instanceMethod yX4_lengthOf, Cond.selects RX4 yX4_lengthOf yX4_lengthOf, Cond.code yX4_lengthOf cX4_lengthOf 4 (some .int), Cond.fieldLink RX4 21 "SqueezedVolumeModel" "owner" "[I", Cond.methodLink RX4 80 yX4_lay, Cond.instanceMethod yX4_lay, Cond.selects RX4 yX4_lay yX4_lay, Cond.code yX4_lay cX4_lay 2 none, Cond.fieldLink RX4 24 "SqueezedVolumeModel" "next" "[I", Cond.methodLink RX4 98 yX4_giveUp]
def wsX4_delete_r2 : List Cond := [Cond.instanceMethod yX4_giveUp, Cond.selects RX4 yX4_giveUp yX4_giveUp, Cond.code yX4_giveUp cX4_giveUp 6 none, Cond.methodLink RX4 83 yX4_change, Cond.instanceMethod yX4_change, Cond.selects RX4 yX4_change yX4_change, Cond.code yX4_change cX4_change 3 (some .boolean), Cond.methodLink RX4 48 yX4_runs, Cond.instanceMethod yX4_runs, Cond.selects RX4 yX4_runs yX4_runs, Cond.code yX4_runs cX4_runs 3 (some .int), Cond.methodLink RX4 52 yX4_write, Cond.instanceMethod yX4_write, Cond.selects RX4 yX4_write yX4_write, Cond.code yX4_write cX4_write 1 (some .boolean), Cond.fieldLink RX4 13 "SqueezedVolumeModel" "left" "I", Cond.fieldLink RX4 39 "SqueezedVolumeModel" "writes" "I", Cond.fieldLink RX4 42 "SqueezedVolumeModel" "squeezing" "Z", Cond.fieldLink RX4 45 "SqueezedVolumeModel" "within" "Z"]
def wsX4_delete : List Cond := .code yX4_delete cX4_delete 3 (some .int) :: ((wsX4_delete_r1 ++ wsX4_delete_r2) ++ wsX40)
def wsX4_rename_r1 : List Cond := [Cond.fieldLink RX4 7 "SqueezedVolumeModel" "on" "Z", Cond.fieldLink RX4 36 "SqueezedVolumeModel" "code" "I", Cond.fieldLink RX4 30 "SqueezedVolumeModel" "name" "[I", Cond.methodLink RX4 66 yX4_isName, Cond.static yX4_isName, Cond.initialized RX4, Cond.code yX4_isName cX4_isName 1 (some .boolean), Cond.methodLink RX4 95 yX4_permanent, Cond.instanceMethod yX4_permanent, Cond.selects RX4 yX4_permanent yX4_permanent, Cond.code yX4_permanent cX4_permanent 4 (some .int), Cond.fieldLink RX4 27 "SqueezedVolumeModel" "kind" "[I", Cond.methodLink RX4 80 yX4_lay, Cond.instanceMethod yX4_lay, Cond.selects RX4 yX4_lay yX4_lay, Cond.code yX4_lay cX4_lay 2 none, Cond.fieldLink RX4 24 "SqueezedVolumeModel" "next" "[I", Cond.fieldLink RX4 21 "SqueezedVolumeModel" "owner" "[I", Cond.methodLink RX4 83 yX4_change, Cond.instanceMethod yX4_change, Cond.selects RX4 yX4_change yX4_change, Cond.code yX4_change cX4_change 3 (some .boolean), Cond.methodLink RX4 48 yX4_runs, Cond.instanceMethod yX4_runs]
def wsX4_rename_r2 : List Cond := [Cond.selects RX4 yX4_runs yX4_runs, Cond.code yX4_runs cX4_runs 3 (some .int), Cond.methodLink RX4 52 yX4_write, Cond.instanceMethod yX4_write, Cond.selects RX4 yX4_write yX4_write, Cond.code yX4_write cX4_write 1 (some .boolean), Cond.fieldLink RX4 13 "SqueezedVolumeModel" "left" "I", Cond.fieldLink RX4 39 "SqueezedVolumeModel" "writes" "I", Cond.fieldLink RX4 42 "SqueezedVolumeModel" "squeezing" "Z", Cond.fieldLink RX4 45 "SqueezedVolumeModel" "within" "Z"]
def wsX4_rename : List Cond := .code yX4_rename cX4_rename 4 (some .int) :: ((wsX4_rename_r1 ++ wsX4_rename_r2) ++ wsX40)
def wsX4_read : List Cond := .code yX4_read cX4_read 4 (some .int) :: ([.fieldLink RX4 7 "SqueezedVolumeModel" "on" "Z", .fieldLink RX4 36 "SqueezedVolumeModel" "code" "I", .fieldLink RX4 17 "SqueezedVolumeModel" "ints" "[I", .methodLink RX4 95 yX4_permanent, .instanceMethod yX4_permanent, .selects RX4 yX4_permanent yX4_permanent, .initialized RX4, .code yX4_permanent cX4_permanent 4 (some .int), .fieldLink RX4 27 "SqueezedVolumeModel" "kind" "[I", .fieldLink RX4 30 "SqueezedVolumeModel" "name" "[I", .methodLink RX4 89 yX4_lengthOf, .instanceMethod yX4_lengthOf, .selects RX4 yX4_lengthOf yX4_lengthOf, .code yX4_lengthOf cX4_lengthOf 4 (some .int), .fieldLink RX4 21 "SqueezedVolumeModel" "owner" "[I", .methodLink RX4 92 yX4_beginOf, .instanceMethod yX4_beginOf, .selects RX4 yX4_beginOf yX4_beginOf, .code yX4_beginOf cX4_beginOf 4 (some .int)] ++ wsX40)
def wsX4_findMover : List Cond := .code yX4_findMover cX4_findMover 3 (some .boolean) :: ([.fieldLink RX4 105 "SqueezedVolumeModel" "mover" "I", .fieldLink RX4 21 "SqueezedVolumeModel" "owner" "[I", .fieldLink RX4 108 "SqueezedVolumeModel" "from" "I", .fieldLink RX4 111 "SqueezedVolumeModel" "shift" "I", .methodLink RX4 59 yX4_runFrom, .instanceMethod yX4_runFrom, .selects RX4 yX4_runFrom yX4_runFrom, .initialized RX4, .code yX4_runFrom cX4_runFrom 3 (some .int)] ++ wsX40)
def wsX4_move_r1 : List Cond := [Cond.fieldLink RX4 105 "SqueezedVolumeModel" "mover" "I", Cond.fieldLink RX4 111 "SqueezedVolumeModel" "shift" "I", Cond.fieldLink RX4 114 "SqueezedVolumeModel" "moving" "Z", Cond.fieldLink RX4 117 "SqueezedVolumeModel" "group" "I", Cond.fieldLink RX4 17 "SqueezedVolumeModel" "ints" "[I", Cond.fieldLink RX4 108 "SqueezedVolumeModel" "from" "I", Cond.fieldLink RX4 120 "SqueezedVolumeModel" "copied" "I", Cond.fieldLink RX4 24 "SqueezedVolumeModel" "next" "[I", Cond.methodLink RX4 89 yX4_lengthOf, Cond.instanceMethod yX4_lengthOf, Cond.selects RX4 yX4_lengthOf yX4_lengthOf, Cond.initialized RX4, Cond.code yX4_lengthOf cX4_lengthOf 4 (some .int), Cond.fieldLink RX4 21 "SqueezedVolumeModel" "owner" "[I", Cond.methodLink RX4 52 yX4_write, Cond.instanceMethod yX4_write, Cond.selects RX4 yX4_write yX4_write, Cond.code yX4_write cX4_write 1 (some .boolean), Cond.fieldLink RX4 13 "SqueezedVolumeModel" "left" "I", Cond.fieldLink RX4 7 "SqueezedVolumeModel" "on" "Z", Cond.fieldLink RX4 39 "SqueezedVolumeModel" "writes" "I", Cond.fieldLink RX4 42 "SqueezedVolumeModel" "squeezing" "Z", Cond.fieldLink RX4 45 "SqueezedVolumeModel" "within" "Z", Cond.methodLink RX4 80 yX4_lay]
def wsX4_move_r2 : List Cond := [Cond.instanceMethod yX4_lay, Cond.selects RX4 yX4_lay yX4_lay, Cond.code yX4_lay cX4_lay 2 none, Cond.methodLink RX4 83 yX4_change, Cond.instanceMethod yX4_change, Cond.selects RX4 yX4_change yX4_change, Cond.code yX4_change cX4_change 3 (some .boolean), Cond.methodLink RX4 48 yX4_runs, Cond.instanceMethod yX4_runs, Cond.selects RX4 yX4_runs yX4_runs, Cond.code yX4_runs cX4_runs 3 (some .int)]
def wsX4_move : List Cond := .code yX4_move cX4_move 7 (some .boolean) :: ((wsX4_move_r1 ++ wsX4_move_r2) ++ wsX40)
def wsX4_moveAll_r1 : List Cond := [Cond.methodLink RX4 123 yX4_findMover, Cond.instanceMethod yX4_findMover, Cond.selects RX4 yX4_findMover yX4_findMover, Cond.initialized RX4, Cond.code yX4_findMover cX4_findMover 3 (some .boolean), Cond.fieldLink RX4 105 "SqueezedVolumeModel" "mover" "I", Cond.fieldLink RX4 21 "SqueezedVolumeModel" "owner" "[I", Cond.fieldLink RX4 108 "SqueezedVolumeModel" "from" "I", Cond.fieldLink RX4 111 "SqueezedVolumeModel" "shift" "I", Cond.methodLink RX4 59 yX4_runFrom, Cond.instanceMethod yX4_runFrom, Cond.selects RX4 yX4_runFrom yX4_runFrom, Cond.code yX4_runFrom cX4_runFrom 3 (some .int), Cond.methodLink RX4 126 yX4_move, Cond.instanceMethod yX4_move, Cond.selects RX4 yX4_move yX4_move, Cond.code yX4_move cX4_move 7 (some .boolean), Cond.fieldLink RX4 114 "SqueezedVolumeModel" "moving" "Z", Cond.fieldLink RX4 117 "SqueezedVolumeModel" "group" "I", Cond.fieldLink RX4 17 "SqueezedVolumeModel" "ints" "[I", Cond.fieldLink RX4 120 "SqueezedVolumeModel" "copied" "I", Cond.fieldLink RX4 24 "SqueezedVolumeModel" "next" "[I", Cond.methodLink RX4 89 yX4_lengthOf, Cond.instanceMethod yX4_lengthOf]
def wsX4_moveAll_r2 : List Cond := [Cond.selects RX4 yX4_lengthOf yX4_lengthOf, Cond.code yX4_lengthOf cX4_lengthOf 4 (some .int), Cond.methodLink RX4 52 yX4_write, Cond.instanceMethod yX4_write, Cond.selects RX4 yX4_write yX4_write, Cond.code yX4_write cX4_write 1 (some .boolean), Cond.fieldLink RX4 13 "SqueezedVolumeModel" "left" "I", Cond.fieldLink RX4 7 "SqueezedVolumeModel" "on" "Z", Cond.fieldLink RX4 39 "SqueezedVolumeModel" "writes" "I", Cond.fieldLink RX4 42 "SqueezedVolumeModel" "squeezing" "Z", Cond.fieldLink RX4 45 "SqueezedVolumeModel" "within" "Z", Cond.methodLink RX4 80 yX4_lay, Cond.instanceMethod yX4_lay, Cond.selects RX4 yX4_lay yX4_lay, Cond.code yX4_lay cX4_lay 2 none, Cond.methodLink RX4 83 yX4_change, Cond.instanceMethod yX4_change, Cond.selects RX4 yX4_change yX4_change, Cond.code yX4_change cX4_change 3 (some .boolean), Cond.methodLink RX4 48 yX4_runs, Cond.instanceMethod yX4_runs, Cond.selects RX4 yX4_runs yX4_runs, Cond.code yX4_runs cX4_runs 3 (some .int)]
def wsX4_moveAll : List Cond := .code yX4_moveAll cX4_moveAll 1 (some .boolean) :: ((wsX4_moveAll_r1 ++ wsX4_moveAll_r2) ++ wsX40)
def wsX4_squeeze_r1 : List Cond := [Cond.fieldLink RX4 7 "SqueezedVolumeModel" "on" "Z", Cond.fieldLink RX4 36 "SqueezedVolumeModel" "code" "I", Cond.fieldLink RX4 120 "SqueezedVolumeModel" "copied" "I", Cond.fieldLink RX4 45 "SqueezedVolumeModel" "within" "Z", Cond.fieldLink RX4 42 "SqueezedVolumeModel" "squeezing" "Z", Cond.methodLink RX4 70 yX4_howMany, Cond.instanceMethod yX4_howMany, Cond.selects RX4 yX4_howMany yX4_howMany, Cond.initialized RX4, Cond.code yX4_howMany cX4_howMany 4 (some .int), Cond.fieldLink RX4 27 "SqueezedVolumeModel" "kind" "[I", Cond.methodLink RX4 130 yX4_moveAll, Cond.instanceMethod yX4_moveAll, Cond.selects RX4 yX4_moveAll yX4_moveAll, Cond.code yX4_moveAll cX4_moveAll 1 (some .boolean), Cond.methodLink RX4 123 yX4_findMover, Cond.instanceMethod yX4_findMover, Cond.selects RX4 yX4_findMover yX4_findMover, Cond.code yX4_findMover cX4_findMover 3 (some .boolean), Cond.fieldLink RX4 105 "SqueezedVolumeModel" "mover" "I", Cond.fieldLink RX4 21 "SqueezedVolumeModel" "owner" "[I", Cond.fieldLink RX4 108 "SqueezedVolumeModel" "from" "I", Cond.fieldLink RX4 111 "SqueezedVolumeModel" "shift" "I", Cond.methodLink RX4 59 yX4_runFrom]
def wsX4_squeeze_r2 : List Cond := [Cond.instanceMethod yX4_runFrom, Cond.selects RX4 yX4_runFrom yX4_runFrom, Cond.code yX4_runFrom cX4_runFrom 3 (some .int), Cond.methodLink RX4 126 yX4_move, Cond.instanceMethod yX4_move, Cond.selects RX4 yX4_move yX4_move, Cond.code yX4_move cX4_move 7 (some .boolean), Cond.fieldLink RX4 114 "SqueezedVolumeModel" "moving" "Z", Cond.fieldLink RX4 117 "SqueezedVolumeModel" "group" "I", Cond.fieldLink RX4 17 "SqueezedVolumeModel" "ints" "[I", Cond.fieldLink RX4 24 "SqueezedVolumeModel" "next" "[I", Cond.methodLink RX4 89 yX4_lengthOf, Cond.instanceMethod yX4_lengthOf, Cond.selects RX4 yX4_lengthOf yX4_lengthOf, Cond.code yX4_lengthOf cX4_lengthOf 4 (some .int), Cond.methodLink RX4 52 yX4_write, Cond.instanceMethod yX4_write, Cond.selects RX4 yX4_write yX4_write, Cond.code yX4_write cX4_write 1 (some .boolean), Cond.fieldLink RX4 13 "SqueezedVolumeModel" "left" "I", Cond.fieldLink RX4 39 "SqueezedVolumeModel" "writes" "I", Cond.methodLink RX4 80 yX4_lay, Cond.instanceMethod yX4_lay, Cond.selects RX4 yX4_lay yX4_lay]
def wsX4_squeeze_r3 : List Cond := [Cond.code yX4_lay cX4_lay 2 none, Cond.methodLink RX4 83 yX4_change, Cond.instanceMethod yX4_change, Cond.selects RX4 yX4_change yX4_change, Cond.code yX4_change cX4_change 3 (some .boolean), Cond.methodLink RX4 48 yX4_runs, Cond.instanceMethod yX4_runs, Cond.selects RX4 yX4_runs yX4_runs, Cond.code yX4_runs cX4_runs 3 (some .int)]
def wsX4_squeeze : List Cond := .code yX4_squeeze cX4_squeeze 2 (some .int) :: ((wsX4_squeeze_r1 ++ (wsX4_squeeze_r2 ++ wsX4_squeeze_r3)) ++ wsX40)
def wsX4_mount_r1 : List Cond := [Cond.fieldLink RX4 7 "SqueezedVolumeModel" "on" "Z", Cond.fieldLink RX4 36 "SqueezedVolumeModel" "code" "I", Cond.fieldLink RX4 13 "SqueezedVolumeModel" "left" "I", Cond.fieldLink RX4 114 "SqueezedVolumeModel" "moving" "Z", Cond.fieldLink RX4 117 "SqueezedVolumeModel" "group" "I", Cond.fieldLink RX4 42 "SqueezedVolumeModel" "squeezing" "Z", Cond.fieldLink RX4 27 "SqueezedVolumeModel" "kind" "[I", Cond.methodLink RX4 126 yX4_move, Cond.instanceMethod yX4_move, Cond.selects RX4 yX4_move yX4_move, Cond.initialized RX4, Cond.code yX4_move cX4_move 7 (some .boolean), Cond.fieldLink RX4 105 "SqueezedVolumeModel" "mover" "I", Cond.fieldLink RX4 111 "SqueezedVolumeModel" "shift" "I", Cond.fieldLink RX4 17 "SqueezedVolumeModel" "ints" "[I", Cond.fieldLink RX4 108 "SqueezedVolumeModel" "from" "I", Cond.fieldLink RX4 120 "SqueezedVolumeModel" "copied" "I", Cond.fieldLink RX4 24 "SqueezedVolumeModel" "next" "[I", Cond.methodLink RX4 89 yX4_lengthOf, Cond.instanceMethod yX4_lengthOf, Cond.selects RX4 yX4_lengthOf yX4_lengthOf, Cond.code yX4_lengthOf cX4_lengthOf 4 (some .int), Cond.fieldLink RX4 21 "SqueezedVolumeModel" "owner" "[I", Cond.methodLink RX4 52 yX4_write]
def wsX4_mount_r2 : List Cond := [Cond.instanceMethod yX4_write, Cond.selects RX4 yX4_write yX4_write, Cond.code yX4_write cX4_write 1 (some .boolean), Cond.fieldLink RX4 39 "SqueezedVolumeModel" "writes" "I", Cond.fieldLink RX4 45 "SqueezedVolumeModel" "within" "Z", Cond.methodLink RX4 80 yX4_lay, Cond.instanceMethod yX4_lay, Cond.selects RX4 yX4_lay yX4_lay, Cond.code yX4_lay cX4_lay 2 none, Cond.methodLink RX4 83 yX4_change, Cond.instanceMethod yX4_change, Cond.selects RX4 yX4_change yX4_change, Cond.code yX4_change cX4_change 3 (some .boolean), Cond.methodLink RX4 48 yX4_runs, Cond.instanceMethod yX4_runs, Cond.selects RX4 yX4_runs yX4_runs, Cond.code yX4_runs cX4_runs 3 (some .int), Cond.methodLink RX4 130 yX4_moveAll, Cond.instanceMethod yX4_moveAll, Cond.selects RX4 yX4_moveAll yX4_moveAll, Cond.code yX4_moveAll cX4_moveAll 1 (some .boolean), Cond.methodLink RX4 123 yX4_findMover, Cond.instanceMethod yX4_findMover, Cond.selects RX4 yX4_findMover yX4_findMover]
def wsX4_mount_r3 : List Cond := [Cond.code yX4_findMover cX4_findMover 3 (some .boolean), Cond.methodLink RX4 59 yX4_runFrom, Cond.instanceMethod yX4_runFrom, Cond.selects RX4 yX4_runFrom yX4_runFrom, Cond.code yX4_runFrom cX4_runFrom 3 (some .int), Cond.methodLink RX4 70 yX4_howMany, Cond.instanceMethod yX4_howMany, Cond.selects RX4 yX4_howMany yX4_howMany, Cond.code yX4_howMany cX4_howMany 4 (some .int), Cond.methodLink RX4 98 yX4_giveUp, Cond.instanceMethod yX4_giveUp, Cond.selects RX4 yX4_giveUp yX4_giveUp, Cond.code yX4_giveUp cX4_giveUp 6 none]
def wsX4_mount : List Cond := .code yX4_mount cX4_mount 3 (some .int) :: ((wsX4_mount_r1 ++ (wsX4_mount_r2 ++ wsX4_mount_r3)) ++ wsX40)
def wsX4_cutAfter : List Cond := .code yX4_cutAfter cX4_cutAfter 2 none :: ([.fieldLink RX4 7 "SqueezedVolumeModel" "on" "Z", .fieldLink RX4 36 "SqueezedVolumeModel" "code" "I", .fieldLink RX4 13 "SqueezedVolumeModel" "left" "I"] ++ wsX40)
def wsX4_run : List Cond := .code yX4_run cX4_run 4 (some .boolean) :: ([.fieldLink RX4 63 "SqueezedVolumeModel" "runAt" "I", .fieldLink RX4 56 "SqueezedVolumeModel" "runLength" "I", .methodLink RX4 59 yX4_runFrom, .instanceMethod yX4_runFrom, .selects RX4 yX4_runFrom yX4_runFrom, .initialized RX4, .code yX4_runFrom cX4_runFrom 3 (some .int), .fieldLink RX4 21 "SqueezedVolumeModel" "owner" "[I"] ++ wsX40)
def wsX4_entry : List Cond := .code yX4_entry cX4_entry 4 (some .int) :: ([.fieldLink RX4 7 "SqueezedVolumeModel" "on" "Z", .fieldLink RX4 36 "SqueezedVolumeModel" "code" "I", .fieldLink RX4 21 "SqueezedVolumeModel" "owner" "[I", .fieldLink RX4 63 "SqueezedVolumeModel" "runAt" "I", .fieldLink RX4 27 "SqueezedVolumeModel" "kind" "[I", .fieldLink RX4 56 "SqueezedVolumeModel" "runLength" "I", .fieldLink RX4 30 "SqueezedVolumeModel" "name" "[I", .methodLink RX4 133 yX4_run, .instanceMethod yX4_run, .selects RX4 yX4_run yX4_run, .initialized RX4, .code yX4_run cX4_run 4 (some .boolean), .methodLink RX4 59 yX4_runFrom, .instanceMethod yX4_runFrom, .selects RX4 yX4_runFrom yX4_runFrom, .code yX4_runFrom cX4_runFrom 3 (some .int)] ++ wsX40)
def wsX4_entries : List Cond := .code yX4_entries cX4_entries 1 (some .int) :: ([.fieldLink RX4 7 "SqueezedVolumeModel" "on" "Z", .fieldLink RX4 36 "SqueezedVolumeModel" "code" "I", .methodLink RX4 136 yX4_runsNow, .instanceMethod yX4_runsNow, .selects RX4 yX4_runsNow yX4_runsNow, .initialized RX4, .code yX4_runsNow cX4_runsNow 3 (some .int), .fieldLink RX4 21 "SqueezedVolumeModel" "owner" "[I"] ++ wsX40)
def wsX4_free : List Cond := .code yX4_free cX4_free 2 (some .int) :: ([.fieldLink RX4 7 "SqueezedVolumeModel" "on" "Z", .fieldLink RX4 36 "SqueezedVolumeModel" "code" "I", .methodLink RX4 73 yX4_longest, .instanceMethod yX4_longest, .selects RX4 yX4_longest yX4_longest, .initialized RX4, .code yX4_longest cX4_longest 6 (some .int), .fieldLink RX4 21 "SqueezedVolumeModel" "owner" "[I", .methodLink RX4 59 yX4_runFrom, .instanceMethod yX4_runFrom, .selects RX4 yX4_runFrom yX4_runFrom, .code yX4_runFrom cX4_runFrom 3 (some .int), .methodLink RX4 89 yX4_lengthOf, .instanceMethod yX4_lengthOf, .selects RX4 yX4_lengthOf yX4_lengthOf, .code yX4_lengthOf cX4_lengthOf 4 (some .int)] ++ wsX40)
def wsX4_handle : List Cond := .code yX4_handle cX4_handle 5 (some .int) :: ([.fieldLink RX4 7 "SqueezedVolumeModel" "on" "Z", .fieldLink RX4 36 "SqueezedVolumeModel" "code" "I", .fieldLink RX4 30 "SqueezedVolumeModel" "name" "[I", .methodLink RX4 86 yX4_byHandle, .instanceMethod yX4_byHandle, .selects RX4 yX4_byHandle yX4_byHandle, .initialized RX4, .code yX4_byHandle cX4_byHandle 4 (some .int), .fieldLink RX4 27 "SqueezedVolumeModel" "kind" "[I", .fieldLink RX4 33 "SqueezedVolumeModel" "handle" "[I"] ++ wsX40)
def wsX4_writes : List Cond := .code yX4_writes cX4_writes 1 (some .int) :: ([.fieldLink RX4 36 "SqueezedVolumeModel" "code" "I", .fieldLink RX4 39 "SqueezedVolumeModel" "writes" "I"] ++ wsX40)
def wsX4_isOn : List Cond := .code yX4_isOn cX4_isOn 1 (some .boolean) :: ([.fieldLink RX4 36 "SqueezedVolumeModel" "code" "I", .fieldLink RX4 7 "SqueezedVolumeModel" "on" "Z"] ++ wsX40)
def wsJ9_max_7cf53 : List Cond := .code yJ9_max_7cf53 cJ9_max_7cf53 2 (some .int) :: ([])
def wsJ9_min_7cf53 : List Cond := .code yJ9_min_7cf53 cJ9_min_7cf53 2 (some .int) :: ([])
def wsL_enter_r1 : List Cond := [Cond.classLink RL 13 "java/lang/IllegalStateException", Cond.classLink RL 15 "java/lang/IllegalArgumentException", Cond.classLink RL 17 "java/lang/UnsupportedOperationException", Cond.methodLink RL 7 yX3_enter, Cond.instanceMethod yX3_enter, Cond.selects RX3 yX3_enter yX3_enter, Cond.initialized RX3, Cond.code yX3_enter cX3_enter 6 (some .int), Cond.classLink RX3 52 "java/lang/IllegalArgumentException", Cond.initialized "java/lang/IllegalArgumentException", Cond.classLink RX3 63 "java/lang/IllegalStateException", Cond.initialized "java/lang/IllegalStateException", Cond.classLink RX3 75 "java/lang/UnsupportedOperationException", Cond.initialized "java/lang/UnsupportedOperationException", Cond.fieldLink RX3 28 "SqueezedVolume" "directory" "LSqueezedVolume$Directory;", Cond.methodLink RX3 46 yX3_requirePower, Cond.instanceMethod yX3_requirePower, Cond.selects RX3 yX3_requirePower yX3_requirePower, Cond.code yX3_requirePower cX3_requirePower 1 none, Cond.fieldLink RX3 10 "SqueezedVolume" "power" "LSqueezedVolume$Power;", Cond.methodLink RX3 151 yX1_isUp, Cond.instanceMethod yX1_isUp, Cond.selects RX1 yX1_isUp yX1_isUp, Cond.initialized RX1]
def wsL_enter_r2 : List Cond := [Cond.code yX1_isUp cX1_isUp 1 (some .boolean), Cond.fieldLink RX1 9 "SqueezedVolume$Power" "up" "Z", Cond.methodLink RX3 49 yX3_requireName, Cond.instanceMethod yX3_requireName, Cond.selects RX3 yX3_requireName yX3_requireName, Cond.code yX3_requireName cX3_requireName 2 none, Cond.methodLink RX3 59 yX0_leastFreeHandle, Cond.instanceMethod yX0_leastFreeHandle, Cond.selects RX0 yX0_leastFreeHandle yX0_leastFreeHandle, Cond.initialized RX0, Cond.code yX0_leastFreeHandle cX0_leastFreeHandle 2 (some .int), Cond.methodLink RX0 61 yX0_findTentative, Cond.instanceMethod yX0_findTentative, Cond.selects RX0 yX0_findTentative yX0_findTentative, Cond.code yX0_findTentative cX0_findTentative 3 (some .int), Cond.fieldLink RX0 29 "SqueezedVolume$Directory" "count" "I", Cond.fieldLink RX0 16 "SqueezedVolume$Directory" "kinds" "LSqueezedVolume$Row;", Cond.fieldLink RX0 26 "SqueezedVolume$Directory" "handles" "LSqueezedVolume$Row;", Cond.methodLink RX0 50 yX2_at, Cond.instanceMethod yX2_at, Cond.selects RX2 yX2_at yX2_at, Cond.initialized RX2, Cond.code yX2_at cX2_at 2 (some .int), Cond.fieldLink RX2 13 "SqueezedVolume$Row" "cells" "[I"]
def wsL_enter_r3 : List Cond := [Cond.methodLink RX3 68 yX0_roomToSpare, Cond.instanceMethod yX0_roomToSpare, Cond.selects RX0 yX0_roomToSpare yX0_roomToSpare, Cond.code yX0_roomToSpare cX0_roomToSpare 5 (some .int), Cond.fieldLink RX0 20 "SqueezedVolume$Directory" "lengths" "LSqueezedVolume$Row;", Cond.methodLink RX0 64 Lib.Math.min.name, Cond.static Lib.Math.min.name, Cond.initialized "java/lang/Math", Cond.code Lib.Math.min.name Lib.Math.min.code 2 (some .int), Cond.methodLink RX0 70 Lib.Math.max.name, Cond.static Lib.Math.max.name, Cond.code Lib.Math.max.name Lib.Math.max.code 2 (some .int), Cond.methodLink RX3 71 yX0_findRoom, Cond.instanceMethod yX0_findRoom, Cond.selects RX0 yX0_findRoom yX0_findRoom, Cond.code yX0_findRoom cX0_findRoom 4 (some .int), Cond.methodLink RX3 80 yX3_draftOpened, Cond.instanceMethod yX3_draftOpened, Cond.selects RX3 yX3_draftOpened yX3_draftOpened, Cond.code yX3_draftOpened cX3_draftOpened 5 none, Cond.fieldLink RX3 32 "SqueezedVolume" "draft" "LSqueezedVolume$Directory;", Cond.methodLink RX3 127 yX0_clear, Cond.instanceMethod yX0_clear, Cond.selects RX0 yX0_clear yX0_clear]
def wsL_enter_r4 : List Cond := [Cond.code yX0_clear cX0_clear 1 none, Cond.methodLink RX3 130 yX0_addRange, Cond.instanceMethod yX0_addRange, Cond.selects RX0 yX0_addRange yX0_addRange, Cond.code yX0_addRange cX0_addRange 5 none, Cond.methodLink RX0 37 yX0_kindAt, Cond.instanceMethod yX0_kindAt, Cond.selects RX0 yX0_kindAt yX0_kindAt, Cond.code yX0_kindAt cX0_kindAt 2 (some .int), Cond.methodLink RX0 41 yX0_lengthAt, Cond.instanceMethod yX0_lengthAt, Cond.selects RX0 yX0_lengthAt yX0_lengthAt, Cond.code yX0_lengthAt cX0_lengthAt 2 (some .int), Cond.methodLink RX0 44 yX0_nameAt, Cond.instanceMethod yX0_nameAt, Cond.selects RX0 yX0_nameAt yX0_nameAt, Cond.code yX0_nameAt cX0_nameAt 2 (some .int), Cond.fieldLink RX0 23 "SqueezedVolume$Directory" "names" "LSqueezedVolume$Row;", Cond.methodLink RX0 47 yX0_handleAt, Cond.instanceMethod yX0_handleAt, Cond.selects RX0 yX0_handleAt yX0_handleAt, Cond.code yX0_handleAt cX0_handleAt 2 (some .int), Cond.methodLink RX0 33 yX0_add, Cond.instanceMethod yX0_add]
def wsL_enter_r5 : List Cond := [Cond.selects RX0 yX0_add yX0_add, Cond.code yX0_add cX0_add 6 none, Cond.methodLink RX0 53 yX2_set, Cond.instanceMethod yX2_set, Cond.selects RX2 yX2_set yX2_set, Cond.code yX2_set cX2_set 3 none, Cond.methodLink RX3 134 yX0_add, Cond.methodLink RX3 105 yX0_lengthAt, Cond.methodLink RX3 43 yX0_addEmpty, Cond.instanceMethod yX0_addEmpty, Cond.selects RX0 yX0_addEmpty yX0_addEmpty, Cond.code yX0_addEmpty cX0_addEmpty 2 none, Cond.methodLink RX3 137 yX0_count, Cond.instanceMethod yX0_count, Cond.selects RX0 yX0_count yX0_count, Cond.code yX0_count cX0_count 1 (some .int), Cond.methodLink RX3 84 yX3_requireFewEntries, Cond.instanceMethod yX3_requireFewEntries, Cond.selects RX3 yX3_requireFewEntries yX3_requireFewEntries, Cond.code yX3_requireFewEntries cX3_requireFewEntries 1 none, Cond.methodLink RX3 87 yX3_change, Cond.instanceMethod yX3_change, Cond.selects RX3 yX3_change yX3_change, Cond.code yX3_change cX3_change 3 (some .boolean)]
def wsL_enter_r6 : List Cond := [Cond.methodLink RX3 207 yX1_countWrite, Cond.instanceMethod yX1_countWrite, Cond.selects RX1 yX1_countWrite yX1_countWrite, Cond.code yX1_countWrite cX1_countWrite 1 (some .boolean), Cond.fieldLink RX1 15 "SqueezedVolume$Power" "left" "I", Cond.fieldLink RX1 19 "SqueezedVolume$Power" "count" "I", Cond.methodLink RX3 210 yX0_takeOver, Cond.instanceMethod yX0_takeOver, Cond.selects RX0 yX0_takeOver yX0_takeOver, Cond.code yX0_takeOver cX0_takeOver 2 none, Cond.methodLink RX0 57 yX2_takeOver, Cond.instanceMethod yX2_takeOver, Cond.selects RX2 yX2_takeOver yX2_takeOver, Cond.code yX2_takeOver cX2_takeOver 3 none, Cond.methodLink RX2 19 yX2_at]
def wsL_enter : List Cond := .codeWith yL_enter cL_enter 5 (some .int) [(0, 10, 13, 13), (0, 10, 17, 15), (0, 10, 21, 17)] :: ((wsL_enter_r1 ++ (wsL_enter_r2 ++ (wsL_enter_r3 ++ (wsL_enter_r4 ++ (wsL_enter_r5 ++ wsL_enter_r6))))) ++ wsX30 ++ wsX10 ++ wsX00 ++ wsX20 ++ (vx_atS RX3 56 "java/lang/IllegalArgumentException" ["java/lang/RuntimeException", "java/lang/Exception"]).filter goodWord ++ (vx_atS RX3 67 "java/lang/IllegalStateException" ["java/lang/RuntimeException", "java/lang/Exception"]).filter goodWord ++ (vx_atS RX3 79 "java/lang/UnsupportedOperationException" ["java/lang/RuntimeException", "java/lang/Exception"]).filter goodWord)
def wsL_put_r1 : List Cond := [Cond.classLink RL 13 "java/lang/IllegalStateException", Cond.classLink RL 23 "java/util/NoSuchElementException", Cond.classLink RL 15 "java/lang/IllegalArgumentException", Cond.methodLink RL 19 yX3_put, Cond.instanceMethod yX3_put, Cond.selects RX3 yX3_put yX3_put, Cond.initialized RX3, Cond.code yX3_put cX3_put 5 (some .int), Cond.fieldLink RX3 28 "SqueezedVolume" "directory" "LSqueezedVolume$Directory;", Cond.methodLink RX3 46 yX3_requirePower, Cond.instanceMethod yX3_requirePower, Cond.selects RX3 yX3_requirePower yX3_requirePower, Cond.code yX3_requirePower cX3_requirePower 1 none, Cond.classLink RX3 63 "java/lang/IllegalStateException", Cond.initialized "java/lang/IllegalStateException", Cond.fieldLink RX3 10 "SqueezedVolume" "power" "LSqueezedVolume$Power;", Cond.methodLink RX3 151 yX1_isUp, Cond.instanceMethod yX1_isUp, Cond.selects RX1 yX1_isUp yX1_isUp, Cond.initialized RX1, Cond.code yX1_isUp cX1_isUp 1 (some .boolean), Cond.fieldLink RX1 9 "SqueezedVolume$Power" "up" "Z", Cond.methodLink RX3 91 yX3_requireTentative, Cond.instanceMethod yX3_requireTentative]
def wsL_put_r2 : List Cond := [Cond.selects RX3 yX3_requireTentative yX3_requireTentative, Cond.code yX3_requireTentative cX3_requireTentative 3 (some .int), Cond.classLink RX3 196 "java/util/NoSuchElementException", Cond.initialized "java/util/NoSuchElementException", Cond.methodLink RX3 193 yX0_findTentative, Cond.instanceMethod yX0_findTentative, Cond.selects RX0 yX0_findTentative yX0_findTentative, Cond.initialized RX0, Cond.code yX0_findTentative cX0_findTentative 3 (some .int), Cond.fieldLink RX0 29 "SqueezedVolume$Directory" "count" "I", Cond.fieldLink RX0 16 "SqueezedVolume$Directory" "kinds" "LSqueezedVolume$Row;", Cond.fieldLink RX0 26 "SqueezedVolume$Directory" "handles" "LSqueezedVolume$Row;", Cond.methodLink RX0 50 yX2_at, Cond.instanceMethod yX2_at, Cond.selects RX2 yX2_at yX2_at, Cond.initialized RX2, Cond.code yX2_at cX2_at 2 (some .int), Cond.fieldLink RX2 13 "SqueezedVolume$Row" "cells" "[I", Cond.methodLink RX3 94 yX3_requireBlock, Cond.instanceMethod yX3_requireBlock, Cond.selects RX3 yX3_requireBlock yX3_requireBlock, Cond.code yX3_requireBlock cX3_requireBlock 3 none, Cond.classLink RX3 52 "java/lang/IllegalArgumentException", Cond.initialized "java/lang/IllegalArgumentException"]
def wsL_put_r3 : List Cond := [Cond.methodLink RX3 105 yX0_lengthAt, Cond.instanceMethod yX0_lengthAt, Cond.selects RX0 yX0_lengthAt yX0_lengthAt, Cond.code yX0_lengthAt cX0_lengthAt 2 (some .int), Cond.fieldLink RX0 20 "SqueezedVolume$Directory" "lengths" "LSqueezedVolume$Row;", Cond.methodLink RX3 98 yX0_beginAt, Cond.instanceMethod yX0_beginAt, Cond.selects RX0 yX0_beginAt yX0_beginAt, Cond.code yX0_beginAt cX0_beginAt 4 (some .int), Cond.methodLink RX3 101 yX3_writeBlock, Cond.instanceMethod yX3_writeBlock, Cond.selects RX3 yX3_writeBlock yX3_writeBlock, Cond.code yX3_writeBlock cX3_writeBlock 3 (some .boolean), Cond.fieldLink RX3 21 "SqueezedVolume" "content" "LSqueezedVolume$Row;", Cond.methodLink RX3 207 yX1_countWrite, Cond.instanceMethod yX1_countWrite, Cond.selects RX1 yX1_countWrite yX1_countWrite, Cond.code yX1_countWrite cX1_countWrite 1 (some .boolean), Cond.fieldLink RX1 15 "SqueezedVolume$Power" "left" "I", Cond.fieldLink RX1 19 "SqueezedVolume$Power" "count" "I", Cond.methodLink RX3 214 yX2_set, Cond.instanceMethod yX2_set, Cond.selects RX2 yX2_set yX2_set, Cond.code yX2_set cX2_set 3 none]
def wsL_put : List Cond := .codeWith yL_put cL_put 6 (some .int) [(0, 12, 15, 13), (0, 12, 19, 23), (0, 12, 23, 15)] :: ((wsL_put_r1 ++ (wsL_put_r2 ++ wsL_put_r3)) ++ wsX30 ++ wsX10 ++ wsX00 ++ wsX20 ++ (vx_atS RX3 67 "java/lang/IllegalStateException" ["java/lang/RuntimeException", "java/lang/Exception"]).filter goodWord ++ (vx_atS RX3 200 "java/util/NoSuchElementException" ["java/lang/RuntimeException", "java/lang/Exception"]).filter goodWord ++ (vx_atS RX3 56 "java/lang/IllegalArgumentException" ["java/lang/RuntimeException", "java/lang/Exception"]).filter goodWord)
def wsL_close_r1 : List Cond := [Cond.classLink RL 13 "java/lang/IllegalStateException", Cond.classLink RL 23 "java/util/NoSuchElementException", Cond.classLink RL 15 "java/lang/IllegalArgumentException", Cond.classLink RL 17 "java/lang/UnsupportedOperationException", Cond.methodLink RL 25 yX3_close, Cond.instanceMethod yX3_close, Cond.selects RX3 yX3_close yX3_close, Cond.initialized RX3, Cond.code yX3_close cX3_close 5 (some .int), Cond.classLink RX3 52 "java/lang/IllegalArgumentException", Cond.initialized "java/lang/IllegalArgumentException", Cond.fieldLink RX3 28 "SqueezedVolume" "directory" "LSqueezedVolume$Directory;", Cond.fieldLink RX3 32 "SqueezedVolume" "draft" "LSqueezedVolume$Directory;", Cond.methodLink RX3 46 yX3_requirePower, Cond.instanceMethod yX3_requirePower, Cond.selects RX3 yX3_requirePower yX3_requirePower, Cond.code yX3_requirePower cX3_requirePower 1 none, Cond.classLink RX3 63 "java/lang/IllegalStateException", Cond.initialized "java/lang/IllegalStateException", Cond.fieldLink RX3 10 "SqueezedVolume" "power" "LSqueezedVolume$Power;", Cond.methodLink RX3 151 yX1_isUp, Cond.instanceMethod yX1_isUp, Cond.selects RX1 yX1_isUp yX1_isUp, Cond.initialized RX1]
def wsL_close_r2 : List Cond := [Cond.code yX1_isUp cX1_isUp 1 (some .boolean), Cond.fieldLink RX1 9 "SqueezedVolume$Power" "up" "Z", Cond.methodLink RX3 91 yX3_requireTentative, Cond.instanceMethod yX3_requireTentative, Cond.selects RX3 yX3_requireTentative yX3_requireTentative, Cond.code yX3_requireTentative cX3_requireTentative 3 (some .int), Cond.classLink RX3 196 "java/util/NoSuchElementException", Cond.initialized "java/util/NoSuchElementException", Cond.methodLink RX3 193 yX0_findTentative, Cond.instanceMethod yX0_findTentative, Cond.selects RX0 yX0_findTentative yX0_findTentative, Cond.initialized RX0, Cond.code yX0_findTentative cX0_findTentative 3 (some .int), Cond.fieldLink RX0 29 "SqueezedVolume$Directory" "count" "I", Cond.fieldLink RX0 16 "SqueezedVolume$Directory" "kinds" "LSqueezedVolume$Row;", Cond.fieldLink RX0 26 "SqueezedVolume$Directory" "handles" "LSqueezedVolume$Row;", Cond.methodLink RX0 50 yX2_at, Cond.instanceMethod yX2_at, Cond.selects RX2 yX2_at yX2_at, Cond.initialized RX2, Cond.code yX2_at cX2_at 2 (some .int), Cond.fieldLink RX2 13 "SqueezedVolume$Row" "cells" "[I", Cond.methodLink RX3 105 yX0_lengthAt, Cond.instanceMethod yX0_lengthAt]
def wsL_close_r3 : List Cond := [Cond.selects RX0 yX0_lengthAt yX0_lengthAt, Cond.code yX0_lengthAt cX0_lengthAt 2 (some .int), Cond.fieldLink RX0 20 "SqueezedVolume$Directory" "lengths" "LSqueezedVolume$Row;", Cond.methodLink RX3 110 yX3_draftClosed, Cond.instanceMethod yX3_draftClosed, Cond.selects RX3 yX3_draftClosed yX3_draftClosed, Cond.code yX3_draftClosed cX3_draftClosed 6 none, Cond.methodLink RX3 177 yX0_nameAt, Cond.instanceMethod yX0_nameAt, Cond.selects RX0 yX0_nameAt yX0_nameAt, Cond.code yX0_nameAt cX0_nameAt 2 (some .int), Cond.fieldLink RX0 23 "SqueezedVolume$Directory" "names" "LSqueezedVolume$Row;", Cond.methodLink RX3 122 yX0_findPermanent, Cond.instanceMethod yX0_findPermanent, Cond.selects RX0 yX0_findPermanent yX0_findPermanent, Cond.code yX0_findPermanent cX0_findPermanent 3 (some .int), Cond.methodLink RX3 127 yX0_clear, Cond.instanceMethod yX0_clear, Cond.selects RX0 yX0_clear yX0_clear, Cond.code yX0_clear cX0_clear 1 none, Cond.methodLink RX3 137 yX0_count, Cond.instanceMethod yX0_count, Cond.selects RX0 yX0_count yX0_count, Cond.code yX0_count cX0_count 1 (some .int)]
def wsL_close_r4 : List Cond := [Cond.methodLink RX3 134 yX0_add, Cond.instanceMethod yX0_add, Cond.selects RX0 yX0_add yX0_add, Cond.code yX0_add cX0_add 6 none, Cond.methodLink RX0 53 yX2_set, Cond.instanceMethod yX2_set, Cond.selects RX2 yX2_set yX2_set, Cond.code yX2_set cX2_set 3 none, Cond.methodLink RX3 43 yX0_addEmpty, Cond.instanceMethod yX0_addEmpty, Cond.selects RX0 yX0_addEmpty yX0_addEmpty, Cond.code yX0_addEmpty cX0_addEmpty 2 none, Cond.methodLink RX0 33 yX0_add, Cond.methodLink RX3 130 yX0_addRange, Cond.instanceMethod yX0_addRange, Cond.selects RX0 yX0_addRange yX0_addRange, Cond.code yX0_addRange cX0_addRange 5 none, Cond.methodLink RX0 37 yX0_kindAt, Cond.instanceMethod yX0_kindAt, Cond.selects RX0 yX0_kindAt yX0_kindAt, Cond.code yX0_kindAt cX0_kindAt 2 (some .int), Cond.methodLink RX0 41 yX0_lengthAt, Cond.methodLink RX0 44 yX0_nameAt, Cond.methodLink RX0 47 yX0_handleAt]
def wsL_close_r5 : List Cond := [Cond.instanceMethod yX0_handleAt, Cond.selects RX0 yX0_handleAt yX0_handleAt, Cond.code yX0_handleAt cX0_handleAt 2 (some .int), Cond.methodLink RX3 84 yX3_requireFewEntries, Cond.instanceMethod yX3_requireFewEntries, Cond.selects RX3 yX3_requireFewEntries yX3_requireFewEntries, Cond.code yX3_requireFewEntries cX3_requireFewEntries 1 none, Cond.classLink RX3 75 "java/lang/UnsupportedOperationException", Cond.initialized "java/lang/UnsupportedOperationException", Cond.methodLink RX3 113 yX0_emptyBlocks, Cond.instanceMethod yX0_emptyBlocks, Cond.selects RX0 yX0_emptyBlocks yX0_emptyBlocks, Cond.code yX0_emptyBlocks cX0_emptyBlocks 3 (some .int), Cond.methodLink RX3 87 yX3_change, Cond.instanceMethod yX3_change, Cond.selects RX3 yX3_change yX3_change, Cond.code yX3_change cX3_change 3 (some .boolean), Cond.methodLink RX3 207 yX1_countWrite, Cond.instanceMethod yX1_countWrite, Cond.selects RX1 yX1_countWrite yX1_countWrite, Cond.code yX1_countWrite cX1_countWrite 1 (some .boolean), Cond.fieldLink RX1 15 "SqueezedVolume$Power" "left" "I", Cond.fieldLink RX1 19 "SqueezedVolume$Power" "count" "I", Cond.methodLink RX3 210 yX0_takeOver]
def wsL_close_r6 : List Cond := [Cond.instanceMethod yX0_takeOver, Cond.selects RX0 yX0_takeOver yX0_takeOver, Cond.code yX0_takeOver cX0_takeOver 2 none, Cond.methodLink RX0 57 yX2_takeOver, Cond.instanceMethod yX2_takeOver, Cond.selects RX2 yX2_takeOver yX2_takeOver, Cond.code yX2_takeOver cX2_takeOver 3 none, Cond.methodLink RX2 19 yX2_at]
def wsL_close : List Cond := .codeWith yL_close cL_close 5 (some .int) [(0, 10, 13, 13), (0, 10, 17, 23), (0, 10, 21, 15), (0, 10, 25, 17)] :: ((wsL_close_r1 ++ (wsL_close_r2 ++ (wsL_close_r3 ++ (wsL_close_r4 ++ (wsL_close_r5 ++ wsL_close_r6))))) ++ wsX30 ++ wsX10 ++ wsX00 ++ wsX20 ++ (vx_atS RX3 56 "java/lang/IllegalArgumentException" ["java/lang/RuntimeException", "java/lang/Exception"]).filter goodWord ++ (vx_atS RX3 67 "java/lang/IllegalStateException" ["java/lang/RuntimeException", "java/lang/Exception"]).filter goodWord ++ (vx_atS RX3 200 "java/util/NoSuchElementException" ["java/lang/RuntimeException", "java/lang/Exception"]).filter goodWord ++ (vx_atS RX3 79 "java/lang/UnsupportedOperationException" ["java/lang/RuntimeException", "java/lang/Exception"]).filter goodWord)
def wsL_purge_r1 : List Cond := [Cond.classLink RL 13 "java/lang/IllegalStateException", Cond.classLink RL 23 "java/util/NoSuchElementException", Cond.methodLink RL 28 yX3_purge, Cond.instanceMethod yX3_purge, Cond.selects RX3 yX3_purge yX3_purge, Cond.initialized RX3, Cond.code yX3_purge cX3_purge 2 (some .int), Cond.methodLink RX3 46 yX3_requirePower, Cond.instanceMethod yX3_requirePower, Cond.selects RX3 yX3_requirePower yX3_requirePower, Cond.code yX3_requirePower cX3_requirePower 1 none, Cond.classLink RX3 63 "java/lang/IllegalStateException", Cond.initialized "java/lang/IllegalStateException", Cond.fieldLink RX3 10 "SqueezedVolume" "power" "LSqueezedVolume$Power;", Cond.methodLink RX3 151 yX1_isUp, Cond.instanceMethod yX1_isUp, Cond.selects RX1 yX1_isUp yX1_isUp, Cond.initialized RX1, Cond.code yX1_isUp cX1_isUp 1 (some .boolean), Cond.fieldLink RX1 9 "SqueezedVolume$Power" "up" "Z", Cond.methodLink RX3 91 yX3_requireTentative, Cond.instanceMethod yX3_requireTentative, Cond.selects RX3 yX3_requireTentative yX3_requireTentative, Cond.code yX3_requireTentative cX3_requireTentative 3 (some .int)]
def wsL_purge_r2 : List Cond := [Cond.classLink RX3 196 "java/util/NoSuchElementException", Cond.initialized "java/util/NoSuchElementException", Cond.fieldLink RX3 28 "SqueezedVolume" "directory" "LSqueezedVolume$Directory;", Cond.methodLink RX3 193 yX0_findTentative, Cond.instanceMethod yX0_findTentative, Cond.selects RX0 yX0_findTentative yX0_findTentative, Cond.initialized RX0, Cond.code yX0_findTentative cX0_findTentative 3 (some .int), Cond.fieldLink RX0 29 "SqueezedVolume$Directory" "count" "I", Cond.fieldLink RX0 16 "SqueezedVolume$Directory" "kinds" "LSqueezedVolume$Row;", Cond.fieldLink RX0 26 "SqueezedVolume$Directory" "handles" "LSqueezedVolume$Row;", Cond.methodLink RX0 50 yX2_at, Cond.instanceMethod yX2_at, Cond.selects RX2 yX2_at yX2_at, Cond.initialized RX2, Cond.code yX2_at cX2_at 2 (some .int), Cond.fieldLink RX2 13 "SqueezedVolume$Row" "cells" "[I", Cond.methodLink RX3 116 yX3_makeEmpty, Cond.instanceMethod yX3_makeEmpty, Cond.selects RX3 yX3_makeEmpty yX3_makeEmpty, Cond.code yX3_makeEmpty cX3_makeEmpty 3 (some .int), Cond.fieldLink RX3 32 "SqueezedVolume" "draft" "LSqueezedVolume$Directory;", Cond.methodLink RX3 105 yX0_lengthAt, Cond.instanceMethod yX0_lengthAt]
def wsL_purge_r3 : List Cond := [Cond.selects RX0 yX0_lengthAt yX0_lengthAt, Cond.code yX0_lengthAt cX0_lengthAt 2 (some .int), Cond.fieldLink RX0 20 "SqueezedVolume$Directory" "lengths" "LSqueezedVolume$Row;", Cond.methodLink RX3 127 yX0_clear, Cond.instanceMethod yX0_clear, Cond.selects RX0 yX0_clear yX0_clear, Cond.code yX0_clear cX0_clear 1 none, Cond.methodLink RX3 130 yX0_addRange, Cond.instanceMethod yX0_addRange, Cond.selects RX0 yX0_addRange yX0_addRange, Cond.code yX0_addRange cX0_addRange 5 none, Cond.methodLink RX0 37 yX0_kindAt, Cond.instanceMethod yX0_kindAt, Cond.selects RX0 yX0_kindAt yX0_kindAt, Cond.code yX0_kindAt cX0_kindAt 2 (some .int), Cond.methodLink RX0 41 yX0_lengthAt, Cond.methodLink RX0 44 yX0_nameAt, Cond.instanceMethod yX0_nameAt, Cond.selects RX0 yX0_nameAt yX0_nameAt, Cond.code yX0_nameAt cX0_nameAt 2 (some .int), Cond.fieldLink RX0 23 "SqueezedVolume$Directory" "names" "LSqueezedVolume$Row;", Cond.methodLink RX0 47 yX0_handleAt, Cond.instanceMethod yX0_handleAt, Cond.selects RX0 yX0_handleAt yX0_handleAt]
def wsL_purge_r4 : List Cond := [Cond.code yX0_handleAt cX0_handleAt 2 (some .int), Cond.methodLink RX0 33 yX0_add, Cond.instanceMethod yX0_add, Cond.selects RX0 yX0_add yX0_add, Cond.code yX0_add cX0_add 6 none, Cond.methodLink RX0 53 yX2_set, Cond.instanceMethod yX2_set, Cond.selects RX2 yX2_set yX2_set, Cond.code yX2_set cX2_set 3 none, Cond.methodLink RX3 43 yX0_addEmpty, Cond.instanceMethod yX0_addEmpty, Cond.selects RX0 yX0_addEmpty yX0_addEmpty, Cond.code yX0_addEmpty cX0_addEmpty 2 none, Cond.methodLink RX3 137 yX0_count, Cond.instanceMethod yX0_count, Cond.selects RX0 yX0_count yX0_count, Cond.code yX0_count cX0_count 1 (some .int), Cond.methodLink RX3 87 yX3_change, Cond.instanceMethod yX3_change, Cond.selects RX3 yX3_change yX3_change, Cond.code yX3_change cX3_change 3 (some .boolean), Cond.methodLink RX3 207 yX1_countWrite, Cond.instanceMethod yX1_countWrite, Cond.selects RX1 yX1_countWrite yX1_countWrite]
def wsL_purge_r5 : List Cond := [Cond.code yX1_countWrite cX1_countWrite 1 (some .boolean), Cond.fieldLink RX1 15 "SqueezedVolume$Power" "left" "I", Cond.fieldLink RX1 19 "SqueezedVolume$Power" "count" "I", Cond.methodLink RX3 210 yX0_takeOver, Cond.instanceMethod yX0_takeOver, Cond.selects RX0 yX0_takeOver yX0_takeOver, Cond.code yX0_takeOver cX0_takeOver 2 none, Cond.methodLink RX0 57 yX2_takeOver, Cond.instanceMethod yX2_takeOver, Cond.selects RX2 yX2_takeOver yX2_takeOver, Cond.code yX2_takeOver cX2_takeOver 3 none, Cond.methodLink RX2 19 yX2_at]
def wsL_purge : List Cond := .codeWith yL_purge cL_purge 4 (some .int) [(0, 9, 12, 13), (0, 9, 15, 23)] :: ((wsL_purge_r1 ++ (wsL_purge_r2 ++ (wsL_purge_r3 ++ (wsL_purge_r4 ++ wsL_purge_r5)))) ++ wsX30 ++ wsX10 ++ wsX00 ++ wsX20 ++ (vx_atS RX3 67 "java/lang/IllegalStateException" ["java/lang/RuntimeException", "java/lang/Exception"]).filter goodWord ++ (vx_atS RX3 200 "java/util/NoSuchElementException" ["java/lang/RuntimeException", "java/lang/Exception"]).filter goodWord)
def wsL_delete_r1 : List Cond := [Cond.classLink RL 13 "java/lang/IllegalStateException", Cond.classLink RL 23 "java/util/NoSuchElementException", Cond.methodLink RL 32 yX3_delete, Cond.instanceMethod yX3_delete, Cond.selects RX3 yX3_delete yX3_delete, Cond.initialized RX3, Cond.code yX3_delete cX3_delete 2 (some .int), Cond.methodLink RX3 46 yX3_requirePower, Cond.instanceMethod yX3_requirePower, Cond.selects RX3 yX3_requirePower yX3_requirePower, Cond.code yX3_requirePower cX3_requirePower 1 none, Cond.classLink RX3 63 "java/lang/IllegalStateException", Cond.initialized "java/lang/IllegalStateException", Cond.fieldLink RX3 10 "SqueezedVolume" "power" "LSqueezedVolume$Power;", Cond.methodLink RX3 151 yX1_isUp, Cond.instanceMethod yX1_isUp, Cond.selects RX1 yX1_isUp yX1_isUp, Cond.initialized RX1, Cond.code yX1_isUp cX1_isUp 1 (some .boolean), Cond.fieldLink RX1 9 "SqueezedVolume$Power" "up" "Z", Cond.methodLink RX3 119 yX3_requirePermanent, Cond.instanceMethod yX3_requirePermanent, Cond.selects RX3 yX3_requirePermanent yX3_requirePermanent, Cond.code yX3_requirePermanent cX3_requirePermanent 3 (some .int)]
def wsL_delete_r2 : List Cond := [Cond.classLink RX3 196 "java/util/NoSuchElementException", Cond.initialized "java/util/NoSuchElementException", Cond.fieldLink RX3 28 "SqueezedVolume" "directory" "LSqueezedVolume$Directory;", Cond.methodLink RX3 122 yX0_findPermanent, Cond.instanceMethod yX0_findPermanent, Cond.selects RX0 yX0_findPermanent yX0_findPermanent, Cond.initialized RX0, Cond.code yX0_findPermanent cX0_findPermanent 3 (some .int), Cond.fieldLink RX0 29 "SqueezedVolume$Directory" "count" "I", Cond.fieldLink RX0 16 "SqueezedVolume$Directory" "kinds" "LSqueezedVolume$Row;", Cond.fieldLink RX0 23 "SqueezedVolume$Directory" "names" "LSqueezedVolume$Row;", Cond.methodLink RX0 50 yX2_at, Cond.instanceMethod yX2_at, Cond.selects RX2 yX2_at yX2_at, Cond.initialized RX2, Cond.code yX2_at cX2_at 2 (some .int), Cond.fieldLink RX2 13 "SqueezedVolume$Row" "cells" "[I", Cond.methodLink RX3 116 yX3_makeEmpty, Cond.instanceMethod yX3_makeEmpty, Cond.selects RX3 yX3_makeEmpty yX3_makeEmpty, Cond.code yX3_makeEmpty cX3_makeEmpty 3 (some .int), Cond.fieldLink RX3 32 "SqueezedVolume" "draft" "LSqueezedVolume$Directory;", Cond.methodLink RX3 105 yX0_lengthAt, Cond.instanceMethod yX0_lengthAt]
def wsL_delete_r3 : List Cond := [Cond.selects RX0 yX0_lengthAt yX0_lengthAt, Cond.code yX0_lengthAt cX0_lengthAt 2 (some .int), Cond.fieldLink RX0 20 "SqueezedVolume$Directory" "lengths" "LSqueezedVolume$Row;", Cond.methodLink RX3 127 yX0_clear, Cond.instanceMethod yX0_clear, Cond.selects RX0 yX0_clear yX0_clear, Cond.code yX0_clear cX0_clear 1 none, Cond.methodLink RX3 130 yX0_addRange, Cond.instanceMethod yX0_addRange, Cond.selects RX0 yX0_addRange yX0_addRange, Cond.code yX0_addRange cX0_addRange 5 none, Cond.methodLink RX0 37 yX0_kindAt, Cond.instanceMethod yX0_kindAt, Cond.selects RX0 yX0_kindAt yX0_kindAt, Cond.code yX0_kindAt cX0_kindAt 2 (some .int), Cond.methodLink RX0 41 yX0_lengthAt, Cond.methodLink RX0 44 yX0_nameAt, Cond.instanceMethod yX0_nameAt, Cond.selects RX0 yX0_nameAt yX0_nameAt, Cond.code yX0_nameAt cX0_nameAt 2 (some .int), Cond.methodLink RX0 47 yX0_handleAt, Cond.instanceMethod yX0_handleAt, Cond.selects RX0 yX0_handleAt yX0_handleAt, Cond.code yX0_handleAt cX0_handleAt 2 (some .int)]
def wsL_delete_r4 : List Cond := [Cond.fieldLink RX0 26 "SqueezedVolume$Directory" "handles" "LSqueezedVolume$Row;", Cond.methodLink RX0 33 yX0_add, Cond.instanceMethod yX0_add, Cond.selects RX0 yX0_add yX0_add, Cond.code yX0_add cX0_add 6 none, Cond.methodLink RX0 53 yX2_set, Cond.instanceMethod yX2_set, Cond.selects RX2 yX2_set yX2_set, Cond.code yX2_set cX2_set 3 none, Cond.methodLink RX3 43 yX0_addEmpty, Cond.instanceMethod yX0_addEmpty, Cond.selects RX0 yX0_addEmpty yX0_addEmpty, Cond.code yX0_addEmpty cX0_addEmpty 2 none, Cond.methodLink RX3 137 yX0_count, Cond.instanceMethod yX0_count, Cond.selects RX0 yX0_count yX0_count, Cond.code yX0_count cX0_count 1 (some .int), Cond.methodLink RX3 87 yX3_change, Cond.instanceMethod yX3_change, Cond.selects RX3 yX3_change yX3_change, Cond.code yX3_change cX3_change 3 (some .boolean), Cond.methodLink RX3 207 yX1_countWrite, Cond.instanceMethod yX1_countWrite, Cond.selects RX1 yX1_countWrite yX1_countWrite]
def wsL_delete_r5 : List Cond := [Cond.code yX1_countWrite cX1_countWrite 1 (some .boolean), Cond.fieldLink RX1 15 "SqueezedVolume$Power" "left" "I", Cond.fieldLink RX1 19 "SqueezedVolume$Power" "count" "I", Cond.methodLink RX3 210 yX0_takeOver, Cond.instanceMethod yX0_takeOver, Cond.selects RX0 yX0_takeOver yX0_takeOver, Cond.code yX0_takeOver cX0_takeOver 2 none, Cond.methodLink RX0 57 yX2_takeOver, Cond.instanceMethod yX2_takeOver, Cond.selects RX2 yX2_takeOver yX2_takeOver, Cond.code yX2_takeOver cX2_takeOver 3 none, Cond.methodLink RX2 19 yX2_at]
def wsL_delete : List Cond := .codeWith yL_delete cL_delete 4 (some .int) [(0, 9, 12, 13), (0, 9, 15, 23)] :: ((wsL_delete_r1 ++ (wsL_delete_r2 ++ (wsL_delete_r3 ++ (wsL_delete_r4 ++ wsL_delete_r5)))) ++ wsX30 ++ wsX10 ++ wsX00 ++ wsX20 ++ (vx_atS RX3 67 "java/lang/IllegalStateException" ["java/lang/RuntimeException", "java/lang/Exception"]).filter goodWord ++ (vx_atS RX3 200 "java/util/NoSuchElementException" ["java/lang/RuntimeException", "java/lang/Exception"]).filter goodWord)
def wsL_rename_r1 : List Cond := [Cond.classLink RL 13 "java/lang/IllegalStateException", Cond.classLink RL 15 "java/lang/IllegalArgumentException", Cond.classLink RL 23 "java/util/NoSuchElementException", Cond.classLink RL 17 "java/lang/UnsupportedOperationException", Cond.methodLink RL 35 yX3_rename, Cond.instanceMethod yX3_rename, Cond.selects RX3 yX3_rename yX3_rename, Cond.initialized RX3, Cond.code yX3_rename cX3_rename 4 (some .int), Cond.classLink RX3 75 "java/lang/UnsupportedOperationException", Cond.initialized "java/lang/UnsupportedOperationException", Cond.fieldLink RX3 28 "SqueezedVolume" "directory" "LSqueezedVolume$Directory;", Cond.fieldLink RX3 32 "SqueezedVolume" "draft" "LSqueezedVolume$Directory;", Cond.methodLink RX3 46 yX3_requirePower, Cond.instanceMethod yX3_requirePower, Cond.selects RX3 yX3_requirePower yX3_requirePower, Cond.code yX3_requirePower cX3_requirePower 1 none, Cond.classLink RX3 63 "java/lang/IllegalStateException", Cond.initialized "java/lang/IllegalStateException", Cond.fieldLink RX3 10 "SqueezedVolume" "power" "LSqueezedVolume$Power;", Cond.methodLink RX3 151 yX1_isUp, Cond.instanceMethod yX1_isUp, Cond.selects RX1 yX1_isUp yX1_isUp, Cond.initialized RX1]
def wsL_rename_r2 : List Cond := [Cond.code yX1_isUp cX1_isUp 1 (some .boolean), Cond.fieldLink RX1 9 "SqueezedVolume$Power" "up" "Z", Cond.methodLink RX3 49 yX3_requireName, Cond.instanceMethod yX3_requireName, Cond.selects RX3 yX3_requireName yX3_requireName, Cond.code yX3_requireName cX3_requireName 2 none, Cond.classLink RX3 52 "java/lang/IllegalArgumentException", Cond.initialized "java/lang/IllegalArgumentException", Cond.methodLink RX3 119 yX3_requirePermanent, Cond.instanceMethod yX3_requirePermanent, Cond.selects RX3 yX3_requirePermanent yX3_requirePermanent, Cond.code yX3_requirePermanent cX3_requirePermanent 3 (some .int), Cond.classLink RX3 196 "java/util/NoSuchElementException", Cond.initialized "java/util/NoSuchElementException", Cond.methodLink RX3 122 yX0_findPermanent, Cond.instanceMethod yX0_findPermanent, Cond.selects RX0 yX0_findPermanent yX0_findPermanent, Cond.initialized RX0, Cond.code yX0_findPermanent cX0_findPermanent 3 (some .int), Cond.fieldLink RX0 29 "SqueezedVolume$Directory" "count" "I", Cond.fieldLink RX0 16 "SqueezedVolume$Directory" "kinds" "LSqueezedVolume$Row;", Cond.fieldLink RX0 23 "SqueezedVolume$Directory" "names" "LSqueezedVolume$Row;", Cond.methodLink RX0 50 yX2_at, Cond.instanceMethod yX2_at]
def wsL_rename_r3 : List Cond := [Cond.selects RX2 yX2_at yX2_at, Cond.initialized RX2, Cond.code yX2_at cX2_at 2 (some .int), Cond.fieldLink RX2 13 "SqueezedVolume$Row" "cells" "[I", Cond.methodLink RX3 127 yX0_clear, Cond.instanceMethod yX0_clear, Cond.selects RX0 yX0_clear yX0_clear, Cond.code yX0_clear cX0_clear 1 none, Cond.methodLink RX3 130 yX0_addRange, Cond.instanceMethod yX0_addRange, Cond.selects RX0 yX0_addRange yX0_addRange, Cond.code yX0_addRange cX0_addRange 5 none, Cond.methodLink RX0 37 yX0_kindAt, Cond.instanceMethod yX0_kindAt, Cond.selects RX0 yX0_kindAt yX0_kindAt, Cond.code yX0_kindAt cX0_kindAt 2 (some .int), Cond.methodLink RX0 41 yX0_lengthAt, Cond.instanceMethod yX0_lengthAt, Cond.selects RX0 yX0_lengthAt yX0_lengthAt, Cond.code yX0_lengthAt cX0_lengthAt 2 (some .int), Cond.fieldLink RX0 20 "SqueezedVolume$Directory" "lengths" "LSqueezedVolume$Row;", Cond.methodLink RX0 44 yX0_nameAt, Cond.instanceMethod yX0_nameAt, Cond.selects RX0 yX0_nameAt yX0_nameAt]
def wsL_rename_r4 : List Cond := [Cond.code yX0_nameAt cX0_nameAt 2 (some .int), Cond.methodLink RX0 47 yX0_handleAt, Cond.instanceMethod yX0_handleAt, Cond.selects RX0 yX0_handleAt yX0_handleAt, Cond.code yX0_handleAt cX0_handleAt 2 (some .int), Cond.fieldLink RX0 26 "SqueezedVolume$Directory" "handles" "LSqueezedVolume$Row;", Cond.methodLink RX0 33 yX0_add, Cond.instanceMethod yX0_add, Cond.selects RX0 yX0_add yX0_add, Cond.code yX0_add cX0_add 6 none, Cond.methodLink RX0 53 yX2_set, Cond.instanceMethod yX2_set, Cond.selects RX2 yX2_set yX2_set, Cond.code yX2_set cX2_set 3 none, Cond.methodLink RX3 105 yX0_lengthAt, Cond.methodLink RX3 134 yX0_add, Cond.methodLink RX3 137 yX0_count, Cond.instanceMethod yX0_count, Cond.selects RX0 yX0_count yX0_count, Cond.code yX0_count cX0_count 1 (some .int), Cond.methodLink RX3 87 yX3_change, Cond.instanceMethod yX3_change, Cond.selects RX3 yX3_change yX3_change, Cond.code yX3_change cX3_change 3 (some .boolean)]
def wsL_rename_r5 : List Cond := [Cond.methodLink RX3 207 yX1_countWrite, Cond.instanceMethod yX1_countWrite, Cond.selects RX1 yX1_countWrite yX1_countWrite, Cond.code yX1_countWrite cX1_countWrite 1 (some .boolean), Cond.fieldLink RX1 15 "SqueezedVolume$Power" "left" "I", Cond.fieldLink RX1 19 "SqueezedVolume$Power" "count" "I", Cond.methodLink RX3 210 yX0_takeOver, Cond.instanceMethod yX0_takeOver, Cond.selects RX0 yX0_takeOver yX0_takeOver, Cond.code yX0_takeOver cX0_takeOver 2 none, Cond.methodLink RX0 57 yX2_takeOver, Cond.instanceMethod yX2_takeOver, Cond.selects RX2 yX2_takeOver yX2_takeOver, Cond.code yX2_takeOver cX2_takeOver 3 none, Cond.methodLink RX2 19 yX2_at]
def wsL_rename : List Cond := .codeWith yL_rename cL_rename 5 (some .int) [(0, 10, 13, 13), (0, 10, 17, 15), (0, 10, 21, 23), (0, 10, 25, 17)] :: ((wsL_rename_r1 ++ (wsL_rename_r2 ++ (wsL_rename_r3 ++ (wsL_rename_r4 ++ wsL_rename_r5)))) ++ wsX30 ++ wsX10 ++ wsX00 ++ wsX20 ++ (vx_atS RX3 79 "java/lang/UnsupportedOperationException" ["java/lang/RuntimeException", "java/lang/Exception"]).filter goodWord ++ (vx_atS RX3 67 "java/lang/IllegalStateException" ["java/lang/RuntimeException", "java/lang/Exception"]).filter goodWord ++ (vx_atS RX3 56 "java/lang/IllegalArgumentException" ["java/lang/RuntimeException", "java/lang/Exception"]).filter goodWord ++ (vx_atS RX3 200 "java/util/NoSuchElementException" ["java/lang/RuntimeException", "java/lang/Exception"]).filter goodWord)
def wsL_read_r1 : List Cond := [Cond.classLink RL 13 "java/lang/IllegalStateException", Cond.classLink RL 23 "java/util/NoSuchElementException", Cond.classLink RL 15 "java/lang/IllegalArgumentException", Cond.methodLink RL 38 yX3_read, Cond.instanceMethod yX3_read, Cond.selects RX3 yX3_read yX3_read, Cond.initialized RX3, Cond.code yX3_read cX3_read 4 (some .int), Cond.fieldLink RX3 21 "SqueezedVolume" "content" "LSqueezedVolume$Row;", Cond.fieldLink RX3 28 "SqueezedVolume" "directory" "LSqueezedVolume$Directory;", Cond.methodLink RX3 46 yX3_requirePower, Cond.instanceMethod yX3_requirePower, Cond.selects RX3 yX3_requirePower yX3_requirePower, Cond.code yX3_requirePower cX3_requirePower 1 none, Cond.classLink RX3 63 "java/lang/IllegalStateException", Cond.initialized "java/lang/IllegalStateException", Cond.fieldLink RX3 10 "SqueezedVolume" "power" "LSqueezedVolume$Power;", Cond.methodLink RX3 151 yX1_isUp, Cond.instanceMethod yX1_isUp, Cond.selects RX1 yX1_isUp yX1_isUp, Cond.initialized RX1, Cond.code yX1_isUp cX1_isUp 1 (some .boolean), Cond.fieldLink RX1 9 "SqueezedVolume$Power" "up" "Z", Cond.methodLink RX3 119 yX3_requirePermanent]
def wsL_read_r2 : List Cond := [Cond.instanceMethod yX3_requirePermanent, Cond.selects RX3 yX3_requirePermanent yX3_requirePermanent, Cond.code yX3_requirePermanent cX3_requirePermanent 3 (some .int), Cond.classLink RX3 196 "java/util/NoSuchElementException", Cond.initialized "java/util/NoSuchElementException", Cond.methodLink RX3 122 yX0_findPermanent, Cond.instanceMethod yX0_findPermanent, Cond.selects RX0 yX0_findPermanent yX0_findPermanent, Cond.initialized RX0, Cond.code yX0_findPermanent cX0_findPermanent 3 (some .int), Cond.fieldLink RX0 29 "SqueezedVolume$Directory" "count" "I", Cond.fieldLink RX0 16 "SqueezedVolume$Directory" "kinds" "LSqueezedVolume$Row;", Cond.fieldLink RX0 23 "SqueezedVolume$Directory" "names" "LSqueezedVolume$Row;", Cond.methodLink RX0 50 yX2_at, Cond.instanceMethod yX2_at, Cond.selects RX2 yX2_at yX2_at, Cond.initialized RX2, Cond.code yX2_at cX2_at 2 (some .int), Cond.fieldLink RX2 13 "SqueezedVolume$Row" "cells" "[I", Cond.methodLink RX3 94 yX3_requireBlock, Cond.instanceMethod yX3_requireBlock, Cond.selects RX3 yX3_requireBlock yX3_requireBlock, Cond.code yX3_requireBlock cX3_requireBlock 3 none, Cond.classLink RX3 52 "java/lang/IllegalArgumentException"]
def wsL_read_r3 : List Cond := [Cond.initialized "java/lang/IllegalArgumentException", Cond.methodLink RX3 105 yX0_lengthAt, Cond.instanceMethod yX0_lengthAt, Cond.selects RX0 yX0_lengthAt yX0_lengthAt, Cond.code yX0_lengthAt cX0_lengthAt 2 (some .int), Cond.fieldLink RX0 20 "SqueezedVolume$Directory" "lengths" "LSqueezedVolume$Row;", Cond.methodLink RX3 98 yX0_beginAt, Cond.instanceMethod yX0_beginAt, Cond.selects RX0 yX0_beginAt yX0_beginAt, Cond.code yX0_beginAt cX0_beginAt 4 (some .int), Cond.methodLink RX3 140 yX2_at]
def wsL_read : List Cond := .codeWith yL_read cL_read 5 (some .int) [(0, 10, 13, 13), (0, 10, 17, 23), (0, 10, 21, 15)] :: ((wsL_read_r1 ++ (wsL_read_r2 ++ wsL_read_r3)) ++ wsX30 ++ wsX10 ++ wsX00 ++ wsX20 ++ (vx_atS RX3 67 "java/lang/IllegalStateException" ["java/lang/RuntimeException", "java/lang/Exception"]).filter goodWord ++ (vx_atS RX3 200 "java/util/NoSuchElementException" ["java/lang/RuntimeException", "java/lang/Exception"]).filter goodWord ++ (vx_atS RX3 56 "java/lang/IllegalArgumentException" ["java/lang/RuntimeException", "java/lang/Exception"]).filter goodWord)
def wsL_squeeze_r1 : List Cond := [Cond.classLink RL 13 "java/lang/IllegalStateException", Cond.methodLink RL 41 yX3_squeeze, Cond.instanceMethod yX3_squeeze, Cond.selects RX3 yX3_squeeze yX3_squeeze, Cond.initialized RX3, Cond.code yX3_squeeze cX3_squeeze 1 (some .int), Cond.classLink RX3 63 "java/lang/IllegalStateException", Cond.initialized "java/lang/IllegalStateException", Cond.fieldLink RX3 28 "SqueezedVolume" "directory" "LSqueezedVolume$Directory;", Cond.methodLink RX3 46 yX3_requirePower, Cond.instanceMethod yX3_requirePower, Cond.selects RX3 yX3_requirePower yX3_requirePower, Cond.code yX3_requirePower cX3_requirePower 1 none, Cond.fieldLink RX3 10 "SqueezedVolume" "power" "LSqueezedVolume$Power;", Cond.methodLink RX3 151 yX1_isUp, Cond.instanceMethod yX1_isUp, Cond.selects RX1 yX1_isUp yX1_isUp, Cond.initialized RX1, Cond.code yX1_isUp cX1_isUp 1 (some .boolean), Cond.fieldLink RX1 9 "SqueezedVolume$Power" "up" "Z", Cond.methodLink RX3 143 yX0_countOf, Cond.instanceMethod yX0_countOf, Cond.selects RX0 yX0_countOf yX0_countOf, Cond.initialized RX0]
def wsL_squeeze_r2 : List Cond := [Cond.code yX0_countOf cX0_countOf 4 (some .int), Cond.fieldLink RX0 29 "SqueezedVolume$Directory" "count" "I", Cond.fieldLink RX0 16 "SqueezedVolume$Directory" "kinds" "LSqueezedVolume$Row;", Cond.methodLink RX0 50 yX2_at, Cond.instanceMethod yX2_at, Cond.selects RX2 yX2_at yX2_at, Cond.initialized RX2, Cond.code yX2_at cX2_at 2 (some .int), Cond.fieldLink RX2 13 "SqueezedVolume$Row" "cells" "[I", Cond.methodLink RX3 148 yX3_moveAll, Cond.instanceMethod yX3_moveAll, Cond.selects RX3 yX3_moveAll yX3_moveAll, Cond.code yX3_moveAll cX3_moveAll 4 (some .int), Cond.fieldLink RX3 35 "SqueezedVolume" "squeezing" "Z", Cond.methodLink RX3 217 yX0_findGap, Cond.instanceMethod yX0_findGap, Cond.selects RX0 yX0_findGap yX0_findGap, Cond.code yX0_findGap cX0_findGap 2 (some .int), Cond.methodLink RX3 105 yX0_lengthAt, Cond.instanceMethod yX0_lengthAt, Cond.selects RX0 yX0_lengthAt yX0_lengthAt, Cond.code yX0_lengthAt cX0_lengthAt 2 (some .int), Cond.fieldLink RX0 20 "SqueezedVolume$Directory" "lengths" "LSqueezedVolume$Row;", Cond.methodLink RX3 220 yX3_moveDown]
def wsL_squeeze_r3 : List Cond := [Cond.instanceMethod yX3_moveDown, Cond.selects RX3 yX3_moveDown yX3_moveDown, Cond.code yX3_moveDown cX3_moveDown 2 (some .boolean), Cond.fieldLink RX3 39 "SqueezedVolume" "ledger" "I", Cond.methodLink RX3 224 yX3_copyDown, Cond.instanceMethod yX3_copyDown, Cond.selects RX3 yX3_copyDown yX3_copyDown, Cond.code yX3_copyDown cX3_copyDown 7 (some .boolean), Cond.methodLink RX3 230 Lib.Math.min.name, Cond.static Lib.Math.min.name, Cond.initialized "java/lang/Math", Cond.code Lib.Math.min.name Lib.Math.min.code 2 (some .int), Cond.methodLink RX3 236 Lib.Math.max.name, Cond.static Lib.Math.max.name, Cond.code Lib.Math.max.name Lib.Math.max.code 2 (some .int), Cond.fieldLink RX3 21 "SqueezedVolume" "content" "LSqueezedVolume$Row;", Cond.methodLink RX3 98 yX0_beginAt, Cond.instanceMethod yX0_beginAt, Cond.selects RX0 yX0_beginAt yX0_beginAt, Cond.code yX0_beginAt cX0_beginAt 4 (some .int), Cond.methodLink RX3 239 yX3_writeLedger, Cond.instanceMethod yX3_writeLedger, Cond.selects RX3 yX3_writeLedger yX3_writeLedger, Cond.code yX3_writeLedger cX3_writeLedger 2 (some .boolean)]
def wsL_squeeze_r4 : List Cond := [Cond.methodLink RX3 207 yX1_countWrite, Cond.instanceMethod yX1_countWrite, Cond.selects RX1 yX1_countWrite yX1_countWrite, Cond.code yX1_countWrite cX1_countWrite 1 (some .boolean), Cond.fieldLink RX1 15 "SqueezedVolume$Power" "left" "I", Cond.fieldLink RX1 19 "SqueezedVolume$Power" "count" "I", Cond.methodLink RX3 140 yX2_at, Cond.methodLink RX3 101 yX3_writeBlock, Cond.instanceMethod yX3_writeBlock, Cond.selects RX3 yX3_writeBlock yX3_writeBlock, Cond.code yX3_writeBlock cX3_writeBlock 3 (some .boolean), Cond.methodLink RX3 214 yX2_set, Cond.instanceMethod yX2_set, Cond.selects RX2 yX2_set yX2_set, Cond.code yX2_set cX2_set 3 none, Cond.methodLink RX3 227 yX3_draftMovedBefore, Cond.instanceMethod yX3_draftMovedBefore, Cond.selects RX3 yX3_draftMovedBefore yX3_draftMovedBefore, Cond.code yX3_draftMovedBefore cX3_draftMovedBefore 2 none, Cond.fieldLink RX3 32 "SqueezedVolume" "draft" "LSqueezedVolume$Directory;", Cond.methodLink RX3 127 yX0_clear, Cond.instanceMethod yX0_clear, Cond.selects RX0 yX0_clear yX0_clear, Cond.code yX0_clear cX0_clear 1 none]
def wsL_squeeze_r5 : List Cond := [Cond.methodLink RX3 130 yX0_addRange, Cond.instanceMethod yX0_addRange, Cond.selects RX0 yX0_addRange yX0_addRange, Cond.code yX0_addRange cX0_addRange 5 none, Cond.methodLink RX0 37 yX0_kindAt, Cond.instanceMethod yX0_kindAt, Cond.selects RX0 yX0_kindAt yX0_kindAt, Cond.code yX0_kindAt cX0_kindAt 2 (some .int), Cond.methodLink RX0 41 yX0_lengthAt, Cond.methodLink RX0 44 yX0_nameAt, Cond.instanceMethod yX0_nameAt, Cond.selects RX0 yX0_nameAt yX0_nameAt, Cond.code yX0_nameAt cX0_nameAt 2 (some .int), Cond.fieldLink RX0 23 "SqueezedVolume$Directory" "names" "LSqueezedVolume$Row;", Cond.methodLink RX0 47 yX0_handleAt, Cond.instanceMethod yX0_handleAt, Cond.selects RX0 yX0_handleAt yX0_handleAt, Cond.code yX0_handleAt cX0_handleAt 2 (some .int), Cond.fieldLink RX0 26 "SqueezedVolume$Directory" "handles" "LSqueezedVolume$Row;", Cond.methodLink RX0 33 yX0_add, Cond.instanceMethod yX0_add, Cond.selects RX0 yX0_add yX0_add, Cond.code yX0_add cX0_add 6 none, Cond.methodLink RX0 53 yX2_set]
def wsL_squeeze_r6 : List Cond := [Cond.methodLink RX3 43 yX0_addEmpty, Cond.instanceMethod yX0_addEmpty, Cond.selects RX0 yX0_addEmpty yX0_addEmpty, Cond.code yX0_addEmpty cX0_addEmpty 2 none, Cond.methodLink RX3 137 yX0_count, Cond.instanceMethod yX0_count, Cond.selects RX0 yX0_count yX0_count, Cond.code yX0_count cX0_count 1 (some .int), Cond.methodLink RX3 87 yX3_change, Cond.instanceMethod yX3_change, Cond.selects RX3 yX3_change yX3_change, Cond.code yX3_change cX3_change 3 (some .boolean), Cond.methodLink RX3 210 yX0_takeOver, Cond.instanceMethod yX0_takeOver, Cond.selects RX0 yX0_takeOver yX0_takeOver, Cond.code yX0_takeOver cX0_takeOver 2 none, Cond.methodLink RX0 57 yX2_takeOver, Cond.instanceMethod yX2_takeOver, Cond.selects RX2 yX2_takeOver yX2_takeOver, Cond.code yX2_takeOver cX2_takeOver 3 none, Cond.methodLink RX2 19 yX2_at]
def wsL_squeeze : List Cond := .codeWith yL_squeeze cL_squeeze 3 (some .int) [(0, 8, 11, 13)] :: ((wsL_squeeze_r1 ++ (wsL_squeeze_r2 ++ (wsL_squeeze_r3 ++ (wsL_squeeze_r4 ++ (wsL_squeeze_r5 ++ wsL_squeeze_r6))))) ++ wsX30 ++ wsX10 ++ wsX00 ++ wsX20 ++ (vx_atS RX3 67 "java/lang/IllegalStateException" ["java/lang/RuntimeException", "java/lang/Exception"]).filter goodWord)
def wsL_mount_r1 : List Cond := [Cond.classLink RL 13 "java/lang/IllegalStateException", Cond.methodLink RL 45 yX3_mount, Cond.instanceMethod yX3_mount, Cond.selects RX3 yX3_mount yX3_mount, Cond.initialized RX3, Cond.code yX3_mount cX3_mount 1 (some .int), Cond.classLink RX3 63 "java/lang/IllegalStateException", Cond.initialized "java/lang/IllegalStateException", Cond.fieldLink RX3 10 "SqueezedVolume" "power" "LSqueezedVolume$Power;", Cond.fieldLink RX3 35 "SqueezedVolume" "squeezing" "Z", Cond.fieldLink RX3 28 "SqueezedVolume" "directory" "LSqueezedVolume$Directory;", Cond.methodLink RX3 151 yX1_isUp, Cond.instanceMethod yX1_isUp, Cond.selects RX1 yX1_isUp yX1_isUp, Cond.initialized RX1, Cond.code yX1_isUp cX1_isUp 1 (some .boolean), Cond.fieldLink RX1 9 "SqueezedVolume$Power" "up" "Z", Cond.methodLink RX3 156 yX1_comeAgain, Cond.instanceMethod yX1_comeAgain, Cond.selects RX1 yX1_comeAgain yX1_comeAgain, Cond.code yX1_comeAgain cX1_comeAgain 1 none, Cond.fieldLink RX1 15 "SqueezedVolume$Power" "left" "I", Cond.methodLink RX3 148 yX3_moveAll, Cond.instanceMethod yX3_moveAll]
def wsL_mount_r2 : List Cond := [Cond.selects RX3 yX3_moveAll yX3_moveAll, Cond.code yX3_moveAll cX3_moveAll 4 (some .int), Cond.methodLink RX3 217 yX0_findGap, Cond.instanceMethod yX0_findGap, Cond.selects RX0 yX0_findGap yX0_findGap, Cond.initialized RX0, Cond.code yX0_findGap cX0_findGap 2 (some .int), Cond.fieldLink RX0 29 "SqueezedVolume$Directory" "count" "I", Cond.fieldLink RX0 16 "SqueezedVolume$Directory" "kinds" "LSqueezedVolume$Row;", Cond.methodLink RX0 50 yX2_at, Cond.instanceMethod yX2_at, Cond.selects RX2 yX2_at yX2_at, Cond.initialized RX2, Cond.code yX2_at cX2_at 2 (some .int), Cond.fieldLink RX2 13 "SqueezedVolume$Row" "cells" "[I", Cond.methodLink RX3 105 yX0_lengthAt, Cond.instanceMethod yX0_lengthAt, Cond.selects RX0 yX0_lengthAt yX0_lengthAt, Cond.code yX0_lengthAt cX0_lengthAt 2 (some .int), Cond.fieldLink RX0 20 "SqueezedVolume$Directory" "lengths" "LSqueezedVolume$Row;", Cond.methodLink RX3 220 yX3_moveDown, Cond.instanceMethod yX3_moveDown, Cond.selects RX3 yX3_moveDown yX3_moveDown, Cond.code yX3_moveDown cX3_moveDown 2 (some .boolean)]
def wsL_mount_r3 : List Cond := [Cond.fieldLink RX3 39 "SqueezedVolume" "ledger" "I", Cond.methodLink RX3 224 yX3_copyDown, Cond.instanceMethod yX3_copyDown, Cond.selects RX3 yX3_copyDown yX3_copyDown, Cond.code yX3_copyDown cX3_copyDown 7 (some .boolean), Cond.methodLink RX3 230 Lib.Math.min.name, Cond.static Lib.Math.min.name, Cond.initialized "java/lang/Math", Cond.code Lib.Math.min.name Lib.Math.min.code 2 (some .int), Cond.methodLink RX3 236 Lib.Math.max.name, Cond.static Lib.Math.max.name, Cond.code Lib.Math.max.name Lib.Math.max.code 2 (some .int), Cond.fieldLink RX3 21 "SqueezedVolume" "content" "LSqueezedVolume$Row;", Cond.methodLink RX3 98 yX0_beginAt, Cond.instanceMethod yX0_beginAt, Cond.selects RX0 yX0_beginAt yX0_beginAt, Cond.code yX0_beginAt cX0_beginAt 4 (some .int), Cond.methodLink RX3 239 yX3_writeLedger, Cond.instanceMethod yX3_writeLedger, Cond.selects RX3 yX3_writeLedger yX3_writeLedger, Cond.code yX3_writeLedger cX3_writeLedger 2 (some .boolean), Cond.methodLink RX3 207 yX1_countWrite, Cond.instanceMethod yX1_countWrite, Cond.selects RX1 yX1_countWrite yX1_countWrite]
def wsL_mount_r4 : List Cond := [Cond.code yX1_countWrite cX1_countWrite 1 (some .boolean), Cond.fieldLink RX1 19 "SqueezedVolume$Power" "count" "I", Cond.methodLink RX3 140 yX2_at, Cond.methodLink RX3 101 yX3_writeBlock, Cond.instanceMethod yX3_writeBlock, Cond.selects RX3 yX3_writeBlock yX3_writeBlock, Cond.code yX3_writeBlock cX3_writeBlock 3 (some .boolean), Cond.methodLink RX3 214 yX2_set, Cond.instanceMethod yX2_set, Cond.selects RX2 yX2_set yX2_set, Cond.code yX2_set cX2_set 3 none, Cond.methodLink RX3 227 yX3_draftMovedBefore, Cond.instanceMethod yX3_draftMovedBefore, Cond.selects RX3 yX3_draftMovedBefore yX3_draftMovedBefore, Cond.code yX3_draftMovedBefore cX3_draftMovedBefore 2 none, Cond.fieldLink RX3 32 "SqueezedVolume" "draft" "LSqueezedVolume$Directory;", Cond.methodLink RX3 127 yX0_clear, Cond.instanceMethod yX0_clear, Cond.selects RX0 yX0_clear yX0_clear, Cond.code yX0_clear cX0_clear 1 none, Cond.methodLink RX3 130 yX0_addRange, Cond.instanceMethod yX0_addRange, Cond.selects RX0 yX0_addRange yX0_addRange, Cond.code yX0_addRange cX0_addRange 5 none]
def wsL_mount_r5 : List Cond := [Cond.methodLink RX0 37 yX0_kindAt, Cond.instanceMethod yX0_kindAt, Cond.selects RX0 yX0_kindAt yX0_kindAt, Cond.code yX0_kindAt cX0_kindAt 2 (some .int), Cond.methodLink RX0 41 yX0_lengthAt, Cond.methodLink RX0 44 yX0_nameAt, Cond.instanceMethod yX0_nameAt, Cond.selects RX0 yX0_nameAt yX0_nameAt, Cond.code yX0_nameAt cX0_nameAt 2 (some .int), Cond.fieldLink RX0 23 "SqueezedVolume$Directory" "names" "LSqueezedVolume$Row;", Cond.methodLink RX0 47 yX0_handleAt, Cond.instanceMethod yX0_handleAt, Cond.selects RX0 yX0_handleAt yX0_handleAt, Cond.code yX0_handleAt cX0_handleAt 2 (some .int), Cond.fieldLink RX0 26 "SqueezedVolume$Directory" "handles" "LSqueezedVolume$Row;", Cond.methodLink RX0 33 yX0_add, Cond.instanceMethod yX0_add, Cond.selects RX0 yX0_add yX0_add, Cond.code yX0_add cX0_add 6 none, Cond.methodLink RX0 53 yX2_set, Cond.methodLink RX3 43 yX0_addEmpty, Cond.instanceMethod yX0_addEmpty, Cond.selects RX0 yX0_addEmpty yX0_addEmpty, Cond.code yX0_addEmpty cX0_addEmpty 2 none]
def wsL_mount_r6 : List Cond := [Cond.methodLink RX3 137 yX0_count, Cond.instanceMethod yX0_count, Cond.selects RX0 yX0_count yX0_count, Cond.code yX0_count cX0_count 1 (some .int), Cond.methodLink RX3 87 yX3_change, Cond.instanceMethod yX3_change, Cond.selects RX3 yX3_change yX3_change, Cond.code yX3_change cX3_change 3 (some .boolean), Cond.methodLink RX3 210 yX0_takeOver, Cond.instanceMethod yX0_takeOver, Cond.selects RX0 yX0_takeOver yX0_takeOver, Cond.code yX0_takeOver cX0_takeOver 2 none, Cond.methodLink RX0 57 yX2_takeOver, Cond.instanceMethod yX2_takeOver, Cond.selects RX2 yX2_takeOver yX2_takeOver, Cond.code yX2_takeOver cX2_takeOver 3 none, Cond.methodLink RX2 19 yX2_at, Cond.methodLink RX3 143 yX0_countOf, Cond.instanceMethod yX0_countOf, Cond.selects RX0 yX0_countOf yX0_countOf, Cond.code yX0_countOf cX0_countOf 4 (some .int), Cond.methodLink RX3 159 yX3_draftWithoutTentative, Cond.instanceMethod yX3_draftWithoutTentative, Cond.selects RX3 yX3_draftWithoutTentative yX3_draftWithoutTentative]
def wsL_mount_r7 : List Cond := [Cond.code yX3_draftWithoutTentative cX3_draftWithoutTentative 2 none, Cond.methodLink RX3 174 yX0_kindAt]
def wsL_mount : List Cond := .codeWith yL_mount cL_mount 3 (some .int) [(0, 8, 11, 13)] :: ((wsL_mount_r1 ++ (wsL_mount_r2 ++ (wsL_mount_r3 ++ (wsL_mount_r4 ++ (wsL_mount_r5 ++ (wsL_mount_r6 ++ wsL_mount_r7)))))) ++ wsX30 ++ wsX10 ++ wsX00 ++ wsX20 ++ (vx_atS RX3 67 "java/lang/IllegalStateException" ["java/lang/RuntimeException", "java/lang/Exception"]).filter goodWord)
def wsL_cutAfter_r1 : List Cond := [Cond.classLink RL 13 "java/lang/IllegalStateException", Cond.classLink RL 15 "java/lang/IllegalArgumentException", Cond.methodLink RL 48 yX3_cutAfter, Cond.instanceMethod yX3_cutAfter, Cond.selects RX3 yX3_cutAfter yX3_cutAfter, Cond.initialized RX3, Cond.code yX3_cutAfter cX3_cutAfter 2 none, Cond.classLink RX3 52 "java/lang/IllegalArgumentException", Cond.initialized "java/lang/IllegalArgumentException", Cond.fieldLink RX3 10 "SqueezedVolume" "power" "LSqueezedVolume$Power;", Cond.methodLink RX3 46 yX3_requirePower, Cond.instanceMethod yX3_requirePower, Cond.selects RX3 yX3_requirePower yX3_requirePower, Cond.code yX3_requirePower cX3_requirePower 1 none, Cond.classLink RX3 63 "java/lang/IllegalStateException", Cond.initialized "java/lang/IllegalStateException", Cond.methodLink RX3 151 yX1_isUp, Cond.instanceMethod yX1_isUp, Cond.selects RX1 yX1_isUp yX1_isUp, Cond.initialized RX1, Cond.code yX1_isUp cX1_isUp 1 (some .boolean), Cond.fieldLink RX1 9 "SqueezedVolume$Power" "up" "Z", Cond.methodLink RX3 164 yX1_failAfter, Cond.instanceMethod yX1_failAfter]
def wsL_cutAfter_r2 : List Cond := [Cond.selects RX1 yX1_failAfter yX1_failAfter, Cond.code yX1_failAfter cX1_failAfter 2 none, Cond.fieldLink RX1 15 "SqueezedVolume$Power" "left" "I"]
def wsL_cutAfter : List Cond := .codeWith yL_cutAfter cL_cutAfter 3 (some .int) [(0, 5, 8, 13), (0, 5, 11, 15)] :: ((wsL_cutAfter_r1 ++ wsL_cutAfter_r2) ++ wsX30 ++ wsX10 ++ (vx_atS RX3 56 "java/lang/IllegalArgumentException" ["java/lang/RuntimeException", "java/lang/Exception"]).filter goodWord ++ (vx_atS RX3 67 "java/lang/IllegalStateException" ["java/lang/RuntimeException", "java/lang/Exception"]).filter goodWord)
def wsL_entry_r1 : List Cond := [Cond.classLink RL 13 "java/lang/IllegalStateException", Cond.classLink RL 15 "java/lang/IllegalArgumentException", Cond.classLink RL 55 "java/lang/IndexOutOfBoundsException", Cond.methodLink RL 52 yX3_entry, Cond.instanceMethod yX3_entry, Cond.selects RX3 yX3_entry yX3_entry, Cond.initialized RX3, Cond.code yX3_entry cX3_entry 3 (some .int), Cond.classLink RX3 52 "java/lang/IllegalArgumentException", Cond.initialized "java/lang/IllegalArgumentException", Cond.classLink RX3 169 "java/lang/IndexOutOfBoundsException", Cond.initialized "java/lang/IndexOutOfBoundsException", Cond.fieldLink RX3 28 "SqueezedVolume" "directory" "LSqueezedVolume$Directory;", Cond.methodLink RX3 46 yX3_requirePower, Cond.instanceMethod yX3_requirePower, Cond.selects RX3 yX3_requirePower yX3_requirePower, Cond.code yX3_requirePower cX3_requirePower 1 none, Cond.classLink RX3 63 "java/lang/IllegalStateException", Cond.initialized "java/lang/IllegalStateException", Cond.fieldLink RX3 10 "SqueezedVolume" "power" "LSqueezedVolume$Power;", Cond.methodLink RX3 151 yX1_isUp, Cond.instanceMethod yX1_isUp, Cond.selects RX1 yX1_isUp yX1_isUp, Cond.initialized RX1]
def wsL_entry_r2 : List Cond := [Cond.code yX1_isUp cX1_isUp 1 (some .boolean), Cond.fieldLink RX1 9 "SqueezedVolume$Power" "up" "Z", Cond.methodLink RX3 137 yX0_count, Cond.instanceMethod yX0_count, Cond.selects RX0 yX0_count yX0_count, Cond.initialized RX0, Cond.code yX0_count cX0_count 1 (some .int), Cond.fieldLink RX0 29 "SqueezedVolume$Directory" "count" "I", Cond.methodLink RX3 174 yX0_kindAt, Cond.instanceMethod yX0_kindAt, Cond.selects RX0 yX0_kindAt yX0_kindAt, Cond.code yX0_kindAt cX0_kindAt 2 (some .int), Cond.fieldLink RX0 16 "SqueezedVolume$Directory" "kinds" "LSqueezedVolume$Row;", Cond.methodLink RX0 50 yX2_at, Cond.instanceMethod yX2_at, Cond.selects RX2 yX2_at yX2_at, Cond.initialized RX2, Cond.code yX2_at cX2_at 2 (some .int), Cond.fieldLink RX2 13 "SqueezedVolume$Row" "cells" "[I", Cond.methodLink RX3 98 yX0_beginAt, Cond.instanceMethod yX0_beginAt, Cond.selects RX0 yX0_beginAt yX0_beginAt, Cond.code yX0_beginAt cX0_beginAt 4 (some .int), Cond.fieldLink RX0 20 "SqueezedVolume$Directory" "lengths" "LSqueezedVolume$Row;"]
def wsL_entry_r3 : List Cond := [Cond.methodLink RX3 105 yX0_lengthAt, Cond.instanceMethod yX0_lengthAt, Cond.selects RX0 yX0_lengthAt yX0_lengthAt, Cond.code yX0_lengthAt cX0_lengthAt 2 (some .int), Cond.methodLink RX3 177 yX0_nameAt, Cond.instanceMethod yX0_nameAt, Cond.selects RX0 yX0_nameAt yX0_nameAt, Cond.code yX0_nameAt cX0_nameAt 2 (some .int), Cond.fieldLink RX0 23 "SqueezedVolume$Directory" "names" "LSqueezedVolume$Row;"]
def wsL_entry : List Cond := .codeWith yL_entry cL_entry 5 (some .int) [(0, 10, 13, 13), (0, 10, 17, 15), (0, 10, 21, 55)] :: ((wsL_entry_r1 ++ (wsL_entry_r2 ++ wsL_entry_r3)) ++ wsX30 ++ wsX10 ++ wsX00 ++ wsX20 ++ (vx_atS RX3 56 "java/lang/IllegalArgumentException" ["java/lang/RuntimeException", "java/lang/Exception"]).filter goodWord ++ (vx_atS RX3 173 "java/lang/IndexOutOfBoundsException" ["java/lang/RuntimeException", "java/lang/Exception"]).filter goodWord ++ (vx_atS RX3 67 "java/lang/IllegalStateException" ["java/lang/RuntimeException", "java/lang/Exception"]).filter goodWord)
def wsL_entries_r1 : List Cond := [Cond.classLink RL 13 "java/lang/IllegalStateException", Cond.methodLink RL 57 yX3_entries, Cond.instanceMethod yX3_entries, Cond.selects RX3 yX3_entries yX3_entries, Cond.initialized RX3, Cond.code yX3_entries cX3_entries 1 (some .int), Cond.fieldLink RX3 28 "SqueezedVolume" "directory" "LSqueezedVolume$Directory;", Cond.methodLink RX3 46 yX3_requirePower, Cond.instanceMethod yX3_requirePower, Cond.selects RX3 yX3_requirePower yX3_requirePower, Cond.code yX3_requirePower cX3_requirePower 1 none, Cond.classLink RX3 63 "java/lang/IllegalStateException", Cond.initialized "java/lang/IllegalStateException", Cond.fieldLink RX3 10 "SqueezedVolume" "power" "LSqueezedVolume$Power;", Cond.methodLink RX3 151 yX1_isUp, Cond.instanceMethod yX1_isUp, Cond.selects RX1 yX1_isUp yX1_isUp, Cond.initialized RX1, Cond.code yX1_isUp cX1_isUp 1 (some .boolean), Cond.fieldLink RX1 9 "SqueezedVolume$Power" "up" "Z", Cond.methodLink RX3 137 yX0_count, Cond.instanceMethod yX0_count, Cond.selects RX0 yX0_count yX0_count, Cond.initialized RX0]
def wsL_entries_r2 : List Cond := [Cond.code yX0_count cX0_count 1 (some .int), Cond.fieldLink RX0 29 "SqueezedVolume$Directory" "count" "I"]
def wsL_entries : List Cond := .codeWith yL_entries cL_entries 3 (some .int) [(0, 8, 11, 13)] :: ((wsL_entries_r1 ++ wsL_entries_r2) ++ wsX30 ++ wsX10 ++ wsX00 ++ (vx_atS RX3 67 "java/lang/IllegalStateException" ["java/lang/RuntimeException", "java/lang/Exception"]).filter goodWord)
def wsL_free_r1 : List Cond := [Cond.classLink RL 13 "java/lang/IllegalStateException", Cond.methodLink RL 60 yX3_free, Cond.instanceMethod yX3_free, Cond.selects RX3 yX3_free yX3_free, Cond.initialized RX3, Cond.code yX3_free cX3_free 2 (some .int), Cond.fieldLink RX3 28 "SqueezedVolume" "directory" "LSqueezedVolume$Directory;", Cond.methodLink RX3 46 yX3_requirePower, Cond.instanceMethod yX3_requirePower, Cond.selects RX3 yX3_requirePower yX3_requirePower, Cond.code yX3_requirePower cX3_requirePower 1 none, Cond.classLink RX3 63 "java/lang/IllegalStateException", Cond.initialized "java/lang/IllegalStateException", Cond.fieldLink RX3 10 "SqueezedVolume" "power" "LSqueezedVolume$Power;", Cond.methodLink RX3 151 yX1_isUp, Cond.instanceMethod yX1_isUp, Cond.selects RX1 yX1_isUp yX1_isUp, Cond.initialized RX1, Cond.code yX1_isUp cX1_isUp 1 (some .boolean), Cond.fieldLink RX1 9 "SqueezedVolume$Power" "up" "Z", Cond.methodLink RX3 180 yX0_longestEmpty, Cond.instanceMethod yX0_longestEmpty, Cond.selects RX0 yX0_longestEmpty yX0_longestEmpty, Cond.initialized RX0]
def wsL_free_r2 : List Cond := [Cond.code yX0_longestEmpty cX0_longestEmpty 3 (some .int), Cond.fieldLink RX0 29 "SqueezedVolume$Directory" "count" "I", Cond.fieldLink RX0 16 "SqueezedVolume$Directory" "kinds" "LSqueezedVolume$Row;", Cond.fieldLink RX0 20 "SqueezedVolume$Directory" "lengths" "LSqueezedVolume$Row;", Cond.methodLink RX0 70 Lib.Math.max.name, Cond.static Lib.Math.max.name, Cond.initialized "java/lang/Math", Cond.code Lib.Math.max.name Lib.Math.max.code 2 (some .int), Cond.methodLink RX0 50 yX2_at, Cond.instanceMethod yX2_at, Cond.selects RX2 yX2_at yX2_at, Cond.initialized RX2, Cond.code yX2_at cX2_at 2 (some .int), Cond.fieldLink RX2 13 "SqueezedVolume$Row" "cells" "[I", Cond.methodLink RX3 113 yX0_emptyBlocks, Cond.instanceMethod yX0_emptyBlocks, Cond.selects RX0 yX0_emptyBlocks yX0_emptyBlocks, Cond.code yX0_emptyBlocks cX0_emptyBlocks 3 (some .int)]
def wsL_free : List Cond := .codeWith yL_free cL_free 4 (some .int) [(0, 9, 12, 13)] :: ((wsL_free_r1 ++ wsL_free_r2) ++ wsX30 ++ wsX10 ++ wsX00 ++ wsX20 ++ (vx_atS RX3 67 "java/lang/IllegalStateException" ["java/lang/RuntimeException", "java/lang/Exception"]).filter goodWord)
def wsL_handle_r1 : List Cond := [Cond.classLink RL 13 "java/lang/IllegalStateException", Cond.methodLink RL 64 yX3_handle, Cond.instanceMethod yX3_handle, Cond.selects RX3 yX3_handle yX3_handle, Cond.initialized RX3, Cond.code yX3_handle cX3_handle 2 (some .int), Cond.fieldLink RX3 28 "SqueezedVolume" "directory" "LSqueezedVolume$Directory;", Cond.methodLink RX3 46 yX3_requirePower, Cond.instanceMethod yX3_requirePower, Cond.selects RX3 yX3_requirePower yX3_requirePower, Cond.code yX3_requirePower cX3_requirePower 1 none, Cond.classLink RX3 63 "java/lang/IllegalStateException", Cond.initialized "java/lang/IllegalStateException", Cond.fieldLink RX3 10 "SqueezedVolume" "power" "LSqueezedVolume$Power;", Cond.methodLink RX3 151 yX1_isUp, Cond.instanceMethod yX1_isUp, Cond.selects RX1 yX1_isUp yX1_isUp, Cond.initialized RX1, Cond.code yX1_isUp cX1_isUp 1 (some .boolean), Cond.fieldLink RX1 9 "SqueezedVolume$Power" "up" "Z", Cond.methodLink RX3 183 yX0_leastHandleOf, Cond.instanceMethod yX0_leastHandleOf, Cond.selects RX0 yX0_leastHandleOf yX0_leastHandleOf, Cond.initialized RX0]
def wsL_handle_r2 : List Cond := [Cond.code yX0_leastHandleOf cX0_leastHandleOf 4 (some .int), Cond.fieldLink RX0 23 "SqueezedVolume$Directory" "names" "LSqueezedVolume$Row;", Cond.methodLink RX0 61 yX0_findTentative, Cond.instanceMethod yX0_findTentative, Cond.selects RX0 yX0_findTentative yX0_findTentative, Cond.code yX0_findTentative cX0_findTentative 3 (some .int), Cond.fieldLink RX0 29 "SqueezedVolume$Directory" "count" "I", Cond.fieldLink RX0 16 "SqueezedVolume$Directory" "kinds" "LSqueezedVolume$Row;", Cond.fieldLink RX0 26 "SqueezedVolume$Directory" "handles" "LSqueezedVolume$Row;", Cond.methodLink RX0 50 yX2_at, Cond.instanceMethod yX2_at, Cond.selects RX2 yX2_at yX2_at, Cond.initialized RX2, Cond.code yX2_at cX2_at 2 (some .int), Cond.fieldLink RX2 13 "SqueezedVolume$Row" "cells" "[I"]
def wsL_handle : List Cond := .codeWith yL_handle cL_handle 4 (some .int) [(0, 9, 12, 13)] :: ((wsL_handle_r1 ++ wsL_handle_r2) ++ wsX30 ++ wsX10 ++ wsX00 ++ wsX20 ++ (vx_atS RX3 67 "java/lang/IllegalStateException" ["java/lang/RuntimeException", "java/lang/Exception"]).filter goodWord)
def wsL_law0_r1 : List Cond := [Cond.classLink RL 8 RX3, Cond.instantiable RX3 6, Cond.initialized RX3, Cond.classLink RL 68 RX4, Cond.instantiable RX4 20, Cond.initialized RX4, Cond.arrayClass .long, Cond.methodLink RL 67 yX3_init, Cond.instanceMethod yX3_init, Cond.code yX3_init cX3_init 1 none, Cond.methodLink RX3 1 objectInit, Cond.instanceMethod objectInit, Cond.code objectInit ⟨#[0xb1]⟩ 1 none, Cond.classLink RX3 7 RX1, Cond.instantiable RX1 3, Cond.initialized RX1, Cond.fieldLink RX3 10 "SqueezedVolume" "power" "LSqueezedVolume$Power;", Cond.classLink RX3 16 RX2, Cond.instantiable RX2 1, Cond.initialized RX2, Cond.fieldLink RX3 21 "SqueezedVolume" "content" "LSqueezedVolume$Row;", Cond.classLink RX3 25 RX0, Cond.instantiable RX0 5, Cond.initialized RX0]
def wsL_law0_r2 : List Cond := [Cond.fieldLink RX3 28 "SqueezedVolume" "directory" "LSqueezedVolume$Directory;", Cond.fieldLink RX3 32 "SqueezedVolume" "draft" "LSqueezedVolume$Directory;", Cond.fieldLink RX3 35 "SqueezedVolume" "squeezing" "Z", Cond.fieldLink RX3 39 "SqueezedVolume" "ledger" "I", Cond.methodLink RX3 9 yX1_init, Cond.instanceMethod yX1_init, Cond.code yX1_init cX1_init 1 none, Cond.methodLink RX1 3 objectInit, Cond.fieldLink RX1 9 "SqueezedVolume$Power" "up" "Z", Cond.fieldLink RX1 15 "SqueezedVolume$Power" "left" "I", Cond.fieldLink RX1 19 "SqueezedVolume$Power" "count" "I", Cond.methodLink RX3 18 yX2_init, Cond.instanceMethod yX2_init, Cond.code yX2_init cX2_init 2 none, Cond.methodLink RX2 1 objectInit, Cond.methodLink RX2 7 Lib.Math.max.name, Cond.static Lib.Math.max.name, Cond.initialized "java/lang/Math", Cond.code Lib.Math.max.name Lib.Math.max.code 2 (some .int), Cond.arrayClass .int, Cond.fieldLink RX2 13 "SqueezedVolume$Row" "cells" "[I", Cond.methodLink RX3 27 yX0_init, Cond.instanceMethod yX0_init, Cond.code yX0_init cX0_init 1 none]
def wsL_law0_r3 : List Cond := [Cond.methodLink RX0 3 objectInit, Cond.classLink RX0 9 RX2, Cond.fieldLink RX0 16 "SqueezedVolume$Directory" "kinds" "LSqueezedVolume$Row;", Cond.fieldLink RX0 20 "SqueezedVolume$Directory" "lengths" "LSqueezedVolume$Row;", Cond.fieldLink RX0 23 "SqueezedVolume$Directory" "names" "LSqueezedVolume$Row;", Cond.fieldLink RX0 26 "SqueezedVolume$Directory" "handles" "LSqueezedVolume$Row;", Cond.fieldLink RX0 29 "SqueezedVolume$Directory" "count" "I", Cond.methodLink RX0 13 yX2_init, Cond.methodLink RX3 43 yX0_addEmpty, Cond.instanceMethod yX0_addEmpty, Cond.selects RX0 yX0_addEmpty yX0_addEmpty, Cond.code yX0_addEmpty cX0_addEmpty 2 none, Cond.methodLink RX0 33 yX0_add, Cond.instanceMethod yX0_add, Cond.selects RX0 yX0_add yX0_add, Cond.code yX0_add cX0_add 6 none, Cond.methodLink RX0 50 yX2_at, Cond.instanceMethod yX2_at, Cond.selects RX2 yX2_at yX2_at, Cond.code yX2_at cX2_at 2 (some .int), Cond.methodLink RX0 53 yX2_set, Cond.instanceMethod yX2_set, Cond.selects RX2 yX2_set yX2_set, Cond.code yX2_set cX2_set 3 none]
def wsL_law0_r4 : List Cond := [Cond.methodLink RL 70 yX4_init, Cond.instanceMethod yX4_init, Cond.code yX4_init cX4_init 1 none, Cond.methodLink RX4 1 objectInit, Cond.fieldLink RX4 7 "SqueezedVolumeModel" "on" "Z", Cond.fieldLink RX4 13 "SqueezedVolumeModel" "left" "I", Cond.fieldLink RX4 17 "SqueezedVolumeModel" "ints" "[I", Cond.fieldLink RX4 21 "SqueezedVolumeModel" "owner" "[I", Cond.fieldLink RX4 24 "SqueezedVolumeModel" "next" "[I", Cond.fieldLink RX4 27 "SqueezedVolumeModel" "kind" "[I", Cond.fieldLink RX4 30 "SqueezedVolumeModel" "name" "[I", Cond.fieldLink RX4 33 "SqueezedVolumeModel" "handle" "[I", Cond.methodLink RL 71 yL_enter, Cond.static yL_enter, Cond.initialized RL, Cond.codeWith yL_enter cL_enter 5 (some .int) [(0, 10, 13, 13), (0, 10, 17, 15), (0, 10, 21, 17)], Cond.classLink RL 13 "java/lang/IllegalStateException", Cond.classLink RL 15 "java/lang/IllegalArgumentException", Cond.classLink RL 17 "java/lang/UnsupportedOperationException", Cond.methodLink RL 7 yX3_enter, Cond.instanceMethod yX3_enter, Cond.selects RX3 yX3_enter yX3_enter, Cond.code yX3_enter cX3_enter 6 (some .int), Cond.classLink RX3 52 "java/lang/IllegalArgumentException"]
def wsL_law0_r5 : List Cond := [Cond.initialized "java/lang/IllegalArgumentException", Cond.classLink RX3 63 "java/lang/IllegalStateException", Cond.initialized "java/lang/IllegalStateException", Cond.classLink RX3 75 "java/lang/UnsupportedOperationException", Cond.initialized "java/lang/UnsupportedOperationException", Cond.methodLink RX3 46 yX3_requirePower, Cond.instanceMethod yX3_requirePower, Cond.selects RX3 yX3_requirePower yX3_requirePower, Cond.code yX3_requirePower cX3_requirePower 1 none, Cond.methodLink RX3 151 yX1_isUp, Cond.instanceMethod yX1_isUp, Cond.selects RX1 yX1_isUp yX1_isUp, Cond.code yX1_isUp cX1_isUp 1 (some .boolean), Cond.methodLink RX3 49 yX3_requireName, Cond.instanceMethod yX3_requireName, Cond.selects RX3 yX3_requireName yX3_requireName, Cond.code yX3_requireName cX3_requireName 2 none, Cond.methodLink RX3 59 yX0_leastFreeHandle, Cond.instanceMethod yX0_leastFreeHandle, Cond.selects RX0 yX0_leastFreeHandle yX0_leastFreeHandle, Cond.code yX0_leastFreeHandle cX0_leastFreeHandle 2 (some .int), Cond.methodLink RX0 61 yX0_findTentative, Cond.instanceMethod yX0_findTentative, Cond.selects RX0 yX0_findTentative yX0_findTentative]
def wsL_law0_r6 : List Cond := [Cond.code yX0_findTentative cX0_findTentative 3 (some .int), Cond.methodLink RX3 68 yX0_roomToSpare, Cond.instanceMethod yX0_roomToSpare, Cond.selects RX0 yX0_roomToSpare yX0_roomToSpare, Cond.code yX0_roomToSpare cX0_roomToSpare 5 (some .int), Cond.methodLink RX0 64 Lib.Math.min.name, Cond.static Lib.Math.min.name, Cond.code Lib.Math.min.name Lib.Math.min.code 2 (some .int), Cond.methodLink RX0 70 Lib.Math.max.name, Cond.methodLink RX3 71 yX0_findRoom, Cond.instanceMethod yX0_findRoom, Cond.selects RX0 yX0_findRoom yX0_findRoom, Cond.code yX0_findRoom cX0_findRoom 4 (some .int), Cond.methodLink RX3 80 yX3_draftOpened, Cond.instanceMethod yX3_draftOpened, Cond.selects RX3 yX3_draftOpened yX3_draftOpened, Cond.code yX3_draftOpened cX3_draftOpened 5 none, Cond.methodLink RX3 127 yX0_clear, Cond.instanceMethod yX0_clear, Cond.selects RX0 yX0_clear yX0_clear, Cond.code yX0_clear cX0_clear 1 none, Cond.methodLink RX3 130 yX0_addRange, Cond.instanceMethod yX0_addRange, Cond.selects RX0 yX0_addRange yX0_addRange]
def wsL_law0_r7 : List Cond := [Cond.code yX0_addRange cX0_addRange 5 none, Cond.methodLink RX0 37 yX0_kindAt, Cond.instanceMethod yX0_kindAt, Cond.selects RX0 yX0_kindAt yX0_kindAt, Cond.code yX0_kindAt cX0_kindAt 2 (some .int), Cond.methodLink RX0 41 yX0_lengthAt, Cond.instanceMethod yX0_lengthAt, Cond.selects RX0 yX0_lengthAt yX0_lengthAt, Cond.code yX0_lengthAt cX0_lengthAt 2 (some .int), Cond.methodLink RX0 44 yX0_nameAt, Cond.instanceMethod yX0_nameAt, Cond.selects RX0 yX0_nameAt yX0_nameAt, Cond.code yX0_nameAt cX0_nameAt 2 (some .int), Cond.methodLink RX0 47 yX0_handleAt, Cond.instanceMethod yX0_handleAt, Cond.selects RX0 yX0_handleAt yX0_handleAt, Cond.code yX0_handleAt cX0_handleAt 2 (some .int), Cond.methodLink RX3 134 yX0_add, Cond.methodLink RX3 105 yX0_lengthAt, Cond.methodLink RX3 137 yX0_count, Cond.instanceMethod yX0_count, Cond.selects RX0 yX0_count yX0_count, Cond.code yX0_count cX0_count 1 (some .int), Cond.methodLink RX3 84 yX3_requireFewEntries]
def wsL_law0_r8 : List Cond := [Cond.instanceMethod yX3_requireFewEntries, Cond.selects RX3 yX3_requireFewEntries yX3_requireFewEntries, Cond.code yX3_requireFewEntries cX3_requireFewEntries 1 none, Cond.methodLink RX3 87 yX3_change, Cond.instanceMethod yX3_change, Cond.selects RX3 yX3_change yX3_change, Cond.code yX3_change cX3_change 3 (some .boolean), Cond.methodLink RX3 207 yX1_countWrite, Cond.instanceMethod yX1_countWrite, Cond.selects RX1 yX1_countWrite yX1_countWrite, Cond.code yX1_countWrite cX1_countWrite 1 (some .boolean), Cond.methodLink RX3 210 yX0_takeOver, Cond.instanceMethod yX0_takeOver, Cond.selects RX0 yX0_takeOver yX0_takeOver, Cond.code yX0_takeOver cX0_takeOver 2 none, Cond.methodLink RX0 57 yX2_takeOver, Cond.instanceMethod yX2_takeOver, Cond.selects RX2 yX2_takeOver yX2_takeOver, Cond.code yX2_takeOver cX2_takeOver 3 none, Cond.methodLink RX2 19 yX2_at, Cond.methodLink RL 76 yX4_enter, Cond.instanceMethod yX4_enter, Cond.selects RX4 yX4_enter yX4_enter, Cond.code yX4_enter cX4_enter 7 (some .int)]
def wsL_law0_r9 : List Cond := [Cond.fieldLink RX4 36 "SqueezedVolumeModel" "code" "I", Cond.fieldLink RX4 63 "SqueezedVolumeModel" "runAt" "I", Cond.methodLink RX4 66 yX4_isName, Cond.static yX4_isName, Cond.code yX4_isName cX4_isName 1 (some .boolean), Cond.methodLink RX4 70 yX4_howMany, Cond.instanceMethod yX4_howMany, Cond.selects RX4 yX4_howMany yX4_howMany, Cond.code yX4_howMany cX4_howMany 4 (some .int), Cond.methodLink RX4 73 yX4_longest, Cond.instanceMethod yX4_longest, Cond.selects RX4 yX4_longest yX4_longest, Cond.code yX4_longest cX4_longest 6 (some .int), Cond.methodLink RX4 59 yX4_runFrom, Cond.instanceMethod yX4_runFrom, Cond.selects RX4 yX4_runFrom yX4_runFrom, Cond.code yX4_runFrom cX4_runFrom 3 (some .int), Cond.methodLink RX4 77 yX4_fit, Cond.instanceMethod yX4_fit, Cond.selects RX4 yX4_fit yX4_fit, Cond.code yX4_fit cX4_fit 4 (some .boolean), Cond.fieldLink RX4 56 "SqueezedVolumeModel" "runLength" "I", Cond.methodLink RX4 80 yX4_lay, Cond.instanceMethod yX4_lay]
def wsL_law0_r10 : List Cond := [Cond.selects RX4 yX4_lay yX4_lay, Cond.code yX4_lay cX4_lay 2 none, Cond.methodLink RX4 48 yX4_runs, Cond.instanceMethod yX4_runs, Cond.selects RX4 yX4_runs yX4_runs, Cond.code yX4_runs cX4_runs 3 (some .int), Cond.methodLink RX4 83 yX4_change, Cond.instanceMethod yX4_change, Cond.selects RX4 yX4_change yX4_change, Cond.code yX4_change cX4_change 3 (some .boolean), Cond.methodLink RX4 52 yX4_write, Cond.instanceMethod yX4_write, Cond.selects RX4 yX4_write yX4_write, Cond.code yX4_write cX4_write 1 (some .boolean), Cond.fieldLink RX4 39 "SqueezedVolumeModel" "writes" "I", Cond.fieldLink RX4 42 "SqueezedVolumeModel" "squeezing" "Z", Cond.fieldLink RX4 45 "SqueezedVolumeModel" "within" "Z", Cond.methodLink RX4 86 yX4_byHandle, Cond.instanceMethod yX4_byHandle, Cond.selects RX4 yX4_byHandle yX4_byHandle, Cond.code yX4_byHandle cX4_byHandle 4 (some .int), Cond.methodLink RL 77 yX4_thrown, Cond.instanceMethod yX4_thrown, Cond.selects RX4 yX4_thrown yX4_thrown]
def wsL_law0_r11 : List Cond := [Cond.code yX4_thrown cX4_thrown 1 (some .int), Cond.methodLink RL 80 yL_put, Cond.static yL_put, Cond.codeWith yL_put cL_put 6 (some .int) [(0, 12, 15, 13), (0, 12, 19, 23), (0, 12, 23, 15)], Cond.classLink RL 23 "java/util/NoSuchElementException", Cond.methodLink RL 19 yX3_put, Cond.instanceMethod yX3_put, Cond.selects RX3 yX3_put yX3_put, Cond.code yX3_put cX3_put 5 (some .int), Cond.methodLink RX3 91 yX3_requireTentative, Cond.instanceMethod yX3_requireTentative, Cond.selects RX3 yX3_requireTentative yX3_requireTentative, Cond.code yX3_requireTentative cX3_requireTentative 3 (some .int), Cond.classLink RX3 196 "java/util/NoSuchElementException", Cond.initialized "java/util/NoSuchElementException", Cond.methodLink RX3 193 yX0_findTentative, Cond.methodLink RX3 94 yX3_requireBlock, Cond.instanceMethod yX3_requireBlock, Cond.selects RX3 yX3_requireBlock yX3_requireBlock, Cond.code yX3_requireBlock cX3_requireBlock 3 none, Cond.methodLink RX3 98 yX0_beginAt, Cond.instanceMethod yX0_beginAt, Cond.selects RX0 yX0_beginAt yX0_beginAt, Cond.code yX0_beginAt cX0_beginAt 4 (some .int)]
def wsL_law0_r12 : List Cond := [Cond.methodLink RX3 101 yX3_writeBlock, Cond.instanceMethod yX3_writeBlock, Cond.selects RX3 yX3_writeBlock yX3_writeBlock, Cond.code yX3_writeBlock cX3_writeBlock 3 (some .boolean), Cond.methodLink RX3 214 yX2_set, Cond.methodLink RL 83 yX4_put, Cond.instanceMethod yX4_put, Cond.selects RX4 yX4_put yX4_put, Cond.code yX4_put cX4_put 5 (some .int), Cond.methodLink RX4 89 yX4_lengthOf, Cond.instanceMethod yX4_lengthOf, Cond.selects RX4 yX4_lengthOf yX4_lengthOf, Cond.code yX4_lengthOf cX4_lengthOf 4 (some .int), Cond.methodLink RX4 92 yX4_beginOf, Cond.instanceMethod yX4_beginOf, Cond.selects RX4 yX4_beginOf yX4_beginOf, Cond.code yX4_beginOf cX4_beginOf 4 (some .int), Cond.methodLink RL 84 yL_close, Cond.static yL_close, Cond.codeWith yL_close cL_close 5 (some .int) [(0, 10, 13, 13), (0, 10, 17, 23), (0, 10, 21, 15), (0, 10, 25, 17)], Cond.methodLink RL 25 yX3_close, Cond.instanceMethod yX3_close, Cond.selects RX3 yX3_close yX3_close, Cond.code yX3_close cX3_close 5 (some .int)]
def wsL_law0_r13 : List Cond := [Cond.methodLink RX3 110 yX3_draftClosed, Cond.instanceMethod yX3_draftClosed, Cond.selects RX3 yX3_draftClosed yX3_draftClosed, Cond.code yX3_draftClosed cX3_draftClosed 6 none, Cond.methodLink RX3 177 yX0_nameAt, Cond.methodLink RX3 122 yX0_findPermanent, Cond.instanceMethod yX0_findPermanent, Cond.selects RX0 yX0_findPermanent yX0_findPermanent, Cond.code yX0_findPermanent cX0_findPermanent 3 (some .int), Cond.methodLink RX3 113 yX0_emptyBlocks, Cond.instanceMethod yX0_emptyBlocks, Cond.selects RX0 yX0_emptyBlocks yX0_emptyBlocks, Cond.code yX0_emptyBlocks cX0_emptyBlocks 3 (some .int), Cond.methodLink RL 86 yX4_close, Cond.instanceMethod yX4_close, Cond.selects RX4 yX4_close yX4_close, Cond.code yX4_close cX4_close 6 (some .int), Cond.methodLink RX4 95 yX4_permanent, Cond.instanceMethod yX4_permanent, Cond.selects RX4 yX4_permanent yX4_permanent, Cond.code yX4_permanent cX4_permanent 4 (some .int), Cond.methodLink RX4 98 yX4_giveUp, Cond.instanceMethod yX4_giveUp, Cond.selects RX4 yX4_giveUp yX4_giveUp]
def wsL_law0_r14 : List Cond := [Cond.code yX4_giveUp cX4_giveUp 6 none, Cond.methodLink RL 87 yL_purge, Cond.static yL_purge, Cond.codeWith yL_purge cL_purge 4 (some .int) [(0, 9, 12, 13), (0, 9, 15, 23)], Cond.methodLink RL 28 yX3_purge, Cond.instanceMethod yX3_purge, Cond.selects RX3 yX3_purge yX3_purge, Cond.code yX3_purge cX3_purge 2 (some .int), Cond.methodLink RX3 116 yX3_makeEmpty, Cond.instanceMethod yX3_makeEmpty, Cond.selects RX3 yX3_makeEmpty yX3_makeEmpty, Cond.code yX3_makeEmpty cX3_makeEmpty 3 (some .int), Cond.methodLink RL 90 yX4_purge, Cond.instanceMethod yX4_purge, Cond.selects RX4 yX4_purge yX4_purge, Cond.code yX4_purge cX4_purge 3 (some .int), Cond.methodLink RX4 102 yX4_vanish, Cond.instanceMethod yX4_vanish, Cond.selects RX4 yX4_vanish yX4_vanish, Cond.code yX4_vanish cX4_vanish 3 (some .int), Cond.methodLink RL 91 yL_delete, Cond.static yL_delete, Cond.codeWith yL_delete cL_delete 4 (some .int) [(0, 9, 12, 13), (0, 9, 15, 23)], Cond.methodLink RL 32 yX3_delete]
def wsL_law0_r15 : List Cond := [Cond.instanceMethod yX3_delete, Cond.selects RX3 yX3_delete yX3_delete, Cond.code yX3_delete cX3_delete 2 (some .int), Cond.methodLink RX3 119 yX3_requirePermanent, Cond.instanceMethod yX3_requirePermanent, Cond.selects RX3 yX3_requirePermanent yX3_requirePermanent, Cond.code yX3_requirePermanent cX3_requirePermanent 3 (some .int), Cond.methodLink RL 93 yX4_delete, Cond.instanceMethod yX4_delete, Cond.selects RX4 yX4_delete yX4_delete, Cond.code yX4_delete cX4_delete 3 (some .int), Cond.methodLink RL 94 yL_rename, Cond.static yL_rename, Cond.codeWith yL_rename cL_rename 5 (some .int) [(0, 10, 13, 13), (0, 10, 17, 15), (0, 10, 21, 23), (0, 10, 25, 17)], Cond.methodLink RL 35 yX3_rename, Cond.instanceMethod yX3_rename, Cond.selects RX3 yX3_rename yX3_rename, Cond.code yX3_rename cX3_rename 4 (some .int), Cond.methodLink RL 96 yX4_rename, Cond.instanceMethod yX4_rename, Cond.selects RX4 yX4_rename yX4_rename, Cond.code yX4_rename cX4_rename 4 (some .int), Cond.methodLink RL 97 yL_read, Cond.static yL_read]
def wsL_law0_r16 : List Cond := [Cond.codeWith yL_read cL_read 5 (some .int) [(0, 10, 13, 13), (0, 10, 17, 23), (0, 10, 21, 15)], Cond.methodLink RL 38 yX3_read, Cond.instanceMethod yX3_read, Cond.selects RX3 yX3_read yX3_read, Cond.code yX3_read cX3_read 4 (some .int), Cond.methodLink RX3 140 yX2_at, Cond.methodLink RL 99 yX4_read, Cond.instanceMethod yX4_read, Cond.selects RX4 yX4_read yX4_read, Cond.code yX4_read cX4_read 4 (some .int), Cond.methodLink RL 100 yL_squeeze, Cond.static yL_squeeze, Cond.codeWith yL_squeeze cL_squeeze 3 (some .int) [(0, 8, 11, 13)], Cond.methodLink RL 41 yX3_squeeze, Cond.instanceMethod yX3_squeeze, Cond.selects RX3 yX3_squeeze yX3_squeeze, Cond.code yX3_squeeze cX3_squeeze 1 (some .int), Cond.methodLink RX3 143 yX0_countOf, Cond.instanceMethod yX0_countOf, Cond.selects RX0 yX0_countOf yX0_countOf, Cond.code yX0_countOf cX0_countOf 4 (some .int), Cond.methodLink RX3 148 yX3_moveAll, Cond.instanceMethod yX3_moveAll, Cond.selects RX3 yX3_moveAll yX3_moveAll]
def wsL_law0_r17 : List Cond := [Cond.code yX3_moveAll cX3_moveAll 4 (some .int), Cond.methodLink RX3 217 yX0_findGap, Cond.instanceMethod yX0_findGap, Cond.selects RX0 yX0_findGap yX0_findGap, Cond.code yX0_findGap cX0_findGap 2 (some .int), Cond.methodLink RX3 220 yX3_moveDown, Cond.instanceMethod yX3_moveDown, Cond.selects RX3 yX3_moveDown yX3_moveDown, Cond.code yX3_moveDown cX3_moveDown 2 (some .boolean), Cond.methodLink RX3 224 yX3_copyDown, Cond.instanceMethod yX3_copyDown, Cond.selects RX3 yX3_copyDown yX3_copyDown, Cond.code yX3_copyDown cX3_copyDown 7 (some .boolean), Cond.methodLink RX3 230 Lib.Math.min.name, Cond.methodLink RX3 236 Lib.Math.max.name, Cond.methodLink RX3 239 yX3_writeLedger, Cond.instanceMethod yX3_writeLedger, Cond.selects RX3 yX3_writeLedger yX3_writeLedger, Cond.code yX3_writeLedger cX3_writeLedger 2 (some .boolean), Cond.methodLink RX3 227 yX3_draftMovedBefore, Cond.instanceMethod yX3_draftMovedBefore, Cond.selects RX3 yX3_draftMovedBefore yX3_draftMovedBefore, Cond.code yX3_draftMovedBefore cX3_draftMovedBefore 2 none, Cond.methodLink RL 103 yX4_squeeze]
def wsL_law0_r18 : List Cond := [Cond.instanceMethod yX4_squeeze, Cond.selects RX4 yX4_squeeze yX4_squeeze, Cond.code yX4_squeeze cX4_squeeze 2 (some .int), Cond.fieldLink RX4 120 "SqueezedVolumeModel" "copied" "I", Cond.methodLink RX4 130 yX4_moveAll, Cond.instanceMethod yX4_moveAll, Cond.selects RX4 yX4_moveAll yX4_moveAll, Cond.code yX4_moveAll cX4_moveAll 1 (some .boolean), Cond.methodLink RX4 123 yX4_findMover, Cond.instanceMethod yX4_findMover, Cond.selects RX4 yX4_findMover yX4_findMover, Cond.code yX4_findMover cX4_findMover 3 (some .boolean), Cond.fieldLink RX4 105 "SqueezedVolumeModel" "mover" "I", Cond.fieldLink RX4 108 "SqueezedVolumeModel" "from" "I", Cond.fieldLink RX4 111 "SqueezedVolumeModel" "shift" "I", Cond.methodLink RX4 126 yX4_move, Cond.instanceMethod yX4_move, Cond.selects RX4 yX4_move yX4_move, Cond.code yX4_move cX4_move 7 (some .boolean), Cond.fieldLink RX4 114 "SqueezedVolumeModel" "moving" "Z", Cond.fieldLink RX4 117 "SqueezedVolumeModel" "group" "I", Cond.methodLink RL 104 yL_mount, Cond.static yL_mount, Cond.codeWith yL_mount cL_mount 3 (some .int) [(0, 8, 11, 13)]]
def wsL_law0_r19 : List Cond := [Cond.methodLink RL 45 yX3_mount, Cond.instanceMethod yX3_mount, Cond.selects RX3 yX3_mount yX3_mount, Cond.code yX3_mount cX3_mount 1 (some .int), Cond.methodLink RX3 156 yX1_comeAgain, Cond.instanceMethod yX1_comeAgain, Cond.selects RX1 yX1_comeAgain yX1_comeAgain, Cond.code yX1_comeAgain cX1_comeAgain 1 none, Cond.methodLink RX3 159 yX3_draftWithoutTentative, Cond.instanceMethod yX3_draftWithoutTentative, Cond.selects RX3 yX3_draftWithoutTentative yX3_draftWithoutTentative, Cond.code yX3_draftWithoutTentative cX3_draftWithoutTentative 2 none, Cond.methodLink RX3 174 yX0_kindAt, Cond.methodLink RL 106 yX4_mount, Cond.instanceMethod yX4_mount, Cond.selects RX4 yX4_mount yX4_mount, Cond.code yX4_mount cX4_mount 3 (some .int), Cond.methodLink RL 107 yL_cutAfter, Cond.static yL_cutAfter, Cond.codeWith yL_cutAfter cL_cutAfter 3 (some .int) [(0, 5, 8, 13), (0, 5, 11, 15)], Cond.methodLink RL 48 yX3_cutAfter, Cond.instanceMethod yX3_cutAfter, Cond.selects RX3 yX3_cutAfter yX3_cutAfter, Cond.code yX3_cutAfter cX3_cutAfter 2 none]
def wsL_law0_r20 : List Cond := [Cond.methodLink RX3 164 yX1_failAfter, Cond.instanceMethod yX1_failAfter, Cond.selects RX1 yX1_failAfter yX1_failAfter, Cond.code yX1_failAfter cX1_failAfter 2 none, Cond.methodLink RL 110 yX4_cutAfter, Cond.instanceMethod yX4_cutAfter, Cond.selects RX4 yX4_cutAfter yX4_cutAfter, Cond.code yX4_cutAfter cX4_cutAfter 2 none, Cond.methodLink RL 111 yL_entry, Cond.static yL_entry, Cond.codeWith yL_entry cL_entry 5 (some .int) [(0, 10, 13, 13), (0, 10, 17, 15), (0, 10, 21, 55)], Cond.classLink RL 55 "java/lang/IndexOutOfBoundsException", Cond.methodLink RL 52 yX3_entry, Cond.instanceMethod yX3_entry, Cond.selects RX3 yX3_entry yX3_entry, Cond.code yX3_entry cX3_entry 3 (some .int), Cond.classLink RX3 169 "java/lang/IndexOutOfBoundsException", Cond.initialized "java/lang/IndexOutOfBoundsException", Cond.methodLink RL 113 yX4_entry, Cond.instanceMethod yX4_entry, Cond.selects RX4 yX4_entry yX4_entry, Cond.code yX4_entry cX4_entry 4 (some .int), Cond.methodLink RX4 133 yX4_run, Cond.instanceMethod yX4_run]
def wsL_law0_r21 : List Cond := [Cond.selects RX4 yX4_run yX4_run, Cond.code yX4_run cX4_run 4 (some .boolean), Cond.methodLink RL 114 yL_entries, Cond.static yL_entries, Cond.codeWith yL_entries cL_entries 3 (some .int) [(0, 8, 11, 13)], Cond.methodLink RL 57 yX3_entries, Cond.instanceMethod yX3_entries, Cond.selects RX3 yX3_entries yX3_entries, Cond.code yX3_entries cX3_entries 1 (some .int), Cond.methodLink RL 116 yX4_entries, Cond.instanceMethod yX4_entries, Cond.selects RX4 yX4_entries yX4_entries, Cond.code yX4_entries cX4_entries 1 (some .int), Cond.methodLink RX4 136 yX4_runsNow, Cond.instanceMethod yX4_runsNow, Cond.selects RX4 yX4_runsNow yX4_runsNow, Cond.code yX4_runsNow cX4_runsNow 3 (some .int), Cond.methodLink RL 117 yL_free, Cond.static yL_free, Cond.codeWith yL_free cL_free 4 (some .int) [(0, 9, 12, 13)], Cond.methodLink RL 60 yX3_free, Cond.instanceMethod yX3_free, Cond.selects RX3 yX3_free yX3_free, Cond.code yX3_free cX3_free 2 (some .int)]
def wsL_law0_r22 : List Cond := [Cond.methodLink RX3 180 yX0_longestEmpty, Cond.instanceMethod yX0_longestEmpty, Cond.selects RX0 yX0_longestEmpty yX0_longestEmpty, Cond.code yX0_longestEmpty cX0_longestEmpty 3 (some .int), Cond.methodLink RL 120 yX4_free, Cond.instanceMethod yX4_free, Cond.selects RX4 yX4_free yX4_free, Cond.code yX4_free cX4_free 2 (some .int), Cond.methodLink RL 121 yL_handle, Cond.static yL_handle, Cond.codeWith yL_handle cL_handle 4 (some .int) [(0, 9, 12, 13)], Cond.methodLink RL 64 yX3_handle, Cond.instanceMethod yX3_handle, Cond.selects RX3 yX3_handle yX3_handle, Cond.code yX3_handle cX3_handle 2 (some .int), Cond.methodLink RX3 183 yX0_leastHandleOf, Cond.instanceMethod yX0_leastHandleOf, Cond.selects RX0 yX0_leastHandleOf yX0_leastHandleOf, Cond.code yX0_leastHandleOf cX0_leastHandleOf 4 (some .int), Cond.methodLink RL 123 yX4_handle, Cond.instanceMethod yX4_handle, Cond.selects RX4 yX4_handle yX4_handle, Cond.code yX4_handle cX4_handle 5 (some .int), Cond.methodLink RL 124 yX3_writes]
def wsL_law0_r23 : List Cond := [Cond.instanceMethod yX3_writes, Cond.selects RX3 yX3_writes yX3_writes, Cond.code yX3_writes cX3_writes 1 (some .int), Cond.methodLink RX3 186 yX1_made, Cond.instanceMethod yX1_made, Cond.selects RX1 yX1_made yX1_made, Cond.code yX1_made cX1_made 1 (some .int), Cond.methodLink RL 127 yX4_writes, Cond.instanceMethod yX4_writes, Cond.selects RX4 yX4_writes yX4_writes, Cond.code yX4_writes cX4_writes 1 (some .int), Cond.methodLink RL 128 yX3_isOn, Cond.instanceMethod yX3_isOn, Cond.selects RX3 yX3_isOn yX3_isOn, Cond.code yX3_isOn cX3_isOn 1 (some .boolean), Cond.methodLink RL 132 yX4_isOn, Cond.instanceMethod yX4_isOn, Cond.selects RX4 yX4_isOn yX4_isOn, Cond.code yX4_isOn cX4_isOn 1 (some .boolean)]
def wsL_law0 : List Cond := (wsL_law0_r1 ++ (wsL_law0_r2 ++ (wsL_law0_r3 ++ (wsL_law0_r4 ++ (wsL_law0_r5 ++ (wsL_law0_r6 ++ (wsL_law0_r7 ++ (wsL_law0_r8 ++ (wsL_law0_r9 ++ (wsL_law0_r10 ++ (wsL_law0_r11 ++ (wsL_law0_r12 ++ (wsL_law0_r13 ++ (wsL_law0_r14 ++ (wsL_law0_r15 ++ (wsL_law0_r16 ++ (wsL_law0_r17 ++ (wsL_law0_r18 ++ (wsL_law0_r19 ++ (wsL_law0_r20 ++ (wsL_law0_r21 ++ (wsL_law0_r22 ++ wsL_law0_r23)))))))))))))))))))))) ++ wsX30 ++ wsX40 ++ wsX10 ++ wsX20 ++ wsX00 ++ ([] : List Cond)
def wsL_law : List Cond := wsL_law0 ++ (vx_atS RX3 56 "java/lang/IllegalArgumentException" ["java/lang/RuntimeException", "java/lang/Exception"]).filter goodWord ++ (vx_atS RX3 67 "java/lang/IllegalStateException" ["java/lang/RuntimeException", "java/lang/Exception"]).filter goodWord ++ (vx_atS RX3 79 "java/lang/UnsupportedOperationException" ["java/lang/RuntimeException", "java/lang/Exception"]).filter goodWord ++ (vx_atS RX3 200 "java/util/NoSuchElementException" ["java/lang/RuntimeException", "java/lang/Exception"]).filter goodWord ++ (vx_atS RX3 173 "java/lang/IndexOutOfBoundsException" ["java/lang/RuntimeException", "java/lang/Exception"]).filter goodWord
end
section
set_option maxRecDepth 20000 in
theorem ggX0_init_X2_init : GoodIn wsX0_init wsX2_init := goodIn_r _ [14, 15, 2, 3, 16, 17, 18, 19, 20, 21, 22] (by decide +kernel) (by decide +kernel)
set_option maxRecDepth 20000 in
theorem gX0_init_X2_init : GoodIn wsX0_init (wsX2_init) := ggX0_init_X2_init
theorem dX0_init_0 : decode cX0_init 0 = .ok (.aload_n 0, 1) := by decide +kernel
theorem dX0_init_1 : decode cX0_init 1 = .ok (.invokespecial 3, 3) := by decide +kernel
theorem dX0_init_4 : decode cX0_init 4 = .ok (.aload_n 0, 1) := by decide +kernel
theorem dX0_init_5 : decode cX0_init 5 = .ok (.new 9, 3) := by decide +kernel
theorem dX0_init_8 : decode cX0_init 8 = .ok (.dup, 1) := by decide +kernel
theorem dX0_init_9 : decode cX0_init 9 = .ok (.bipush 17, 2) := by decide +kernel
theorem dX0_init_11 : decode cX0_init 11 = .ok (.invokespecial 13, 3) := by decide +kernel
theorem dX0_init_14 : decode cX0_init 14 = .ok (.putfield 16, 3) := by decide +kernel
theorem dX0_init_17 : decode cX0_init 17 = .ok (.aload_n 0, 1) := by decide +kernel
theorem dX0_init_18 : decode cX0_init 18 = .ok (.new 9, 3) := by decide +kernel
theorem dX0_init_21 : decode cX0_init 21 = .ok (.dup, 1) := by decide +kernel
theorem dX0_init_22 : decode cX0_init 22 = .ok (.bipush 17, 2) := by decide +kernel
theorem dX0_init_24 : decode cX0_init 24 = .ok (.invokespecial 13, 3) := by decide +kernel
theorem dX0_init_27 : decode cX0_init 27 = .ok (.putfield 20, 3) := by decide +kernel
theorem dX0_init_30 : decode cX0_init 30 = .ok (.aload_n 0, 1) := by decide +kernel
theorem dX0_init_31 : decode cX0_init 31 = .ok (.new 9, 3) := by decide +kernel
theorem dX0_init_34 : decode cX0_init 34 = .ok (.dup, 1) := by decide +kernel
theorem dX0_init_35 : decode cX0_init 35 = .ok (.bipush 17, 2) := by decide +kernel
theorem dX0_init_37 : decode cX0_init 37 = .ok (.invokespecial 13, 3) := by decide +kernel
theorem dX0_init_40 : decode cX0_init 40 = .ok (.putfield 23, 3) := by decide +kernel
theorem dX0_init_43 : decode cX0_init 43 = .ok (.aload_n 0, 1) := by decide +kernel
theorem dX0_init_44 : decode cX0_init 44 = .ok (.new 9, 3) := by decide +kernel
theorem dX0_init_47 : decode cX0_init 47 = .ok (.dup, 1) := by decide +kernel
theorem dX0_init_48 : decode cX0_init 48 = .ok (.bipush 17, 2) := by decide +kernel
theorem dX0_init_50 : decode cX0_init 50 = .ok (.invokespecial 13, 3) := by decide +kernel
theorem dX0_init_53 : decode cX0_init 53 = .ok (.putfield 26, 3) := by decide +kernel
theorem dX0_init_56 : decode cX0_init 56 = .ok (.aload_n 0, 1) := by decide +kernel
theorem dX0_init_57 : decode cX0_init 57 = .ok (.iconst 0, 1) := by decide +kernel
theorem dX0_init_58 : decode cX0_init 58 = .ok (.putfield 29, 3) := by decide +kernel
theorem dX0_init_61 : decode cX0_init 61 = .ok (.return_, 1) := by decide +kernel
theorem dX0_clear_0 : decode cX0_clear 0 = .ok (.aload_n 0, 1) := by decide +kernel
theorem dX0_clear_1 : decode cX0_clear 1 = .ok (.iconst 0, 1) := by decide +kernel
theorem dX0_clear_2 : decode cX0_clear 2 = .ok (.putfield 29, 3) := by decide +kernel
theorem dX0_clear_5 : decode cX0_clear 5 = .ok (.return_, 1) := by decide +kernel
set_option maxRecDepth 20000 in
theorem ggX0_addEmpty_X0_add : GoodIn wsX0_addEmpty wsX0_add := goodIn_r _ [5, 6, 7, 8, 9, 10, 11, 12, 13, 14, 15, 16, 17, 18, 19, 20, 21, 22, 23, 24, 25, 26] (by decide +kernel) (by decide +kernel)
set_option maxRecDepth 20000 in
theorem gX0_addEmpty_X0_add : GoodIn wsX0_addEmpty (wsV RX0 33 RX0 yX0_add wsX0_add) := goodIn_app (goodIn_of _ (by decide +kernel)) ggX0_addEmpty_X0_add
theorem dX0_addEmpty_0 : decode cX0_addEmpty 0 = .ok (.iload_n 1, 1) := by decide +kernel
theorem dX0_addEmpty_1 : decode cX0_addEmpty 1 = .ok (.ifCond .le 11, 3) := by decide +kernel
theorem dX0_addEmpty_4 : decode cX0_addEmpty 4 = .ok (.aload_n 0, 1) := by decide +kernel
theorem dX0_addEmpty_5 : decode cX0_addEmpty 5 = .ok (.iconst 0, 1) := by decide +kernel
theorem dX0_addEmpty_6 : decode cX0_addEmpty 6 = .ok (.iload_n 1, 1) := by decide +kernel
theorem dX0_addEmpty_7 : decode cX0_addEmpty 7 = .ok (.iconst 0, 1) := by decide +kernel
theorem dX0_addEmpty_8 : decode cX0_addEmpty 8 = .ok (.iconst (-1), 1) := by decide +kernel
theorem dX0_addEmpty_9 : decode cX0_addEmpty 9 = .ok (.invokevirtual 33, 3) := by decide +kernel
theorem dX0_addEmpty_12 : decode cX0_addEmpty 12 = .ok (.return_, 1) := by decide +kernel
set_option maxRecDepth 20000 in
theorem ggX0_addRange_X0_kindAt : GoodIn wsX0_addRange wsX0_kindAt := goodIn_r _ [5, 6, 7, 8, 9, 10, 11, 12, 37, 38, 39, 40, 41, 42] (by decide +kernel) (by decide +kernel)
set_option maxRecDepth 20000 in
theorem gX0_addRange_X0_kindAt : GoodIn wsX0_addRange (wsV RX0 37 RX0 yX0_kindAt wsX0_kindAt) := goodIn_app (goodIn_of _ (by decide +kernel)) ggX0_addRange_X0_kindAt
set_option maxRecDepth 20000 in
theorem ggX0_addRange_X0_lengthAt : GoodIn wsX0_addRange wsX0_lengthAt := goodIn_r _ [16, 17, 7, 8, 9, 10, 11, 12, 37, 38, 39, 40, 41, 42] (by decide +kernel) (by decide +kernel)
set_option maxRecDepth 20000 in
theorem gX0_addRange_X0_lengthAt : GoodIn wsX0_addRange (wsV RX0 41 RX0 yX0_lengthAt wsX0_lengthAt) := goodIn_app (goodIn_of _ (by decide +kernel)) ggX0_addRange_X0_lengthAt
set_option maxRecDepth 20000 in
theorem ggX0_addRange_X0_nameAt : GoodIn wsX0_addRange wsX0_nameAt := goodIn_r _ [21, 22, 7, 8, 9, 10, 11, 12, 37, 38, 39, 40, 41, 42] (by decide +kernel) (by decide +kernel)
set_option maxRecDepth 20000 in
theorem gX0_addRange_X0_nameAt : GoodIn wsX0_addRange (wsV RX0 44 RX0 yX0_nameAt wsX0_nameAt) := goodIn_app (goodIn_of _ (by decide +kernel)) ggX0_addRange_X0_nameAt
set_option maxRecDepth 20000 in
theorem ggX0_addRange_X0_handleAt : GoodIn wsX0_addRange wsX0_handleAt := goodIn_r _ [26, 27, 7, 8, 9, 10, 11, 12, 37, 38, 39, 40, 41, 42] (by decide +kernel) (by decide +kernel)
set_option maxRecDepth 20000 in
theorem gX0_addRange_X0_handleAt : GoodIn wsX0_addRange (wsV RX0 47 RX0 yX0_handleAt wsX0_handleAt) := goodIn_app (goodIn_of _ (by decide +kernel)) ggX0_addRange_X0_handleAt
set_option maxRecDepth 20000 in
theorem ggX0_addRange_X0_add : GoodIn wsX0_addRange wsX0_add := goodIn_r _ [31, 32, 6, 17, 22, 27, 7, 8, 9, 10, 11, 12, 33, 34, 35, 36, 37, 38, 39, 40, 41, 42] (by decide +kernel) (by decide +kernel)
set_option maxRecDepth 20000 in
theorem gX0_addRange_X0_add : GoodIn wsX0_addRange (wsV RX0 33 RX0 yX0_add wsX0_add) := goodIn_app (goodIn_of _ (by decide +kernel)) ggX0_addRange_X0_add
theorem dX0_addRange_0 : decode cX0_addRange 0 = .ok (.iload_n 2, 1) := by decide +kernel
theorem dX0_addRange_1 : decode cX0_addRange 1 = .ok (.istore 4, 2) := by decide +kernel
theorem dX0_addRange_3 : decode cX0_addRange 3 = .ok (.iload 4, 2) := by decide +kernel
theorem dX0_addRange_5 : decode cX0_addRange 5 = .ok (.iload_n 3, 1) := by decide +kernel
theorem dX0_addRange_6 : decode cX0_addRange 6 = .ok (.if_icmp .ge 37, 3) := by decide +kernel
theorem dX0_addRange_9 : decode cX0_addRange 9 = .ok (.aload_n 0, 1) := by decide +kernel
theorem dX0_addRange_10 : decode cX0_addRange 10 = .ok (.aload_n 1, 1) := by decide +kernel
theorem dX0_addRange_11 : decode cX0_addRange 11 = .ok (.iload 4, 2) := by decide +kernel
theorem dX0_addRange_13 : decode cX0_addRange 13 = .ok (.invokevirtual 37, 3) := by decide +kernel
theorem dX0_addRange_16 : decode cX0_addRange 16 = .ok (.aload_n 1, 1) := by decide +kernel
theorem dX0_addRange_17 : decode cX0_addRange 17 = .ok (.iload 4, 2) := by decide +kernel
theorem dX0_addRange_19 : decode cX0_addRange 19 = .ok (.invokevirtual 41, 3) := by decide +kernel
theorem dX0_addRange_22 : decode cX0_addRange 22 = .ok (.aload_n 1, 1) := by decide +kernel
theorem dX0_addRange_23 : decode cX0_addRange 23 = .ok (.iload 4, 2) := by decide +kernel
theorem dX0_addRange_25 : decode cX0_addRange 25 = .ok (.invokevirtual 44, 3) := by decide +kernel
theorem dX0_addRange_28 : decode cX0_addRange 28 = .ok (.aload_n 1, 1) := by decide +kernel
theorem dX0_addRange_29 : decode cX0_addRange 29 = .ok (.iload 4, 2) := by decide +kernel
theorem dX0_addRange_31 : decode cX0_addRange 31 = .ok (.invokevirtual 47, 3) := by decide +kernel
theorem dX0_addRange_34 : decode cX0_addRange 34 = .ok (.invokevirtual 33, 3) := by decide +kernel
theorem dX0_addRange_37 : decode cX0_addRange 37 = .ok (.iinc 4 1, 3) := by decide +kernel
theorem dX0_addRange_40 : decode cX0_addRange 40 = .ok (.goto (-37), 3) := by decide +kernel
theorem dX0_addRange_43 : decode cX0_addRange 43 = .ok (.return_, 1) := by decide +kernel
set_option maxRecDepth 20000 in
theorem ggX0_add_X2_at : GoodIn wsX0_add wsX2_at := goodIn_r _ [10, 11, 21] (by decide +kernel) (by decide +kernel)
set_option maxRecDepth 20000 in
theorem gX0_add_X2_at : GoodIn wsX0_add (wsV RX0 50 RX2 yX2_at wsX2_at) := goodIn_app (goodIn_of _ (by decide +kernel)) ggX0_add_X2_at
set_option maxRecDepth 20000 in
theorem ggX0_add_X2_set : GoodIn wsX0_add wsX2_set := goodIn_r _ [15, 11, 21] (by decide +kernel) (by decide +kernel)
set_option maxRecDepth 20000 in
theorem gX0_add_X2_set : GoodIn wsX0_add (wsV RX0 53 RX2 yX2_set wsX2_set) := goodIn_app (goodIn_of _ (by decide +kernel)) ggX0_add_X2_set
theorem dX0_add_0 : decode cX0_add 0 = .ok (.aload_n 0, 1) := by decide +kernel
theorem dX0_add_1 : decode cX0_add 1 = .ok (.getfield 29, 3) := by decide +kernel
theorem dX0_add_4 : decode cX0_add 4 = .ok (.iconst 1, 1) := by decide +kernel
theorem dX0_add_5 : decode cX0_add 5 = .ok (.isub, 1) := by decide +kernel
theorem dX0_add_6 : decode cX0_add 6 = .ok (.istore 5, 2) := by decide +kernel
theorem dX0_add_8 : decode cX0_add 8 = .ok (.iload_n 1, 1) := by decide +kernel
theorem dX0_add_9 : decode cX0_add 9 = .ok (.ifCond .ne 43, 3) := by decide +kernel
theorem dX0_add_12 : decode cX0_add 12 = .ok (.iload 5, 2) := by decide +kernel
theorem dX0_add_14 : decode cX0_add 14 = .ok (.ifCond .lt 38, 3) := by decide +kernel
theorem dX0_add_17 : decode cX0_add 17 = .ok (.aload_n 0, 1) := by decide +kernel
theorem dX0_add_18 : decode cX0_add 18 = .ok (.getfield 16, 3) := by decide +kernel
theorem dX0_add_21 : decode cX0_add 21 = .ok (.iload 5, 2) := by decide +kernel
theorem dX0_add_23 : decode cX0_add 23 = .ok (.invokevirtual 50, 3) := by decide +kernel
theorem dX0_add_26 : decode cX0_add 26 = .ok (.ifCond .ne 26, 3) := by decide +kernel
theorem dX0_add_29 : decode cX0_add 29 = .ok (.aload_n 0, 1) := by decide +kernel
theorem dX0_add_30 : decode cX0_add 30 = .ok (.getfield 20, 3) := by decide +kernel
theorem dX0_add_33 : decode cX0_add 33 = .ok (.iload 5, 2) := by decide +kernel
theorem dX0_add_35 : decode cX0_add 35 = .ok (.aload_n 0, 1) := by decide +kernel
theorem dX0_add_36 : decode cX0_add 36 = .ok (.getfield 20, 3) := by decide +kernel
theorem dX0_add_39 : decode cX0_add 39 = .ok (.iload 5, 2) := by decide +kernel
theorem dX0_add_41 : decode cX0_add 41 = .ok (.invokevirtual 50, 3) := by decide +kernel
theorem dX0_add_44 : decode cX0_add 44 = .ok (.iload_n 2, 1) := by decide +kernel
theorem dX0_add_45 : decode cX0_add 45 = .ok (.iadd, 1) := by decide +kernel
theorem dX0_add_46 : decode cX0_add 46 = .ok (.invokevirtual 53, 3) := by decide +kernel
theorem dX0_add_49 : decode cX0_add 49 = .ok (.goto 71, 3) := by decide +kernel
theorem dX0_add_52 : decode cX0_add 52 = .ok (.aload_n 0, 1) := by decide +kernel
theorem dX0_add_53 : decode cX0_add 53 = .ok (.getfield 29, 3) := by decide +kernel
theorem dX0_add_56 : decode cX0_add 56 = .ok (.bipush 17, 2) := by decide +kernel
theorem dX0_add_58 : decode cX0_add 58 = .ok (.if_icmp .ge 62, 3) := by decide +kernel
theorem dX0_add_61 : decode cX0_add 61 = .ok (.aload_n 0, 1) := by decide +kernel
theorem dX0_add_62 : decode cX0_add 62 = .ok (.getfield 16, 3) := by decide +kernel
theorem dX0_add_65 : decode cX0_add 65 = .ok (.aload_n 0, 1) := by decide +kernel
theorem dX0_add_66 : decode cX0_add 66 = .ok (.getfield 29, 3) := by decide +kernel
theorem dX0_add_69 : decode cX0_add 69 = .ok (.iload_n 1, 1) := by decide +kernel
theorem dX0_add_70 : decode cX0_add 70 = .ok (.invokevirtual 53, 3) := by decide +kernel
theorem dX0_add_73 : decode cX0_add 73 = .ok (.aload_n 0, 1) := by decide +kernel
theorem dX0_add_74 : decode cX0_add 74 = .ok (.getfield 20, 3) := by decide +kernel
theorem dX0_add_77 : decode cX0_add 77 = .ok (.aload_n 0, 1) := by decide +kernel
theorem dX0_add_78 : decode cX0_add 78 = .ok (.getfield 29, 3) := by decide +kernel
theorem dX0_add_81 : decode cX0_add 81 = .ok (.iload_n 2, 1) := by decide +kernel
theorem dX0_add_82 : decode cX0_add 82 = .ok (.invokevirtual 53, 3) := by decide +kernel
theorem dX0_add_85 : decode cX0_add 85 = .ok (.aload_n 0, 1) := by decide +kernel
theorem dX0_add_86 : decode cX0_add 86 = .ok (.getfield 23, 3) := by decide +kernel
theorem dX0_add_89 : decode cX0_add 89 = .ok (.aload_n 0, 1) := by decide +kernel
theorem dX0_add_90 : decode cX0_add 90 = .ok (.getfield 29, 3) := by decide +kernel
theorem dX0_add_93 : decode cX0_add 93 = .ok (.iload_n 3, 1) := by decide +kernel
theorem dX0_add_94 : decode cX0_add 94 = .ok (.invokevirtual 53, 3) := by decide +kernel
theorem dX0_add_97 : decode cX0_add 97 = .ok (.aload_n 0, 1) := by decide +kernel
theorem dX0_add_98 : decode cX0_add 98 = .ok (.getfield 26, 3) := by decide +kernel
theorem dX0_add_101 : decode cX0_add 101 = .ok (.aload_n 0, 1) := by decide +kernel
theorem dX0_add_102 : decode cX0_add 102 = .ok (.getfield 29, 3) := by decide +kernel
theorem dX0_add_105 : decode cX0_add 105 = .ok (.iload 4, 2) := by decide +kernel
theorem dX0_add_107 : decode cX0_add 107 = .ok (.invokevirtual 53, 3) := by decide +kernel
theorem dX0_add_110 : decode cX0_add 110 = .ok (.aload_n 0, 1) := by decide +kernel
theorem dX0_add_111 : decode cX0_add 111 = .ok (.dup, 1) := by decide +kernel
theorem dX0_add_112 : decode cX0_add 112 = .ok (.getfield 29, 3) := by decide +kernel
theorem dX0_add_115 : decode cX0_add 115 = .ok (.iconst 1, 1) := by decide +kernel
theorem dX0_add_116 : decode cX0_add 116 = .ok (.iadd, 1) := by decide +kernel
theorem dX0_add_117 : decode cX0_add 117 = .ok (.putfield 29, 3) := by decide +kernel
theorem dX0_add_120 : decode cX0_add 120 = .ok (.return_, 1) := by decide +kernel
set_option maxRecDepth 20000 in
theorem ggX0_takeOver_X2_takeOver : GoodIn wsX0_takeOver wsX2_takeOver := goodIn_r _ [10, 11, 12, 13, 14, 9, 15, 21] (by decide +kernel) (by decide +kernel)
set_option maxRecDepth 20000 in
theorem gX0_takeOver_X2_takeOver : GoodIn wsX0_takeOver (wsV RX0 57 RX2 yX2_takeOver wsX2_takeOver) := goodIn_app (goodIn_of _ (by decide +kernel)) ggX0_takeOver_X2_takeOver
theorem dX0_takeOver_0 : decode cX0_takeOver 0 = .ok (.aload_n 0, 1) := by decide +kernel
theorem dX0_takeOver_1 : decode cX0_takeOver 1 = .ok (.getfield 16, 3) := by decide +kernel
theorem dX0_takeOver_4 : decode cX0_takeOver 4 = .ok (.aload_n 1, 1) := by decide +kernel
theorem dX0_takeOver_5 : decode cX0_takeOver 5 = .ok (.getfield 16, 3) := by decide +kernel
theorem dX0_takeOver_8 : decode cX0_takeOver 8 = .ok (.invokevirtual 57, 3) := by decide +kernel
theorem dX0_takeOver_11 : decode cX0_takeOver 11 = .ok (.aload_n 0, 1) := by decide +kernel
theorem dX0_takeOver_12 : decode cX0_takeOver 12 = .ok (.getfield 20, 3) := by decide +kernel
theorem dX0_takeOver_15 : decode cX0_takeOver 15 = .ok (.aload_n 1, 1) := by decide +kernel
theorem dX0_takeOver_16 : decode cX0_takeOver 16 = .ok (.getfield 20, 3) := by decide +kernel
theorem dX0_takeOver_19 : decode cX0_takeOver 19 = .ok (.invokevirtual 57, 3) := by decide +kernel
theorem dX0_takeOver_22 : decode cX0_takeOver 22 = .ok (.aload_n 0, 1) := by decide +kernel
theorem dX0_takeOver_23 : decode cX0_takeOver 23 = .ok (.getfield 23, 3) := by decide +kernel
theorem dX0_takeOver_26 : decode cX0_takeOver 26 = .ok (.aload_n 1, 1) := by decide +kernel
theorem dX0_takeOver_27 : decode cX0_takeOver 27 = .ok (.getfield 23, 3) := by decide +kernel
theorem dX0_takeOver_30 : decode cX0_takeOver 30 = .ok (.invokevirtual 57, 3) := by decide +kernel
theorem dX0_takeOver_33 : decode cX0_takeOver 33 = .ok (.aload_n 0, 1) := by decide +kernel
theorem dX0_takeOver_34 : decode cX0_takeOver 34 = .ok (.getfield 26, 3) := by decide +kernel
theorem dX0_takeOver_37 : decode cX0_takeOver 37 = .ok (.aload_n 1, 1) := by decide +kernel
theorem dX0_takeOver_38 : decode cX0_takeOver 38 = .ok (.getfield 26, 3) := by decide +kernel
theorem dX0_takeOver_41 : decode cX0_takeOver 41 = .ok (.invokevirtual 57, 3) := by decide +kernel
theorem dX0_takeOver_44 : decode cX0_takeOver 44 = .ok (.aload_n 0, 1) := by decide +kernel
theorem dX0_takeOver_45 : decode cX0_takeOver 45 = .ok (.aload_n 1, 1) := by decide +kernel
theorem dX0_takeOver_46 : decode cX0_takeOver 46 = .ok (.getfield 29, 3) := by decide +kernel
theorem dX0_takeOver_49 : decode cX0_takeOver 49 = .ok (.putfield 29, 3) := by decide +kernel
theorem dX0_takeOver_52 : decode cX0_takeOver 52 = .ok (.return_, 1) := by decide +kernel
theorem dX0_count_0 : decode cX0_count 0 = .ok (.aload_n 0, 1) := by decide +kernel
theorem dX0_count_1 : decode cX0_count 1 = .ok (.getfield 29, 3) := by decide +kernel
theorem dX0_count_4 : decode cX0_count 4 = .ok (.ireturn, 1) := by decide +kernel
set_option maxRecDepth 20000 in
theorem ggX0_kindAt_X2_at : GoodIn wsX0_kindAt wsX2_at := goodIn_r _ [6, 7, 13] (by decide +kernel) (by decide +kernel)
set_option maxRecDepth 20000 in
theorem gX0_kindAt_X2_at : GoodIn wsX0_kindAt (wsV RX0 50 RX2 yX2_at wsX2_at) := goodIn_app (goodIn_of _ (by decide +kernel)) ggX0_kindAt_X2_at
theorem dX0_kindAt_0 : decode cX0_kindAt 0 = .ok (.aload_n 0, 1) := by decide +kernel
theorem dX0_kindAt_1 : decode cX0_kindAt 1 = .ok (.getfield 16, 3) := by decide +kernel
theorem dX0_kindAt_4 : decode cX0_kindAt 4 = .ok (.iload_n 1, 1) := by decide +kernel
theorem dX0_kindAt_5 : decode cX0_kindAt 5 = .ok (.invokevirtual 50, 3) := by decide +kernel
theorem dX0_kindAt_8 : decode cX0_kindAt 8 = .ok (.ireturn, 1) := by decide +kernel
set_option maxRecDepth 20000 in
theorem ggX0_lengthAt_X2_at : GoodIn wsX0_lengthAt wsX2_at := goodIn_r _ [6, 7, 13] (by decide +kernel) (by decide +kernel)
set_option maxRecDepth 20000 in
theorem gX0_lengthAt_X2_at : GoodIn wsX0_lengthAt (wsV RX0 50 RX2 yX2_at wsX2_at) := goodIn_app (goodIn_of _ (by decide +kernel)) ggX0_lengthAt_X2_at
theorem dX0_lengthAt_0 : decode cX0_lengthAt 0 = .ok (.aload_n 0, 1) := by decide +kernel
theorem dX0_lengthAt_1 : decode cX0_lengthAt 1 = .ok (.getfield 20, 3) := by decide +kernel
theorem dX0_lengthAt_4 : decode cX0_lengthAt 4 = .ok (.iload_n 1, 1) := by decide +kernel
theorem dX0_lengthAt_5 : decode cX0_lengthAt 5 = .ok (.invokevirtual 50, 3) := by decide +kernel
theorem dX0_lengthAt_8 : decode cX0_lengthAt 8 = .ok (.ireturn, 1) := by decide +kernel
set_option maxRecDepth 20000 in
theorem ggX0_nameAt_X2_at : GoodIn wsX0_nameAt wsX2_at := goodIn_r _ [6, 7, 13] (by decide +kernel) (by decide +kernel)
set_option maxRecDepth 20000 in
theorem gX0_nameAt_X2_at : GoodIn wsX0_nameAt (wsV RX0 50 RX2 yX2_at wsX2_at) := goodIn_app (goodIn_of _ (by decide +kernel)) ggX0_nameAt_X2_at
theorem dX0_nameAt_0 : decode cX0_nameAt 0 = .ok (.aload_n 0, 1) := by decide +kernel
theorem dX0_nameAt_1 : decode cX0_nameAt 1 = .ok (.getfield 23, 3) := by decide +kernel
theorem dX0_nameAt_4 : decode cX0_nameAt 4 = .ok (.iload_n 1, 1) := by decide +kernel
theorem dX0_nameAt_5 : decode cX0_nameAt 5 = .ok (.invokevirtual 50, 3) := by decide +kernel
theorem dX0_nameAt_8 : decode cX0_nameAt 8 = .ok (.ireturn, 1) := by decide +kernel
set_option maxRecDepth 20000 in
theorem ggX0_handleAt_X2_at : GoodIn wsX0_handleAt wsX2_at := goodIn_r _ [6, 7, 13] (by decide +kernel) (by decide +kernel)
set_option maxRecDepth 20000 in
theorem gX0_handleAt_X2_at : GoodIn wsX0_handleAt (wsV RX0 50 RX2 yX2_at wsX2_at) := goodIn_app (goodIn_of _ (by decide +kernel)) ggX0_handleAt_X2_at
theorem dX0_handleAt_0 : decode cX0_handleAt 0 = .ok (.aload_n 0, 1) := by decide +kernel
theorem dX0_handleAt_1 : decode cX0_handleAt 1 = .ok (.getfield 26, 3) := by decide +kernel
theorem dX0_handleAt_4 : decode cX0_handleAt 4 = .ok (.iload_n 1, 1) := by decide +kernel
theorem dX0_handleAt_5 : decode cX0_handleAt 5 = .ok (.invokevirtual 50, 3) := by decide +kernel
theorem dX0_handleAt_8 : decode cX0_handleAt 8 = .ok (.ireturn, 1) := by decide +kernel
set_option maxRecDepth 20000 in
theorem ggX0_beginAt_X2_at : GoodIn wsX0_beginAt wsX2_at := goodIn_r _ [7, 8, 14] (by decide +kernel) (by decide +kernel)
set_option maxRecDepth 20000 in
theorem gX0_beginAt_X2_at : GoodIn wsX0_beginAt (wsV RX0 50 RX2 yX2_at wsX2_at) := goodIn_app (goodIn_of _ (by decide +kernel)) ggX0_beginAt_X2_at
theorem dX0_beginAt_0 : decode cX0_beginAt 0 = .ok (.iconst 0, 1) := by decide +kernel
theorem dX0_beginAt_1 : decode cX0_beginAt 1 = .ok (.istore_n 2, 1) := by decide +kernel
theorem dX0_beginAt_2 : decode cX0_beginAt 2 = .ok (.iconst 0, 1) := by decide +kernel
theorem dX0_beginAt_3 : decode cX0_beginAt 3 = .ok (.istore_n 3, 1) := by decide +kernel
theorem dX0_beginAt_4 : decode cX0_beginAt 4 = .ok (.iload_n 3, 1) := by decide +kernel
theorem dX0_beginAt_5 : decode cX0_beginAt 5 = .ok (.iload_n 1, 1) := by decide +kernel
theorem dX0_beginAt_6 : decode cX0_beginAt 6 = .ok (.if_icmp .ge 28, 3) := by decide +kernel
theorem dX0_beginAt_9 : decode cX0_beginAt 9 = .ok (.iload_n 3, 1) := by decide +kernel
theorem dX0_beginAt_10 : decode cX0_beginAt 10 = .ok (.aload_n 0, 1) := by decide +kernel
theorem dX0_beginAt_11 : decode cX0_beginAt 11 = .ok (.getfield 29, 3) := by decide +kernel
theorem dX0_beginAt_14 : decode cX0_beginAt 14 = .ok (.if_icmp .ge 20, 3) := by decide +kernel
theorem dX0_beginAt_17 : decode cX0_beginAt 17 = .ok (.iload_n 2, 1) := by decide +kernel
theorem dX0_beginAt_18 : decode cX0_beginAt 18 = .ok (.aload_n 0, 1) := by decide +kernel
theorem dX0_beginAt_19 : decode cX0_beginAt 19 = .ok (.getfield 20, 3) := by decide +kernel
theorem dX0_beginAt_22 : decode cX0_beginAt 22 = .ok (.iload_n 3, 1) := by decide +kernel
theorem dX0_beginAt_23 : decode cX0_beginAt 23 = .ok (.invokevirtual 50, 3) := by decide +kernel
theorem dX0_beginAt_26 : decode cX0_beginAt 26 = .ok (.iadd, 1) := by decide +kernel
theorem dX0_beginAt_27 : decode cX0_beginAt 27 = .ok (.istore_n 2, 1) := by decide +kernel
theorem dX0_beginAt_28 : decode cX0_beginAt 28 = .ok (.iinc 3 1, 3) := by decide +kernel
theorem dX0_beginAt_31 : decode cX0_beginAt 31 = .ok (.goto (-27), 3) := by decide +kernel
theorem dX0_beginAt_34 : decode cX0_beginAt 34 = .ok (.iload_n 2, 1) := by decide +kernel
theorem dX0_beginAt_35 : decode cX0_beginAt 35 = .ok (.ireturn, 1) := by decide +kernel
set_option maxRecDepth 20000 in
theorem ggX0_countOf_X2_at : GoodIn wsX0_countOf wsX2_at := goodIn_r _ [7, 8, 14] (by decide +kernel) (by decide +kernel)
set_option maxRecDepth 20000 in
theorem gX0_countOf_X2_at : GoodIn wsX0_countOf (wsV RX0 50 RX2 yX2_at wsX2_at) := goodIn_app (goodIn_of _ (by decide +kernel)) ggX0_countOf_X2_at
theorem dX0_countOf_0 : decode cX0_countOf 0 = .ok (.iconst 0, 1) := by decide +kernel
theorem dX0_countOf_1 : decode cX0_countOf 1 = .ok (.istore_n 2, 1) := by decide +kernel
theorem dX0_countOf_2 : decode cX0_countOf 2 = .ok (.iconst 0, 1) := by decide +kernel
theorem dX0_countOf_3 : decode cX0_countOf 3 = .ok (.istore_n 3, 1) := by decide +kernel
theorem dX0_countOf_4 : decode cX0_countOf 4 = .ok (.iload_n 3, 1) := by decide +kernel
theorem dX0_countOf_5 : decode cX0_countOf 5 = .ok (.aload_n 0, 1) := by decide +kernel
theorem dX0_countOf_6 : decode cX0_countOf 6 = .ok (.getfield 29, 3) := by decide +kernel
theorem dX0_countOf_9 : decode cX0_countOf 9 = .ok (.if_icmp .ge 24, 3) := by decide +kernel
theorem dX0_countOf_12 : decode cX0_countOf 12 = .ok (.aload_n 0, 1) := by decide +kernel
theorem dX0_countOf_13 : decode cX0_countOf 13 = .ok (.getfield 16, 3) := by decide +kernel
theorem dX0_countOf_16 : decode cX0_countOf 16 = .ok (.iload_n 3, 1) := by decide +kernel
theorem dX0_countOf_17 : decode cX0_countOf 17 = .ok (.invokevirtual 50, 3) := by decide +kernel
theorem dX0_countOf_20 : decode cX0_countOf 20 = .ok (.iload_n 1, 1) := by decide +kernel
theorem dX0_countOf_21 : decode cX0_countOf 21 = .ok (.if_icmp .ne 6, 3) := by decide +kernel
theorem dX0_countOf_24 : decode cX0_countOf 24 = .ok (.iinc 2 1, 3) := by decide +kernel
theorem dX0_countOf_27 : decode cX0_countOf 27 = .ok (.iinc 3 1, 3) := by decide +kernel
theorem dX0_countOf_30 : decode cX0_countOf 30 = .ok (.goto (-26), 3) := by decide +kernel
theorem dX0_countOf_33 : decode cX0_countOf 33 = .ok (.iload_n 2, 1) := by decide +kernel
theorem dX0_countOf_34 : decode cX0_countOf 34 = .ok (.ireturn, 1) := by decide +kernel
set_option maxRecDepth 20000 in
theorem ggX0_findTentative_X2_at : GoodIn wsX0_findTentative wsX2_at := goodIn_r _ [8, 9, 15] (by decide +kernel) (by decide +kernel)
set_option maxRecDepth 20000 in
theorem gX0_findTentative_X2_at : GoodIn wsX0_findTentative (wsV RX0 50 RX2 yX2_at wsX2_at) := goodIn_app (goodIn_of _ (by decide +kernel)) ggX0_findTentative_X2_at
theorem dX0_findTentative_0 : decode cX0_findTentative 0 = .ok (.iconst 0, 1) := by decide +kernel
theorem dX0_findTentative_1 : decode cX0_findTentative 1 = .ok (.istore_n 2, 1) := by decide +kernel
theorem dX0_findTentative_2 : decode cX0_findTentative 2 = .ok (.iload_n 2, 1) := by decide +kernel
theorem dX0_findTentative_3 : decode cX0_findTentative 3 = .ok (.aload_n 0, 1) := by decide +kernel
theorem dX0_findTentative_4 : decode cX0_findTentative 4 = .ok (.getfield 29, 3) := by decide +kernel
theorem dX0_findTentative_7 : decode cX0_findTentative 7 = .ok (.if_icmp .ge 35, 3) := by decide +kernel
theorem dX0_findTentative_10 : decode cX0_findTentative 10 = .ok (.aload_n 0, 1) := by decide +kernel
theorem dX0_findTentative_11 : decode cX0_findTentative 11 = .ok (.getfield 16, 3) := by decide +kernel
theorem dX0_findTentative_14 : decode cX0_findTentative 14 = .ok (.iload_n 2, 1) := by decide +kernel
theorem dX0_findTentative_15 : decode cX0_findTentative 15 = .ok (.invokevirtual 50, 3) := by decide +kernel
theorem dX0_findTentative_18 : decode cX0_findTentative 18 = .ok (.iconst 1, 1) := by decide +kernel
theorem dX0_findTentative_19 : decode cX0_findTentative 19 = .ok (.if_icmp .ne 17, 3) := by decide +kernel
theorem dX0_findTentative_22 : decode cX0_findTentative 22 = .ok (.aload_n 0, 1) := by decide +kernel
theorem dX0_findTentative_23 : decode cX0_findTentative 23 = .ok (.getfield 26, 3) := by decide +kernel
theorem dX0_findTentative_26 : decode cX0_findTentative 26 = .ok (.iload_n 2, 1) := by decide +kernel
theorem dX0_findTentative_27 : decode cX0_findTentative 27 = .ok (.invokevirtual 50, 3) := by decide +kernel
theorem dX0_findTentative_30 : decode cX0_findTentative 30 = .ok (.iload_n 1, 1) := by decide +kernel
theorem dX0_findTentative_31 : decode cX0_findTentative 31 = .ok (.if_icmp .ne 5, 3) := by decide +kernel
theorem dX0_findTentative_34 : decode cX0_findTentative 34 = .ok (.iload_n 2, 1) := by decide +kernel
theorem dX0_findTentative_35 : decode cX0_findTentative 35 = .ok (.ireturn, 1) := by decide +kernel
theorem dX0_findTentative_36 : decode cX0_findTentative 36 = .ok (.iinc 2 1, 3) := by decide +kernel
theorem dX0_findTentative_39 : decode cX0_findTentative 39 = .ok (.goto (-37), 3) := by decide +kernel
theorem dX0_findTentative_42 : decode cX0_findTentative 42 = .ok (.iconst (-1), 1) := by decide +kernel
theorem dX0_findTentative_43 : decode cX0_findTentative 43 = .ok (.ireturn, 1) := by decide +kernel
set_option maxRecDepth 20000 in
theorem ggX0_findPermanent_X2_at : GoodIn wsX0_findPermanent wsX2_at := goodIn_r _ [8, 9, 15] (by decide +kernel) (by decide +kernel)
set_option maxRecDepth 20000 in
theorem gX0_findPermanent_X2_at : GoodIn wsX0_findPermanent (wsV RX0 50 RX2 yX2_at wsX2_at) := goodIn_app (goodIn_of _ (by decide +kernel)) ggX0_findPermanent_X2_at
theorem dX0_findPermanent_0 : decode cX0_findPermanent 0 = .ok (.iconst 0, 1) := by decide +kernel
theorem dX0_findPermanent_1 : decode cX0_findPermanent 1 = .ok (.istore_n 2, 1) := by decide +kernel
theorem dX0_findPermanent_2 : decode cX0_findPermanent 2 = .ok (.iload_n 2, 1) := by decide +kernel
theorem dX0_findPermanent_3 : decode cX0_findPermanent 3 = .ok (.aload_n 0, 1) := by decide +kernel
theorem dX0_findPermanent_4 : decode cX0_findPermanent 4 = .ok (.getfield 29, 3) := by decide +kernel
theorem dX0_findPermanent_7 : decode cX0_findPermanent 7 = .ok (.if_icmp .ge 35, 3) := by decide +kernel
theorem dX0_findPermanent_10 : decode cX0_findPermanent 10 = .ok (.aload_n 0, 1) := by decide +kernel
theorem dX0_findPermanent_11 : decode cX0_findPermanent 11 = .ok (.getfield 16, 3) := by decide +kernel
theorem dX0_findPermanent_14 : decode cX0_findPermanent 14 = .ok (.iload_n 2, 1) := by decide +kernel
theorem dX0_findPermanent_15 : decode cX0_findPermanent 15 = .ok (.invokevirtual 50, 3) := by decide +kernel
theorem dX0_findPermanent_18 : decode cX0_findPermanent 18 = .ok (.iconst 2, 1) := by decide +kernel
theorem dX0_findPermanent_19 : decode cX0_findPermanent 19 = .ok (.if_icmp .ne 17, 3) := by decide +kernel
theorem dX0_findPermanent_22 : decode cX0_findPermanent 22 = .ok (.aload_n 0, 1) := by decide +kernel
theorem dX0_findPermanent_23 : decode cX0_findPermanent 23 = .ok (.getfield 23, 3) := by decide +kernel
theorem dX0_findPermanent_26 : decode cX0_findPermanent 26 = .ok (.iload_n 2, 1) := by decide +kernel
theorem dX0_findPermanent_27 : decode cX0_findPermanent 27 = .ok (.invokevirtual 50, 3) := by decide +kernel
theorem dX0_findPermanent_30 : decode cX0_findPermanent 30 = .ok (.iload_n 1, 1) := by decide +kernel
theorem dX0_findPermanent_31 : decode cX0_findPermanent 31 = .ok (.if_icmp .ne 5, 3) := by decide +kernel
theorem dX0_findPermanent_34 : decode cX0_findPermanent 34 = .ok (.iload_n 2, 1) := by decide +kernel
theorem dX0_findPermanent_35 : decode cX0_findPermanent 35 = .ok (.ireturn, 1) := by decide +kernel
theorem dX0_findPermanent_36 : decode cX0_findPermanent 36 = .ok (.iinc 2 1, 3) := by decide +kernel
theorem dX0_findPermanent_39 : decode cX0_findPermanent 39 = .ok (.goto (-37), 3) := by decide +kernel
theorem dX0_findPermanent_42 : decode cX0_findPermanent 42 = .ok (.iconst (-1), 1) := by decide +kernel
theorem dX0_findPermanent_43 : decode cX0_findPermanent 43 = .ok (.ireturn, 1) := by decide +kernel
set_option maxRecDepth 20000 in
theorem ggX0_leastFreeHandle_X0_findTentative : GoodIn wsX0_leastFreeHandle wsX0_findTentative := goodIn_r _ [5, 6, 7, 8, 9, 10, 11, 12, 13, 14, 15, 16, 17, 18, 19, 20] (by decide +kernel) (by decide +kernel)
set_option maxRecDepth 20000 in
theorem gX0_leastFreeHandle_X0_findTentative : GoodIn wsX0_leastFreeHandle (wsV RX0 61 RX0 yX0_findTentative wsX0_findTentative) := goodIn_app (goodIn_of _ (by decide +kernel)) ggX0_leastFreeHandle_X0_findTentative
theorem dX0_leastFreeHandle_0 : decode cX0_leastFreeHandle 0 = .ok (.iconst 0, 1) := by decide +kernel
theorem dX0_leastFreeHandle_1 : decode cX0_leastFreeHandle 1 = .ok (.istore_n 1, 1) := by decide +kernel
theorem dX0_leastFreeHandle_2 : decode cX0_leastFreeHandle 2 = .ok (.iload_n 1, 1) := by decide +kernel
theorem dX0_leastFreeHandle_3 : decode cX0_leastFreeHandle 3 = .ok (.iconst 4, 1) := by decide +kernel
theorem dX0_leastFreeHandle_4 : decode cX0_leastFreeHandle 4 = .ok (.if_icmp .ge 20, 3) := by decide +kernel
theorem dX0_leastFreeHandle_7 : decode cX0_leastFreeHandle 7 = .ok (.aload_n 0, 1) := by decide +kernel
theorem dX0_leastFreeHandle_8 : decode cX0_leastFreeHandle 8 = .ok (.iload_n 1, 1) := by decide +kernel
theorem dX0_leastFreeHandle_9 : decode cX0_leastFreeHandle 9 = .ok (.invokevirtual 61, 3) := by decide +kernel
theorem dX0_leastFreeHandle_12 : decode cX0_leastFreeHandle 12 = .ok (.iconst (-1), 1) := by decide +kernel
theorem dX0_leastFreeHandle_13 : decode cX0_leastFreeHandle 13 = .ok (.if_icmp .ne 5, 3) := by decide +kernel
theorem dX0_leastFreeHandle_16 : decode cX0_leastFreeHandle 16 = .ok (.iload_n 1, 1) := by decide +kernel
theorem dX0_leastFreeHandle_17 : decode cX0_leastFreeHandle 17 = .ok (.ireturn, 1) := by decide +kernel
theorem dX0_leastFreeHandle_18 : decode cX0_leastFreeHandle 18 = .ok (.iinc 1 1, 3) := by decide +kernel
theorem dX0_leastFreeHandle_21 : decode cX0_leastFreeHandle 21 = .ok (.goto (-19), 3) := by decide +kernel
theorem dX0_leastFreeHandle_24 : decode cX0_leastFreeHandle 24 = .ok (.iconst (-1), 1) := by decide +kernel
theorem dX0_leastFreeHandle_25 : decode cX0_leastFreeHandle 25 = .ok (.ireturn, 1) := by decide +kernel
set_option maxRecDepth 20000 in
theorem ggX0_leastHandleOf_X0_findTentative : GoodIn wsX0_leastHandleOf wsX0_findTentative := goodIn_r _ [6, 7, 8, 9, 10, 11, 12, 13, 14, 15, 16, 17, 18, 19, 20, 21] (by decide +kernel) (by decide +kernel)
set_option maxRecDepth 20000 in
theorem gX0_leastHandleOf_X0_findTentative : GoodIn wsX0_leastHandleOf (wsV RX0 61 RX0 yX0_findTentative wsX0_findTentative) := goodIn_app (goodIn_of _ (by decide +kernel)) ggX0_leastHandleOf_X0_findTentative
set_option maxRecDepth 20000 in
theorem ggX0_leastHandleOf_X2_at : GoodIn wsX0_leastHandleOf wsX2_at := goodIn_r _ [14, 15, 21] (by decide +kernel) (by decide +kernel)
set_option maxRecDepth 20000 in
theorem gX0_leastHandleOf_X2_at : GoodIn wsX0_leastHandleOf (wsV RX0 50 RX2 yX2_at wsX2_at) := goodIn_app (goodIn_of _ (by decide +kernel)) ggX0_leastHandleOf_X2_at
theorem dX0_leastHandleOf_0 : decode cX0_leastHandleOf 0 = .ok (.iconst 0, 1) := by decide +kernel
theorem dX0_leastHandleOf_1 : decode cX0_leastHandleOf 1 = .ok (.istore_n 2, 1) := by decide +kernel
theorem dX0_leastHandleOf_2 : decode cX0_leastHandleOf 2 = .ok (.iload_n 2, 1) := by decide +kernel
theorem dX0_leastHandleOf_3 : decode cX0_leastHandleOf 3 = .ok (.iconst 4, 1) := by decide +kernel
theorem dX0_leastHandleOf_4 : decode cX0_leastHandleOf 4 = .ok (.if_icmp .ge 34, 3) := by decide +kernel
theorem dX0_leastHandleOf_7 : decode cX0_leastHandleOf 7 = .ok (.aload_n 0, 1) := by decide +kernel
theorem dX0_leastHandleOf_8 : decode cX0_leastHandleOf 8 = .ok (.iload_n 2, 1) := by decide +kernel
theorem dX0_leastHandleOf_9 : decode cX0_leastHandleOf 9 = .ok (.invokevirtual 61, 3) := by decide +kernel
theorem dX0_leastHandleOf_12 : decode cX0_leastHandleOf 12 = .ok (.istore_n 3, 1) := by decide +kernel
theorem dX0_leastHandleOf_13 : decode cX0_leastHandleOf 13 = .ok (.iload_n 3, 1) := by decide +kernel
theorem dX0_leastHandleOf_14 : decode cX0_leastHandleOf 14 = .ok (.iconst (-1), 1) := by decide +kernel
theorem dX0_leastHandleOf_15 : decode cX0_leastHandleOf 15 = .ok (.if_icmp .eq 17, 3) := by decide +kernel
theorem dX0_leastHandleOf_18 : decode cX0_leastHandleOf 18 = .ok (.aload_n 0, 1) := by decide +kernel
theorem dX0_leastHandleOf_19 : decode cX0_leastHandleOf 19 = .ok (.getfield 23, 3) := by decide +kernel
theorem dX0_leastHandleOf_22 : decode cX0_leastHandleOf 22 = .ok (.iload_n 3, 1) := by decide +kernel
theorem dX0_leastHandleOf_23 : decode cX0_leastHandleOf 23 = .ok (.invokevirtual 50, 3) := by decide +kernel
theorem dX0_leastHandleOf_26 : decode cX0_leastHandleOf 26 = .ok (.iload_n 1, 1) := by decide +kernel
theorem dX0_leastHandleOf_27 : decode cX0_leastHandleOf 27 = .ok (.if_icmp .ne 5, 3) := by decide +kernel
theorem dX0_leastHandleOf_30 : decode cX0_leastHandleOf 30 = .ok (.iload_n 2, 1) := by decide +kernel
theorem dX0_leastHandleOf_31 : decode cX0_leastHandleOf 31 = .ok (.ireturn, 1) := by decide +kernel
theorem dX0_leastHandleOf_32 : decode cX0_leastHandleOf 32 = .ok (.iinc 2 1, 3) := by decide +kernel
theorem dX0_leastHandleOf_35 : decode cX0_leastHandleOf 35 = .ok (.goto (-33), 3) := by decide +kernel
theorem dX0_leastHandleOf_38 : decode cX0_leastHandleOf 38 = .ok (.iconst (-1), 1) := by decide +kernel
theorem dX0_leastHandleOf_39 : decode cX0_leastHandleOf 39 = .ok (.ireturn, 1) := by decide +kernel
set_option maxRecDepth 20000 in
theorem ggX0_findRoom_X2_at : GoodIn wsX0_findRoom wsX2_at := goodIn_r _ [8, 9, 15] (by decide +kernel) (by decide +kernel)
set_option maxRecDepth 20000 in
theorem gX0_findRoom_X2_at : GoodIn wsX0_findRoom (wsV RX0 50 RX2 yX2_at wsX2_at) := goodIn_app (goodIn_of _ (by decide +kernel)) ggX0_findRoom_X2_at
theorem dX0_findRoom_0 : decode cX0_findRoom 0 = .ok (.iconst (-1), 1) := by decide +kernel
theorem dX0_findRoom_1 : decode cX0_findRoom 1 = .ok (.istore_n 2, 1) := by decide +kernel
theorem dX0_findRoom_2 : decode cX0_findRoom 2 = .ok (.iconst 0, 1) := by decide +kernel
theorem dX0_findRoom_3 : decode cX0_findRoom 3 = .ok (.istore_n 3, 1) := by decide +kernel
theorem dX0_findRoom_4 : decode cX0_findRoom 4 = .ok (.iload_n 3, 1) := by decide +kernel
theorem dX0_findRoom_5 : decode cX0_findRoom 5 = .ok (.aload_n 0, 1) := by decide +kernel
theorem dX0_findRoom_6 : decode cX0_findRoom 6 = .ok (.getfield 29, 3) := by decide +kernel
theorem dX0_findRoom_9 : decode cX0_findRoom 9 = .ok (.if_icmp .ge 58, 3) := by decide +kernel
theorem dX0_findRoom_12 : decode cX0_findRoom 12 = .ok (.aload_n 0, 1) := by decide +kernel
theorem dX0_findRoom_13 : decode cX0_findRoom 13 = .ok (.getfield 16, 3) := by decide +kernel
theorem dX0_findRoom_16 : decode cX0_findRoom 16 = .ok (.iload_n 3, 1) := by decide +kernel
theorem dX0_findRoom_17 : decode cX0_findRoom 17 = .ok (.invokevirtual 50, 3) := by decide +kernel
theorem dX0_findRoom_20 : decode cX0_findRoom 20 = .ok (.ifCond .ne 41, 3) := by decide +kernel
theorem dX0_findRoom_23 : decode cX0_findRoom 23 = .ok (.aload_n 0, 1) := by decide +kernel
theorem dX0_findRoom_24 : decode cX0_findRoom 24 = .ok (.getfield 20, 3) := by decide +kernel
theorem dX0_findRoom_27 : decode cX0_findRoom 27 = .ok (.iload_n 3, 1) := by decide +kernel
theorem dX0_findRoom_28 : decode cX0_findRoom 28 = .ok (.invokevirtual 50, 3) := by decide +kernel
theorem dX0_findRoom_31 : decode cX0_findRoom 31 = .ok (.iload_n 1, 1) := by decide +kernel
theorem dX0_findRoom_32 : decode cX0_findRoom 32 = .ok (.if_icmp .lt 29, 3) := by decide +kernel
theorem dX0_findRoom_35 : decode cX0_findRoom 35 = .ok (.iload_n 2, 1) := by decide +kernel
theorem dX0_findRoom_36 : decode cX0_findRoom 36 = .ok (.iconst (-1), 1) := by decide +kernel
theorem dX0_findRoom_37 : decode cX0_findRoom 37 = .ok (.if_icmp .eq 22, 3) := by decide +kernel
theorem dX0_findRoom_40 : decode cX0_findRoom 40 = .ok (.aload_n 0, 1) := by decide +kernel
theorem dX0_findRoom_41 : decode cX0_findRoom 41 = .ok (.getfield 20, 3) := by decide +kernel
theorem dX0_findRoom_44 : decode cX0_findRoom 44 = .ok (.iload_n 3, 1) := by decide +kernel
theorem dX0_findRoom_45 : decode cX0_findRoom 45 = .ok (.invokevirtual 50, 3) := by decide +kernel
theorem dX0_findRoom_48 : decode cX0_findRoom 48 = .ok (.aload_n 0, 1) := by decide +kernel
theorem dX0_findRoom_49 : decode cX0_findRoom 49 = .ok (.getfield 20, 3) := by decide +kernel
theorem dX0_findRoom_52 : decode cX0_findRoom 52 = .ok (.iload_n 2, 1) := by decide +kernel
theorem dX0_findRoom_53 : decode cX0_findRoom 53 = .ok (.invokevirtual 50, 3) := by decide +kernel
theorem dX0_findRoom_56 : decode cX0_findRoom 56 = .ok (.if_icmp .ge 5, 3) := by decide +kernel
theorem dX0_findRoom_59 : decode cX0_findRoom 59 = .ok (.iload_n 3, 1) := by decide +kernel
theorem dX0_findRoom_60 : decode cX0_findRoom 60 = .ok (.istore_n 2, 1) := by decide +kernel
theorem dX0_findRoom_61 : decode cX0_findRoom 61 = .ok (.iinc 3 1, 3) := by decide +kernel
theorem dX0_findRoom_64 : decode cX0_findRoom 64 = .ok (.goto (-60), 3) := by decide +kernel
theorem dX0_findRoom_67 : decode cX0_findRoom 67 = .ok (.iload_n 2, 1) := by decide +kernel
theorem dX0_findRoom_68 : decode cX0_findRoom 68 = .ok (.ireturn, 1) := by decide +kernel
set_option maxRecDepth 20000 in
theorem ggX0_findGap_X2_at : GoodIn wsX0_findGap wsX2_at := goodIn_r _ [7, 8, 14] (by decide +kernel) (by decide +kernel)
set_option maxRecDepth 20000 in
theorem gX0_findGap_X2_at : GoodIn wsX0_findGap (wsV RX0 50 RX2 yX2_at wsX2_at) := goodIn_app (goodIn_of _ (by decide +kernel)) ggX0_findGap_X2_at
theorem dX0_findGap_0 : decode cX0_findGap 0 = .ok (.iconst 0, 1) := by decide +kernel
theorem dX0_findGap_1 : decode cX0_findGap 1 = .ok (.istore_n 1, 1) := by decide +kernel
theorem dX0_findGap_2 : decode cX0_findGap 2 = .ok (.iload_n 1, 1) := by decide +kernel
theorem dX0_findGap_3 : decode cX0_findGap 3 = .ok (.iconst 1, 1) := by decide +kernel
theorem dX0_findGap_4 : decode cX0_findGap 4 = .ok (.iadd, 1) := by decide +kernel
theorem dX0_findGap_5 : decode cX0_findGap 5 = .ok (.aload_n 0, 1) := by decide +kernel
theorem dX0_findGap_6 : decode cX0_findGap 6 = .ok (.getfield 29, 3) := by decide +kernel
theorem dX0_findGap_9 : decode cX0_findGap 9 = .ok (.if_icmp .ge 35, 3) := by decide +kernel
theorem dX0_findGap_12 : decode cX0_findGap 12 = .ok (.aload_n 0, 1) := by decide +kernel
theorem dX0_findGap_13 : decode cX0_findGap 13 = .ok (.getfield 16, 3) := by decide +kernel
theorem dX0_findGap_16 : decode cX0_findGap 16 = .ok (.iload_n 1, 1) := by decide +kernel
theorem dX0_findGap_17 : decode cX0_findGap 17 = .ok (.invokevirtual 50, 3) := by decide +kernel
theorem dX0_findGap_20 : decode cX0_findGap 20 = .ok (.ifCond .ne 18, 3) := by decide +kernel
theorem dX0_findGap_23 : decode cX0_findGap 23 = .ok (.aload_n 0, 1) := by decide +kernel
theorem dX0_findGap_24 : decode cX0_findGap 24 = .ok (.getfield 16, 3) := by decide +kernel
theorem dX0_findGap_27 : decode cX0_findGap 27 = .ok (.iload_n 1, 1) := by decide +kernel
theorem dX0_findGap_28 : decode cX0_findGap 28 = .ok (.iconst 1, 1) := by decide +kernel
theorem dX0_findGap_29 : decode cX0_findGap 29 = .ok (.iadd, 1) := by decide +kernel
theorem dX0_findGap_30 : decode cX0_findGap 30 = .ok (.invokevirtual 50, 3) := by decide +kernel
theorem dX0_findGap_33 : decode cX0_findGap 33 = .ok (.ifCond .eq 5, 3) := by decide +kernel
theorem dX0_findGap_36 : decode cX0_findGap 36 = .ok (.iload_n 1, 1) := by decide +kernel
theorem dX0_findGap_37 : decode cX0_findGap 37 = .ok (.ireturn, 1) := by decide +kernel
theorem dX0_findGap_38 : decode cX0_findGap 38 = .ok (.iinc 1 1, 3) := by decide +kernel
theorem dX0_findGap_41 : decode cX0_findGap 41 = .ok (.goto (-39), 3) := by decide +kernel
theorem dX0_findGap_44 : decode cX0_findGap 44 = .ok (.iconst (-1), 1) := by decide +kernel
theorem dX0_findGap_45 : decode cX0_findGap 45 = .ok (.ireturn, 1) := by decide +kernel
set_option maxRecDepth 20000 in
theorem ggX0_roomToSpare_X2_at : GoodIn wsX0_roomToSpare wsX2_at := goodIn_r _ [15, 16, 22] (by decide +kernel) (by decide +kernel)
set_option maxRecDepth 20000 in
theorem gX0_roomToSpare_X2_at : GoodIn wsX0_roomToSpare (wsV RX0 50 RX2 yX2_at wsX2_at) := goodIn_app (goodIn_of _ (by decide +kernel)) ggX0_roomToSpare_X2_at
theorem dX0_roomToSpare_0 : decode cX0_roomToSpare 0 = .ok (.iconst 0, 1) := by decide +kernel
theorem dX0_roomToSpare_1 : decode cX0_roomToSpare 1 = .ok (.istore_n 1, 1) := by decide +kernel
theorem dX0_roomToSpare_2 : decode cX0_roomToSpare 2 = .ok (.iconst 0, 1) := by decide +kernel
theorem dX0_roomToSpare_3 : decode cX0_roomToSpare 3 = .ok (.istore_n 2, 1) := by decide +kernel
theorem dX0_roomToSpare_4 : decode cX0_roomToSpare 4 = .ok (.iconst 0, 1) := by decide +kernel
theorem dX0_roomToSpare_5 : decode cX0_roomToSpare 5 = .ok (.istore_n 3, 1) := by decide +kernel
theorem dX0_roomToSpare_6 : decode cX0_roomToSpare 6 = .ok (.iload_n 3, 1) := by decide +kernel
theorem dX0_roomToSpare_7 : decode cX0_roomToSpare 7 = .ok (.aload_n 0, 1) := by decide +kernel
theorem dX0_roomToSpare_8 : decode cX0_roomToSpare 8 = .ok (.getfield 29, 3) := by decide +kernel
theorem dX0_roomToSpare_11 : decode cX0_roomToSpare 11 = .ok (.if_icmp .ge 52, 3) := by decide +kernel
theorem dX0_roomToSpare_14 : decode cX0_roomToSpare 14 = .ok (.aload_n 0, 1) := by decide +kernel
theorem dX0_roomToSpare_15 : decode cX0_roomToSpare 15 = .ok (.getfield 16, 3) := by decide +kernel
theorem dX0_roomToSpare_18 : decode cX0_roomToSpare 18 = .ok (.iload_n 3, 1) := by decide +kernel
theorem dX0_roomToSpare_19 : decode cX0_roomToSpare 19 = .ok (.invokevirtual 50, 3) := by decide +kernel
theorem dX0_roomToSpare_22 : decode cX0_roomToSpare 22 = .ok (.ifCond .ne 14, 3) := by decide +kernel
theorem dX0_roomToSpare_25 : decode cX0_roomToSpare 25 = .ok (.aload_n 0, 1) := by decide +kernel
theorem dX0_roomToSpare_26 : decode cX0_roomToSpare 26 = .ok (.getfield 20, 3) := by decide +kernel
theorem dX0_roomToSpare_29 : decode cX0_roomToSpare 29 = .ok (.iload_n 3, 1) := by decide +kernel
theorem dX0_roomToSpare_30 : decode cX0_roomToSpare 30 = .ok (.invokevirtual 50, 3) := by decide +kernel
theorem dX0_roomToSpare_33 : decode cX0_roomToSpare 33 = .ok (.goto 4, 3) := by decide +kernel
theorem dX0_roomToSpare_36 : decode cX0_roomToSpare 36 = .ok (.iconst 0, 1) := by decide +kernel
theorem dX0_roomToSpare_37 : decode cX0_roomToSpare 37 = .ok (.istore 4, 2) := by decide +kernel
theorem dX0_roomToSpare_39 : decode cX0_roomToSpare 39 = .ok (.iload_n 2, 1) := by decide +kernel
theorem dX0_roomToSpare_40 : decode cX0_roomToSpare 40 = .ok (.iload 4, 2) := by decide +kernel
theorem dX0_roomToSpare_42 : decode cX0_roomToSpare 42 = .ok (.iload_n 1, 1) := by decide +kernel
theorem dX0_roomToSpare_43 : decode cX0_roomToSpare 43 = .ok (.invokestatic 64, 3) := by decide +kernel
theorem dX0_roomToSpare_46 : decode cX0_roomToSpare 46 = .ok (.invokestatic 70, 3) := by decide +kernel
theorem dX0_roomToSpare_49 : decode cX0_roomToSpare 49 = .ok (.istore_n 2, 1) := by decide +kernel
theorem dX0_roomToSpare_50 : decode cX0_roomToSpare 50 = .ok (.iload_n 1, 1) := by decide +kernel
theorem dX0_roomToSpare_51 : decode cX0_roomToSpare 51 = .ok (.iload 4, 2) := by decide +kernel
theorem dX0_roomToSpare_53 : decode cX0_roomToSpare 53 = .ok (.invokestatic 70, 3) := by decide +kernel
theorem dX0_roomToSpare_56 : decode cX0_roomToSpare 56 = .ok (.istore_n 1, 1) := by decide +kernel
theorem dX0_roomToSpare_57 : decode cX0_roomToSpare 57 = .ok (.iinc 3 1, 3) := by decide +kernel
theorem dX0_roomToSpare_60 : decode cX0_roomToSpare 60 = .ok (.goto (-54), 3) := by decide +kernel
theorem dX0_roomToSpare_63 : decode cX0_roomToSpare 63 = .ok (.iload_n 1, 1) := by decide +kernel
theorem dX0_roomToSpare_64 : decode cX0_roomToSpare 64 = .ok (.iconst 2, 1) := by decide +kernel
theorem dX0_roomToSpare_65 : decode cX0_roomToSpare 65 = .ok (.idiv, 1) := by decide +kernel
theorem dX0_roomToSpare_66 : decode cX0_roomToSpare 66 = .ok (.iload_n 2, 1) := by decide +kernel
theorem dX0_roomToSpare_67 : decode cX0_roomToSpare 67 = .ok (.invokestatic 70, 3) := by decide +kernel
theorem dX0_roomToSpare_70 : decode cX0_roomToSpare 70 = .ok (.ireturn, 1) := by decide +kernel
set_option maxRecDepth 20000 in
theorem ggX0_longestEmpty_X2_at : GoodIn wsX0_longestEmpty wsX2_at := goodIn_r _ [12, 13, 19] (by decide +kernel) (by decide +kernel)
set_option maxRecDepth 20000 in
theorem gX0_longestEmpty_X2_at : GoodIn wsX0_longestEmpty (wsV RX0 50 RX2 yX2_at wsX2_at) := goodIn_app (goodIn_of _ (by decide +kernel)) ggX0_longestEmpty_X2_at
theorem dX0_longestEmpty_0 : decode cX0_longestEmpty 0 = .ok (.iconst 0, 1) := by decide +kernel
theorem dX0_longestEmpty_1 : decode cX0_longestEmpty 1 = .ok (.istore_n 1, 1) := by decide +kernel
theorem dX0_longestEmpty_2 : decode cX0_longestEmpty 2 = .ok (.iconst 0, 1) := by decide +kernel
theorem dX0_longestEmpty_3 : decode cX0_longestEmpty 3 = .ok (.istore_n 2, 1) := by decide +kernel
theorem dX0_longestEmpty_4 : decode cX0_longestEmpty 4 = .ok (.iload_n 2, 1) := by decide +kernel
theorem dX0_longestEmpty_5 : decode cX0_longestEmpty 5 = .ok (.aload_n 0, 1) := by decide +kernel
theorem dX0_longestEmpty_6 : decode cX0_longestEmpty 6 = .ok (.getfield 29, 3) := by decide +kernel
theorem dX0_longestEmpty_9 : decode cX0_longestEmpty 9 = .ok (.if_icmp .ge 33, 3) := by decide +kernel
theorem dX0_longestEmpty_12 : decode cX0_longestEmpty 12 = .ok (.aload_n 0, 1) := by decide +kernel
theorem dX0_longestEmpty_13 : decode cX0_longestEmpty 13 = .ok (.getfield 16, 3) := by decide +kernel
theorem dX0_longestEmpty_16 : decode cX0_longestEmpty 16 = .ok (.iload_n 2, 1) := by decide +kernel
theorem dX0_longestEmpty_17 : decode cX0_longestEmpty 17 = .ok (.invokevirtual 50, 3) := by decide +kernel
theorem dX0_longestEmpty_20 : decode cX0_longestEmpty 20 = .ok (.ifCond .ne 16, 3) := by decide +kernel
theorem dX0_longestEmpty_23 : decode cX0_longestEmpty 23 = .ok (.iload_n 1, 1) := by decide +kernel
theorem dX0_longestEmpty_24 : decode cX0_longestEmpty 24 = .ok (.aload_n 0, 1) := by decide +kernel
theorem dX0_longestEmpty_25 : decode cX0_longestEmpty 25 = .ok (.getfield 20, 3) := by decide +kernel
theorem dX0_longestEmpty_28 : decode cX0_longestEmpty 28 = .ok (.iload_n 2, 1) := by decide +kernel
theorem dX0_longestEmpty_29 : decode cX0_longestEmpty 29 = .ok (.invokevirtual 50, 3) := by decide +kernel
theorem dX0_longestEmpty_32 : decode cX0_longestEmpty 32 = .ok (.invokestatic 70, 3) := by decide +kernel
theorem dX0_longestEmpty_35 : decode cX0_longestEmpty 35 = .ok (.istore_n 1, 1) := by decide +kernel
theorem dX0_longestEmpty_36 : decode cX0_longestEmpty 36 = .ok (.iinc 2 1, 3) := by decide +kernel
theorem dX0_longestEmpty_39 : decode cX0_longestEmpty 39 = .ok (.goto (-35), 3) := by decide +kernel
theorem dX0_longestEmpty_42 : decode cX0_longestEmpty 42 = .ok (.iload_n 1, 1) := by decide +kernel
theorem dX0_longestEmpty_43 : decode cX0_longestEmpty 43 = .ok (.ireturn, 1) := by decide +kernel
set_option maxRecDepth 20000 in
theorem ggX0_emptyBlocks_X2_at : GoodIn wsX0_emptyBlocks wsX2_at := goodIn_r _ [8, 9, 15] (by decide +kernel) (by decide +kernel)
set_option maxRecDepth 20000 in
theorem gX0_emptyBlocks_X2_at : GoodIn wsX0_emptyBlocks (wsV RX0 50 RX2 yX2_at wsX2_at) := goodIn_app (goodIn_of _ (by decide +kernel)) ggX0_emptyBlocks_X2_at
theorem dX0_emptyBlocks_0 : decode cX0_emptyBlocks 0 = .ok (.iconst 0, 1) := by decide +kernel
theorem dX0_emptyBlocks_1 : decode cX0_emptyBlocks 1 = .ok (.istore_n 1, 1) := by decide +kernel
theorem dX0_emptyBlocks_2 : decode cX0_emptyBlocks 2 = .ok (.iconst 0, 1) := by decide +kernel
theorem dX0_emptyBlocks_3 : decode cX0_emptyBlocks 3 = .ok (.istore_n 2, 1) := by decide +kernel
theorem dX0_emptyBlocks_4 : decode cX0_emptyBlocks 4 = .ok (.iload_n 2, 1) := by decide +kernel
theorem dX0_emptyBlocks_5 : decode cX0_emptyBlocks 5 = .ok (.aload_n 0, 1) := by decide +kernel
theorem dX0_emptyBlocks_6 : decode cX0_emptyBlocks 6 = .ok (.getfield 29, 3) := by decide +kernel
theorem dX0_emptyBlocks_9 : decode cX0_emptyBlocks 9 = .ok (.if_icmp .ge 31, 3) := by decide +kernel
theorem dX0_emptyBlocks_12 : decode cX0_emptyBlocks 12 = .ok (.aload_n 0, 1) := by decide +kernel
theorem dX0_emptyBlocks_13 : decode cX0_emptyBlocks 13 = .ok (.getfield 16, 3) := by decide +kernel
theorem dX0_emptyBlocks_16 : decode cX0_emptyBlocks 16 = .ok (.iload_n 2, 1) := by decide +kernel
theorem dX0_emptyBlocks_17 : decode cX0_emptyBlocks 17 = .ok (.invokevirtual 50, 3) := by decide +kernel
theorem dX0_emptyBlocks_20 : decode cX0_emptyBlocks 20 = .ok (.ifCond .ne 14, 3) := by decide +kernel
theorem dX0_emptyBlocks_23 : decode cX0_emptyBlocks 23 = .ok (.iload_n 1, 1) := by decide +kernel
theorem dX0_emptyBlocks_24 : decode cX0_emptyBlocks 24 = .ok (.aload_n 0, 1) := by decide +kernel
theorem dX0_emptyBlocks_25 : decode cX0_emptyBlocks 25 = .ok (.getfield 20, 3) := by decide +kernel
theorem dX0_emptyBlocks_28 : decode cX0_emptyBlocks 28 = .ok (.iload_n 2, 1) := by decide +kernel
theorem dX0_emptyBlocks_29 : decode cX0_emptyBlocks 29 = .ok (.invokevirtual 50, 3) := by decide +kernel
theorem dX0_emptyBlocks_32 : decode cX0_emptyBlocks 32 = .ok (.iadd, 1) := by decide +kernel
theorem dX0_emptyBlocks_33 : decode cX0_emptyBlocks 33 = .ok (.istore_n 1, 1) := by decide +kernel
theorem dX0_emptyBlocks_34 : decode cX0_emptyBlocks 34 = .ok (.iinc 2 1, 3) := by decide +kernel
theorem dX0_emptyBlocks_37 : decode cX0_emptyBlocks 37 = .ok (.goto (-33), 3) := by decide +kernel
theorem dX0_emptyBlocks_40 : decode cX0_emptyBlocks 40 = .ok (.iload_n 1, 1) := by decide +kernel
theorem dX0_emptyBlocks_41 : decode cX0_emptyBlocks 41 = .ok (.ireturn, 1) := by decide +kernel
theorem dX1_init_0 : decode cX1_init 0 = .ok (.aload_n 0, 1) := by decide +kernel
theorem dX1_init_1 : decode cX1_init 1 = .ok (.invokespecial 3, 3) := by decide +kernel
theorem dX1_init_4 : decode cX1_init 4 = .ok (.aload_n 0, 1) := by decide +kernel
theorem dX1_init_5 : decode cX1_init 5 = .ok (.iconst 1, 1) := by decide +kernel
theorem dX1_init_6 : decode cX1_init 6 = .ok (.putfield 9, 3) := by decide +kernel
theorem dX1_init_9 : decode cX1_init 9 = .ok (.aload_n 0, 1) := by decide +kernel
theorem dX1_init_10 : decode cX1_init 10 = .ok (.iconst (-1), 1) := by decide +kernel
theorem dX1_init_11 : decode cX1_init 11 = .ok (.putfield 15, 3) := by decide +kernel
theorem dX1_init_14 : decode cX1_init 14 = .ok (.aload_n 0, 1) := by decide +kernel
theorem dX1_init_15 : decode cX1_init 15 = .ok (.iconst 0, 1) := by decide +kernel
theorem dX1_init_16 : decode cX1_init 16 = .ok (.putfield 19, 3) := by decide +kernel
theorem dX1_init_19 : decode cX1_init 19 = .ok (.return_, 1) := by decide +kernel
theorem dX1_isUp_0 : decode cX1_isUp 0 = .ok (.aload_n 0, 1) := by decide +kernel
theorem dX1_isUp_1 : decode cX1_isUp 1 = .ok (.getfield 9, 3) := by decide +kernel
theorem dX1_isUp_4 : decode cX1_isUp 4 = .ok (.ireturn, 1) := by decide +kernel
theorem dX1_made_0 : decode cX1_made 0 = .ok (.aload_n 0, 1) := by decide +kernel
theorem dX1_made_1 : decode cX1_made 1 = .ok (.getfield 19, 3) := by decide +kernel
theorem dX1_made_4 : decode cX1_made 4 = .ok (.ireturn, 1) := by decide +kernel
theorem dX1_failAfter_0 : decode cX1_failAfter 0 = .ok (.aload_n 0, 1) := by decide +kernel
theorem dX1_failAfter_1 : decode cX1_failAfter 1 = .ok (.iload_n 1, 1) := by decide +kernel
theorem dX1_failAfter_2 : decode cX1_failAfter 2 = .ok (.putfield 15, 3) := by decide +kernel
theorem dX1_failAfter_5 : decode cX1_failAfter 5 = .ok (.return_, 1) := by decide +kernel
theorem dX1_comeAgain_0 : decode cX1_comeAgain 0 = .ok (.aload_n 0, 1) := by decide +kernel
theorem dX1_comeAgain_1 : decode cX1_comeAgain 1 = .ok (.iconst 1, 1) := by decide +kernel
theorem dX1_comeAgain_2 : decode cX1_comeAgain 2 = .ok (.putfield 9, 3) := by decide +kernel
theorem dX1_comeAgain_5 : decode cX1_comeAgain 5 = .ok (.aload_n 0, 1) := by decide +kernel
theorem dX1_comeAgain_6 : decode cX1_comeAgain 6 = .ok (.iconst (-1), 1) := by decide +kernel
theorem dX1_comeAgain_7 : decode cX1_comeAgain 7 = .ok (.putfield 15, 3) := by decide +kernel
theorem dX1_comeAgain_10 : decode cX1_comeAgain 10 = .ok (.return_, 1) := by decide +kernel
theorem dX1_countWrite_0 : decode cX1_countWrite 0 = .ok (.aload_n 0, 1) := by decide +kernel
theorem dX1_countWrite_1 : decode cX1_countWrite 1 = .ok (.getfield 15, 3) := by decide +kernel
theorem dX1_countWrite_4 : decode cX1_countWrite 4 = .ok (.ifCond .ne 8, 3) := by decide +kernel
theorem dX1_countWrite_7 : decode cX1_countWrite 7 = .ok (.aload_n 0, 1) := by decide +kernel
theorem dX1_countWrite_8 : decode cX1_countWrite 8 = .ok (.iconst 0, 1) := by decide +kernel
theorem dX1_countWrite_9 : decode cX1_countWrite 9 = .ok (.putfield 9, 3) := by decide +kernel
theorem dX1_countWrite_12 : decode cX1_countWrite 12 = .ok (.aload_n 0, 1) := by decide +kernel
theorem dX1_countWrite_13 : decode cX1_countWrite 13 = .ok (.getfield 9, 3) := by decide +kernel
theorem dX1_countWrite_16 : decode cX1_countWrite 16 = .ok (.ifCond .ne 5, 3) := by decide +kernel
theorem dX1_countWrite_19 : decode cX1_countWrite 19 = .ok (.iconst 0, 1) := by decide +kernel
theorem dX1_countWrite_20 : decode cX1_countWrite 20 = .ok (.ireturn, 1) := by decide +kernel
theorem dX1_countWrite_21 : decode cX1_countWrite 21 = .ok (.aload_n 0, 1) := by decide +kernel
theorem dX1_countWrite_22 : decode cX1_countWrite 22 = .ok (.getfield 15, 3) := by decide +kernel
theorem dX1_countWrite_25 : decode cX1_countWrite 25 = .ok (.ifCond .le 13, 3) := by decide +kernel
theorem dX1_countWrite_28 : decode cX1_countWrite 28 = .ok (.aload_n 0, 1) := by decide +kernel
theorem dX1_countWrite_29 : decode cX1_countWrite 29 = .ok (.dup, 1) := by decide +kernel
theorem dX1_countWrite_30 : decode cX1_countWrite 30 = .ok (.getfield 15, 3) := by decide +kernel
theorem dX1_countWrite_33 : decode cX1_countWrite 33 = .ok (.iconst 1, 1) := by decide +kernel
theorem dX1_countWrite_34 : decode cX1_countWrite 34 = .ok (.isub, 1) := by decide +kernel
theorem dX1_countWrite_35 : decode cX1_countWrite 35 = .ok (.putfield 15, 3) := by decide +kernel
theorem dX1_countWrite_38 : decode cX1_countWrite 38 = .ok (.aload_n 0, 1) := by decide +kernel
theorem dX1_countWrite_39 : decode cX1_countWrite 39 = .ok (.dup, 1) := by decide +kernel
theorem dX1_countWrite_40 : decode cX1_countWrite 40 = .ok (.getfield 19, 3) := by decide +kernel
theorem dX1_countWrite_43 : decode cX1_countWrite 43 = .ok (.iconst 1, 1) := by decide +kernel
theorem dX1_countWrite_44 : decode cX1_countWrite 44 = .ok (.iadd, 1) := by decide +kernel
theorem dX1_countWrite_45 : decode cX1_countWrite 45 = .ok (.putfield 19, 3) := by decide +kernel
theorem dX1_countWrite_48 : decode cX1_countWrite 48 = .ok (.iconst 1, 1) := by decide +kernel
theorem dX1_countWrite_49 : decode cX1_countWrite 49 = .ok (.ireturn, 1) := by decide +kernel
theorem dX2_init_0 : decode cX2_init 0 = .ok (.aload_n 0, 1) := by decide +kernel
theorem dX2_init_1 : decode cX2_init 1 = .ok (.invokespecial 1, 3) := by decide +kernel
theorem dX2_init_4 : decode cX2_init 4 = .ok (.aload_n 0, 1) := by decide +kernel
theorem dX2_init_5 : decode cX2_init 5 = .ok (.iconst 0, 1) := by decide +kernel
theorem dX2_init_6 : decode cX2_init 6 = .ok (.iload_n 1, 1) := by decide +kernel
theorem dX2_init_7 : decode cX2_init 7 = .ok (.invokestatic 7, 3) := by decide +kernel
theorem dX2_init_10 : decode cX2_init 10 = .ok (.newarray .int, 2) := by decide +kernel
theorem dX2_init_12 : decode cX2_init 12 = .ok (.putfield 13, 3) := by decide +kernel
theorem dX2_init_15 : decode cX2_init 15 = .ok (.return_, 1) := by decide +kernel
theorem dX2_at_0 : decode cX2_at 0 = .ok (.iload_n 1, 1) := by decide +kernel
theorem dX2_at_1 : decode cX2_at 1 = .ok (.ifCond .lt 21, 3) := by decide +kernel
theorem dX2_at_4 : decode cX2_at 4 = .ok (.iload_n 1, 1) := by decide +kernel
theorem dX2_at_5 : decode cX2_at 5 = .ok (.aload_n 0, 1) := by decide +kernel
theorem dX2_at_6 : decode cX2_at 6 = .ok (.getfield 13, 3) := by decide +kernel
theorem dX2_at_9 : decode cX2_at 9 = .ok (.arraylength, 1) := by decide +kernel
theorem dX2_at_10 : decode cX2_at 10 = .ok (.if_icmp .ge 12, 3) := by decide +kernel
theorem dX2_at_13 : decode cX2_at 13 = .ok (.aload_n 0, 1) := by decide +kernel
theorem dX2_at_14 : decode cX2_at 14 = .ok (.getfield 13, 3) := by decide +kernel
theorem dX2_at_17 : decode cX2_at 17 = .ok (.iload_n 1, 1) := by decide +kernel
theorem dX2_at_18 : decode cX2_at 18 = .ok (.iaload, 1) := by decide +kernel
theorem dX2_at_19 : decode cX2_at 19 = .ok (.goto 4, 3) := by decide +kernel
theorem dX2_at_22 : decode cX2_at 22 = .ok (.iconst 0, 1) := by decide +kernel
theorem dX2_at_23 : decode cX2_at 23 = .ok (.ireturn, 1) := by decide +kernel
theorem dX2_set_0 : decode cX2_set 0 = .ok (.iload_n 1, 1) := by decide +kernel
theorem dX2_set_1 : decode cX2_set 1 = .ok (.ifCond .lt 19, 3) := by decide +kernel
theorem dX2_set_4 : decode cX2_set 4 = .ok (.iload_n 1, 1) := by decide +kernel
theorem dX2_set_5 : decode cX2_set 5 = .ok (.aload_n 0, 1) := by decide +kernel
theorem dX2_set_6 : decode cX2_set 6 = .ok (.getfield 13, 3) := by decide +kernel
theorem dX2_set_9 : decode cX2_set 9 = .ok (.arraylength, 1) := by decide +kernel
theorem dX2_set_10 : decode cX2_set 10 = .ok (.if_icmp .ge 10, 3) := by decide +kernel
theorem dX2_set_13 : decode cX2_set 13 = .ok (.aload_n 0, 1) := by decide +kernel
theorem dX2_set_14 : decode cX2_set 14 = .ok (.getfield 13, 3) := by decide +kernel
theorem dX2_set_17 : decode cX2_set 17 = .ok (.iload_n 1, 1) := by decide +kernel
theorem dX2_set_18 : decode cX2_set 18 = .ok (.iload_n 2, 1) := by decide +kernel
theorem dX2_set_19 : decode cX2_set 19 = .ok (.iastore, 1) := by decide +kernel
theorem dX2_set_20 : decode cX2_set 20 = .ok (.return_, 1) := by decide +kernel
set_option maxRecDepth 20000 in
theorem ggX2_takeOver_X2_at : GoodIn wsX2_takeOver wsX2_at := goodIn_r _ [6, 1, 7] (by decide +kernel) (by decide +kernel)
set_option maxRecDepth 20000 in
theorem gX2_takeOver_X2_at : GoodIn wsX2_takeOver (wsV RX2 19 RX2 yX2_at wsX2_at) := goodIn_app (goodIn_of _ (by decide +kernel)) ggX2_takeOver_X2_at
theorem dX2_takeOver_0 : decode cX2_takeOver 0 = .ok (.iconst 0, 1) := by decide +kernel
theorem dX2_takeOver_1 : decode cX2_takeOver 1 = .ok (.istore_n 2, 1) := by decide +kernel
theorem dX2_takeOver_2 : decode cX2_takeOver 2 = .ok (.iload_n 2, 1) := by decide +kernel
theorem dX2_takeOver_3 : decode cX2_takeOver 3 = .ok (.aload_n 0, 1) := by decide +kernel
theorem dX2_takeOver_4 : decode cX2_takeOver 4 = .ok (.getfield 13, 3) := by decide +kernel
theorem dX2_takeOver_7 : decode cX2_takeOver 7 = .ok (.arraylength, 1) := by decide +kernel
theorem dX2_takeOver_8 : decode cX2_takeOver 8 = .ok (.if_icmp .ge 20, 3) := by decide +kernel
theorem dX2_takeOver_11 : decode cX2_takeOver 11 = .ok (.aload_n 0, 1) := by decide +kernel
theorem dX2_takeOver_12 : decode cX2_takeOver 12 = .ok (.getfield 13, 3) := by decide +kernel
theorem dX2_takeOver_15 : decode cX2_takeOver 15 = .ok (.iload_n 2, 1) := by decide +kernel
theorem dX2_takeOver_16 : decode cX2_takeOver 16 = .ok (.aload_n 1, 1) := by decide +kernel
theorem dX2_takeOver_17 : decode cX2_takeOver 17 = .ok (.iload_n 2, 1) := by decide +kernel
theorem dX2_takeOver_18 : decode cX2_takeOver 18 = .ok (.invokevirtual 19, 3) := by decide +kernel
theorem dX2_takeOver_21 : decode cX2_takeOver 21 = .ok (.iastore, 1) := by decide +kernel
theorem dX2_takeOver_22 : decode cX2_takeOver 22 = .ok (.iinc 2 1, 3) := by decide +kernel
theorem dX2_takeOver_25 : decode cX2_takeOver 25 = .ok (.goto (-23), 3) := by decide +kernel
theorem dX2_takeOver_28 : decode cX2_takeOver 28 = .ok (.return_, 1) := by decide +kernel
set_option maxRecDepth 20000 in
theorem ggX3_init_X1_init : GoodIn wsX3_init wsX1_init := goodIn_r _ [21, 22, 2, 3, 23, 24, 25, 63, 64, 65] (by decide +kernel) (by decide +kernel)
set_option maxRecDepth 20000 in
theorem gX3_init_X1_init : GoodIn wsX3_init (wsX1_init) := ggX3_init_X1_init
set_option maxRecDepth 20000 in
theorem ggX3_init_X2_init : GoodIn wsX3_init wsX2_init := goodIn_r _ [28, 29, 2, 3, 30, 31, 32, 33, 34, 35, 72] (by decide +kernel) (by decide +kernel)
set_option maxRecDepth 20000 in
theorem gX3_init_X2_init : GoodIn wsX3_init (wsX2_init) := ggX3_init_X2_init
set_option maxRecDepth 20000 in
theorem ggX3_init_X0_init : GoodIn wsX3_init wsX0_init := goodIn_r _ [38, 39, 2, 3, 40, 9, 10, 41, 42, 43, 44, 45, 46, 27, 28, 29, 30, 31, 32, 33, 34, 35, 72, 73, 74, 75, 76, 77] (by decide +kernel) (by decide +kernel)
set_option maxRecDepth 20000 in
theorem gX3_init_X0_init : GoodIn wsX3_init (wsX0_init) := ggX3_init_X0_init
set_option maxRecDepth 20000 in
theorem ggX3_init_X0_addEmpty : GoodIn wsX3_init wsX0_addEmpty := goodIn_r _ [50, 51, 52, 53, 14, 54, 45, 41, 42, 43, 44, 55, 56, 57, 10, 58, 35, 59, 60, 61, 62, 73, 74, 75, 76, 77, 72] (by decide +kernel) (by decide +kernel)
set_option maxRecDepth 20000 in
theorem gX3_init_X0_addEmpty : GoodIn wsX3_init (wsV RX3 43 RX0 yX0_addEmpty wsX0_addEmpty) := goodIn_app (goodIn_of _ (by decide +kernel)) ggX3_init_X0_addEmpty
theorem dX3_init_0 : decode cX3_init 0 = .ok (.aload_n 0, 1) := by decide +kernel
theorem dX3_init_1 : decode cX3_init 1 = .ok (.invokespecial 1, 3) := by decide +kernel
theorem dX3_init_4 : decode cX3_init 4 = .ok (.aload_n 0, 1) := by decide +kernel
theorem dX3_init_5 : decode cX3_init 5 = .ok (.new 7, 3) := by decide +kernel
theorem dX3_init_8 : decode cX3_init 8 = .ok (.dup, 1) := by decide +kernel
theorem dX3_init_9 : decode cX3_init 9 = .ok (.invokespecial 9, 3) := by decide +kernel
theorem dX3_init_12 : decode cX3_init 12 = .ok (.putfield 10, 3) := by decide +kernel
theorem dX3_init_15 : decode cX3_init 15 = .ok (.aload_n 0, 1) := by decide +kernel
theorem dX3_init_16 : decode cX3_init 16 = .ok (.new 16, 3) := by decide +kernel
theorem dX3_init_19 : decode cX3_init 19 = .ok (.dup, 1) := by decide +kernel
theorem dX3_init_20 : decode cX3_init 20 = .ok (.bipush 48, 2) := by decide +kernel
theorem dX3_init_22 : decode cX3_init 22 = .ok (.invokespecial 18, 3) := by decide +kernel
theorem dX3_init_25 : decode cX3_init 25 = .ok (.putfield 21, 3) := by decide +kernel
theorem dX3_init_28 : decode cX3_init 28 = .ok (.aload_n 0, 1) := by decide +kernel
theorem dX3_init_29 : decode cX3_init 29 = .ok (.new 25, 3) := by decide +kernel
theorem dX3_init_32 : decode cX3_init 32 = .ok (.dup, 1) := by decide +kernel
theorem dX3_init_33 : decode cX3_init 33 = .ok (.invokespecial 27, 3) := by decide +kernel
theorem dX3_init_36 : decode cX3_init 36 = .ok (.putfield 28, 3) := by decide +kernel
theorem dX3_init_39 : decode cX3_init 39 = .ok (.aload_n 0, 1) := by decide +kernel
theorem dX3_init_40 : decode cX3_init 40 = .ok (.new 25, 3) := by decide +kernel
theorem dX3_init_43 : decode cX3_init 43 = .ok (.dup, 1) := by decide +kernel
theorem dX3_init_44 : decode cX3_init 44 = .ok (.invokespecial 27, 3) := by decide +kernel
theorem dX3_init_47 : decode cX3_init 47 = .ok (.putfield 32, 3) := by decide +kernel
theorem dX3_init_50 : decode cX3_init 50 = .ok (.aload_n 0, 1) := by decide +kernel
theorem dX3_init_51 : decode cX3_init 51 = .ok (.iconst 0, 1) := by decide +kernel
theorem dX3_init_52 : decode cX3_init 52 = .ok (.putfield 35, 3) := by decide +kernel
theorem dX3_init_55 : decode cX3_init 55 = .ok (.aload_n 0, 1) := by decide +kernel
theorem dX3_init_56 : decode cX3_init 56 = .ok (.iconst (-1), 1) := by decide +kernel
theorem dX3_init_57 : decode cX3_init 57 = .ok (.putfield 39, 3) := by decide +kernel
theorem dX3_init_60 : decode cX3_init 60 = .ok (.aload_n 0, 1) := by decide +kernel
theorem dX3_init_61 : decode cX3_init 61 = .ok (.getfield 28, 3) := by decide +kernel
theorem dX3_init_64 : decode cX3_init 64 = .ok (.bipush 48, 2) := by decide +kernel
theorem dX3_init_66 : decode cX3_init 66 = .ok (.invokevirtual 43, 3) := by decide +kernel
theorem dX3_init_69 : decode cX3_init 69 = .ok (.return_, 1) := by decide +kernel
set_option maxRecDepth 20000 in
theorem ggX3_enter_X3_requirePower : GoodIn wsX3_enter wsX3_requirePower := goodIn_ca (goodIn_r _ [12, 3, 4, 13, 14, 15, 16, 17, 18, 19, 129, 130, 131, 132, 133, 134, 135, 136, 137] (by decide +kernel) (by decide +kernel)) (goodIn_sub (fun _ h => List.mem_cons_of_mem _ (List.mem_append_left _ (List.mem_append_right _ h))) (by decide +kernel))
set_option maxRecDepth 20000 in
theorem gX3_enter_X3_requirePower : GoodIn wsX3_enter (wsV RX3 46 RX3 yX3_requirePower wsX3_requirePower) := goodIn_app (goodIn_of _ (by decide +kernel)) ggX3_enter_X3_requirePower
set_option maxRecDepth 20000 in
theorem ggX3_enter_X3_requireName : GoodIn wsX3_enter wsX3_requireName := goodIn_ca (goodIn_r _ [23, 1, 2] (by decide +kernel) (by decide +kernel)) (goodIn_sub (fun _ h => List.mem_cons_of_mem _ (List.mem_append_left _ (List.mem_append_left _ (List.mem_append_right _ h)))) (by decide +kernel))
set_option maxRecDepth 20000 in
theorem gX3_enter_X3_requireName : GoodIn wsX3_enter (wsV RX3 49 RX3 yX3_requireName wsX3_requireName) := goodIn_app (goodIn_of _ (by decide +kernel)) ggX3_enter_X3_requireName
set_option maxRecDepth 20000 in
theorem ggX3_enter_X0_leastFreeHandle : GoodIn wsX3_enter wsX0_leastFreeHandle := goodIn_r _ [28, 29, 30, 31, 27, 32, 33, 34, 35, 36, 37, 38, 39, 40, 41, 138, 139, 140, 141, 142, 143] (by decide +kernel) (by decide +kernel)
set_option maxRecDepth 20000 in
theorem gX3_enter_X0_leastFreeHandle : GoodIn wsX3_enter (wsV RX3 59 RX0 yX0_leastFreeHandle wsX0_leastFreeHandle) := goodIn_app (goodIn_of _ (by decide +kernel)) ggX3_enter_X0_leastFreeHandle
set_option maxRecDepth 20000 in
theorem ggX3_enter_X0_roomToSpare : GoodIn wsX3_enter wsX0_roomToSpare := goodIn_r _ [45, 33, 34, 46, 47, 48, 49, 50, 51, 52, 53, 36, 37, 38, 39, 40, 41, 138, 139, 140, 141, 142, 143] (by decide +kernel) (by decide +kernel)
set_option maxRecDepth 20000 in
theorem gX3_enter_X0_roomToSpare : GoodIn wsX3_enter (wsV RX3 68 RX0 yX0_roomToSpare wsX0_roomToSpare) := goodIn_app (goodIn_of _ (by decide +kernel)) ggX3_enter_X0_roomToSpare
set_option maxRecDepth 20000 in
theorem ggX3_enter_X0_findRoom : GoodIn wsX3_enter wsX0_findRoom := goodIn_r _ [57, 33, 34, 46, 36, 37, 38, 39, 40, 41, 138, 139, 140, 141, 142, 143] (by decide +kernel) (by decide +kernel)
set_option maxRecDepth 20000 in
theorem gX3_enter_X0_findRoom : GoodIn wsX3_enter (wsV RX3 71 RX0 yX0_findRoom wsX0_findRoom) := goodIn_app (goodIn_of _ (by decide +kernel)) ggX3_enter_X0_findRoom
set_option maxRecDepth 20000 in
theorem ggX3_enter_X3_draftOpened : GoodIn wsX3_enter wsX3_draftOpened := goodIn_r _ [61, 62, 7, 63, 64, 65, 27, 66, 33, 67, 68, 69, 70, 71, 72, 73, 74, 34, 36, 37, 38, 39, 40, 41, 75, 76, 77, 78, 46, 79, 80, 81, 82, 83, 84, 85, 86, 87, 35, 88, 89, 90, 91, 92, 93, 94, 95, 96, 97, 98, 99, 100, 101, 102, 103, 104, 105, 129, 130, 131, 132, 133, 134, 138, 139, 140, 141, 142, 143] (by decide +kernel) (by decide +kernel)
set_option maxRecDepth 20000 in
theorem gX3_enter_X3_draftOpened : GoodIn wsX3_enter (wsV RX3 80 RX3 yX3_draftOpened wsX3_draftOpened) := goodIn_app (goodIn_of _ (by decide +kernel)) ggX3_enter_X3_draftOpened
set_option maxRecDepth 20000 in
theorem ggX3_enter_X3_requireFewEntries : GoodIn wsX3_enter wsX3_requireFewEntries := goodIn_ca (goodIn_r _ [109, 5, 6, 62, 102, 103, 104, 27, 105, 33, 129, 130, 131, 132, 133, 134, 138, 139, 140, 141, 142] (by decide +kernel) (by decide +kernel)) (goodIn_sub (fun _ h => List.mem_cons_of_mem _ (List.mem_append_right _ h)) (by decide +kernel))
set_option maxRecDepth 20000 in
theorem gX3_enter_X3_requireFewEntries : GoodIn wsX3_enter (wsV RX3 84 RX3 yX3_requireFewEntries wsX3_requireFewEntries) := goodIn_app (goodIn_of _ (by decide +kernel)) ggX3_enter_X3_requireFewEntries
set_option maxRecDepth 20000 in
theorem ggX3_enter_X3_change : GoodIn wsX3_enter wsX3_change := goodIn_r _ [113, 62, 13, 7, 102, 103, 104, 27, 105, 33, 114, 115, 116, 17, 117, 118, 19, 119, 120, 121, 122, 123, 34, 46, 83, 35, 124, 125, 126, 39, 127, 41, 128, 37, 38, 40, 129, 130, 131, 132, 133, 134, 138, 139, 140, 141, 142, 135, 136, 137, 143] (by decide +kernel) (by decide +kernel)
set_option maxRecDepth 20000 in
theorem gX3_enter_X3_change : GoodIn wsX3_enter (wsV RX3 87 RX3 yX3_change wsX3_change) := goodIn_app (goodIn_of _ (by decide +kernel)) ggX3_enter_X3_change
theorem dX3_enter_0 : decode cX3_enter 0 = .ok (.aload_n 0, 1) := by decide +kernel
theorem dX3_enter_1 : decode cX3_enter 1 = .ok (.invokevirtual 46, 3) := by decide +kernel
theorem dX3_enter_4 : decode cX3_enter 4 = .ok (.aload_n 0, 1) := by decide +kernel
theorem dX3_enter_5 : decode cX3_enter 5 = .ok (.iload_n 1, 1) := by decide +kernel
theorem dX3_enter_6 : decode cX3_enter 6 = .ok (.invokevirtual 49, 3) := by decide +kernel
theorem dX3_enter_9 : decode cX3_enter 9 = .ok (.iload_n 2, 1) := by decide +kernel
theorem dX3_enter_10 : decode cX3_enter 10 = .ok (.ifCond .lt 9, 3) := by decide +kernel
theorem dX3_enter_13 : decode cX3_enter 13 = .ok (.iload_n 2, 1) := by decide +kernel
theorem dX3_enter_14 : decode cX3_enter 14 = .ok (.bipush 48, 2) := by decide +kernel
theorem dX3_enter_16 : decode cX3_enter 16 = .ok (.if_icmp .le 13, 3) := by decide +kernel
theorem dX3_enter_19 : decode cX3_enter 19 = .ok (.new 52, 3) := by decide +kernel
theorem dX3_enter_22 : decode cX3_enter 22 = .ok (.dup, 1) := by decide +kernel
theorem dX3_enter_23 : decode cX3_enter 23 = .ok (.ldc 54, 2) := by decide +kernel
theorem dX3_enter_25 : decode cX3_enter 25 = .ok (.invokespecial 56, 3) := by decide +kernel
theorem dX3_enter_28 : decode cX3_enter 28 = .ok (.athrow, 1) := by decide +kernel
theorem dX3_enter_29 : decode cX3_enter 29 = .ok (.aload_n 0, 1) := by decide +kernel
theorem dX3_enter_30 : decode cX3_enter 30 = .ok (.getfield 28, 3) := by decide +kernel
theorem dX3_enter_33 : decode cX3_enter 33 = .ok (.invokevirtual 59, 3) := by decide +kernel
theorem dX3_enter_36 : decode cX3_enter 36 = .ok (.istore_n 3, 1) := by decide +kernel
theorem dX3_enter_37 : decode cX3_enter 37 = .ok (.iload_n 3, 1) := by decide +kernel
theorem dX3_enter_38 : decode cX3_enter 38 = .ok (.iconst (-1), 1) := by decide +kernel
theorem dX3_enter_39 : decode cX3_enter 39 = .ok (.if_icmp .ne 13, 3) := by decide +kernel
theorem dX3_enter_42 : decode cX3_enter 42 = .ok (.new 63, 3) := by decide +kernel
theorem dX3_enter_45 : decode cX3_enter 45 = .ok (.dup, 1) := by decide +kernel
theorem dX3_enter_46 : decode cX3_enter 46 = .ok (.ldc 65, 2) := by decide +kernel
theorem dX3_enter_48 : decode cX3_enter 48 = .ok (.invokespecial 67, 3) := by decide +kernel
theorem dX3_enter_51 : decode cX3_enter 51 = .ok (.athrow, 1) := by decide +kernel
theorem dX3_enter_52 : decode cX3_enter 52 = .ok (.iload_n 2, 1) := by decide +kernel
theorem dX3_enter_53 : decode cX3_enter 53 = .ok (.ifCond .ne 13, 3) := by decide +kernel
theorem dX3_enter_56 : decode cX3_enter 56 = .ok (.aload_n 0, 1) := by decide +kernel
theorem dX3_enter_57 : decode cX3_enter 57 = .ok (.getfield 28, 3) := by decide +kernel
theorem dX3_enter_60 : decode cX3_enter 60 = .ok (.invokevirtual 68, 3) := by decide +kernel
theorem dX3_enter_63 : decode cX3_enter 63 = .ok (.goto 4, 3) := by decide +kernel
theorem dX3_enter_66 : decode cX3_enter 66 = .ok (.iload_n 2, 1) := by decide +kernel
theorem dX3_enter_67 : decode cX3_enter 67 = .ok (.istore 4, 2) := by decide +kernel
theorem dX3_enter_69 : decode cX3_enter 69 = .ok (.aload_n 0, 1) := by decide +kernel
theorem dX3_enter_70 : decode cX3_enter 70 = .ok (.getfield 28, 3) := by decide +kernel
theorem dX3_enter_73 : decode cX3_enter 73 = .ok (.iload 4, 2) := by decide +kernel
theorem dX3_enter_75 : decode cX3_enter 75 = .ok (.invokevirtual 71, 3) := by decide +kernel
theorem dX3_enter_78 : decode cX3_enter 78 = .ok (.istore 5, 2) := by decide +kernel
theorem dX3_enter_80 : decode cX3_enter 80 = .ok (.iload 4, 2) := by decide +kernel
theorem dX3_enter_82 : decode cX3_enter 82 = .ok (.ifCond .eq 9, 3) := by decide +kernel
theorem dX3_enter_85 : decode cX3_enter 85 = .ok (.iload 5, 2) := by decide +kernel
theorem dX3_enter_87 : decode cX3_enter 87 = .ok (.iconst (-1), 1) := by decide +kernel
theorem dX3_enter_88 : decode cX3_enter 88 = .ok (.if_icmp .ne 13, 3) := by decide +kernel
theorem dX3_enter_91 : decode cX3_enter 91 = .ok (.new 75, 3) := by decide +kernel
theorem dX3_enter_94 : decode cX3_enter 94 = .ok (.dup, 1) := by decide +kernel
theorem dX3_enter_95 : decode cX3_enter 95 = .ok (.ldc 77, 2) := by decide +kernel
theorem dX3_enter_97 : decode cX3_enter 97 = .ok (.invokespecial 79, 3) := by decide +kernel
theorem dX3_enter_100 : decode cX3_enter 100 = .ok (.athrow, 1) := by decide +kernel
theorem dX3_enter_101 : decode cX3_enter 101 = .ok (.aload_n 0, 1) := by decide +kernel
theorem dX3_enter_102 : decode cX3_enter 102 = .ok (.iload 5, 2) := by decide +kernel
theorem dX3_enter_104 : decode cX3_enter 104 = .ok (.iload 4, 2) := by decide +kernel
theorem dX3_enter_106 : decode cX3_enter 106 = .ok (.iload_n 1, 1) := by decide +kernel
theorem dX3_enter_107 : decode cX3_enter 107 = .ok (.iload_n 3, 1) := by decide +kernel
theorem dX3_enter_108 : decode cX3_enter 108 = .ok (.invokevirtual 80, 3) := by decide +kernel
theorem dX3_enter_111 : decode cX3_enter 111 = .ok (.aload_n 0, 1) := by decide +kernel
theorem dX3_enter_112 : decode cX3_enter 112 = .ok (.invokevirtual 84, 3) := by decide +kernel
theorem dX3_enter_115 : decode cX3_enter 115 = .ok (.aload_n 0, 1) := by decide +kernel
theorem dX3_enter_116 : decode cX3_enter 116 = .ok (.invokevirtual 87, 3) := by decide +kernel
theorem dX3_enter_119 : decode cX3_enter 119 = .ok (.ifCond .eq 7, 3) := by decide +kernel
theorem dX3_enter_122 : decode cX3_enter 122 = .ok (.iload_n 3, 1) := by decide +kernel
theorem dX3_enter_123 : decode cX3_enter 123 = .ok (.goto 4, 3) := by decide +kernel
theorem dX3_enter_126 : decode cX3_enter 126 = .ok (.iconst (-1), 1) := by decide +kernel
theorem dX3_enter_127 : decode cX3_enter 127 = .ok (.ireturn, 1) := by decide +kernel
set_option maxRecDepth 20000 in
theorem ggX3_put_X3_requirePower : GoodIn wsX3_put wsX3_requirePower := goodIn_ca (goodIn_r _ [6, 7, 8, 9, 10, 11, 12, 13, 14, 15, 66, 67, 68, 69, 70, 71, 72, 73, 74] (by decide +kernel) (by decide +kernel)) (goodIn_sub (fun _ h => List.mem_cons_of_mem _ (List.mem_append_left _ (List.mem_append_left _ (List.mem_append_right _ h)))) (by decide +kernel))
set_option maxRecDepth 20000 in
theorem gX3_put_X3_requirePower : GoodIn wsX3_put (wsV RX3 46 RX3 yX3_requirePower wsX3_requirePower) := goodIn_app (goodIn_of _ (by decide +kernel)) ggX3_put_X3_requirePower
set_option maxRecDepth 20000 in
theorem ggX3_put_X3_requireTentative : GoodIn wsX3_put wsX3_requireTentative := goodIn_ca (goodIn_r _ [19, 20, 21, 1, 22, 23, 24, 25, 26, 27, 28, 29, 30, 31, 32, 33, 34, 35, 66, 67, 68, 69, 70, 71, 75, 76, 77, 78, 79, 80] (by decide +kernel) (by decide +kernel)) (goodIn_sub (fun _ h => List.mem_cons_of_mem _ (List.mem_append_left _ (List.mem_append_right _ h))) (by decide +kernel))
set_option maxRecDepth 20000 in
theorem gX3_put_X3_requireTentative : GoodIn wsX3_put (wsV RX3 91 RX3 yX3_requireTentative wsX3_requireTentative) := goodIn_app (goodIn_of _ (by decide +kernel)) ggX3_put_X3_requireTentative
set_option maxRecDepth 20000 in
theorem ggX3_put_X3_requireBlock : GoodIn wsX3_put wsX3_requireBlock := goodIn_ca (goodIn_r _ [39, 40, 41, 1, 42, 43, 44, 25, 45, 46, 30, 31, 32, 33, 34, 35, 66, 67, 68, 69, 70, 71, 75, 76, 77, 78, 79, 80] (by decide +kernel) (by decide +kernel)) (goodIn_sub (fun _ h => List.mem_cons_of_mem _ (List.mem_append_right _ h)) (by decide +kernel))
set_option maxRecDepth 20000 in
theorem gX3_put_X3_requireBlock : GoodIn wsX3_put (wsV RX3 94 RX3 yX3_requireBlock wsX3_requireBlock) := goodIn_app (goodIn_of _ (by decide +kernel)) ggX3_put_X3_requireBlock
set_option maxRecDepth 20000 in
theorem ggX3_put_X0_beginAt : GoodIn wsX3_put wsX0_beginAt := goodIn_r _ [50, 27, 46, 30, 31, 32, 33, 34, 35, 75, 76, 77, 78, 79, 80] (by decide +kernel) (by decide +kernel)
set_option maxRecDepth 20000 in
theorem gX3_put_X0_beginAt : GoodIn wsX3_put (wsV RX3 98 RX0 yX0_beginAt wsX0_beginAt) := goodIn_app (goodIn_of _ (by decide +kernel)) ggX3_put_X0_beginAt
set_option maxRecDepth 20000 in
theorem ggX3_put_X3_writeBlock : GoodIn wsX3_put wsX3_writeBlock := goodIn_r _ [54, 9, 55, 56, 57, 58, 13, 59, 60, 15, 61, 62, 63, 64, 33, 65, 35, 66, 67, 68, 69, 70, 71, 72, 73, 74, 80] (by decide +kernel) (by decide +kernel)
set_option maxRecDepth 20000 in
theorem gX3_put_X3_writeBlock : GoodIn wsX3_put (wsV RX3 101 RX3 yX3_writeBlock wsX3_writeBlock) := goodIn_app (goodIn_of _ (by decide +kernel)) ggX3_put_X3_writeBlock
theorem dX3_put_0 : decode cX3_put 0 = .ok (.aload_n 0, 1) := by decide +kernel
theorem dX3_put_1 : decode cX3_put 1 = .ok (.invokevirtual 46, 3) := by decide +kernel
theorem dX3_put_4 : decode cX3_put 4 = .ok (.aload_n 0, 1) := by decide +kernel
theorem dX3_put_5 : decode cX3_put 5 = .ok (.iload_n 1, 1) := by decide +kernel
theorem dX3_put_6 : decode cX3_put 6 = .ok (.invokevirtual 91, 3) := by decide +kernel
theorem dX3_put_9 : decode cX3_put 9 = .ok (.istore 4, 2) := by decide +kernel
theorem dX3_put_11 : decode cX3_put 11 = .ok (.aload_n 0, 1) := by decide +kernel
theorem dX3_put_12 : decode cX3_put 12 = .ok (.iload 4, 2) := by decide +kernel
theorem dX3_put_14 : decode cX3_put 14 = .ok (.iload_n 2, 1) := by decide +kernel
theorem dX3_put_15 : decode cX3_put 15 = .ok (.invokevirtual 94, 3) := by decide +kernel
theorem dX3_put_18 : decode cX3_put 18 = .ok (.aload_n 0, 1) := by decide +kernel
theorem dX3_put_19 : decode cX3_put 19 = .ok (.aload_n 0, 1) := by decide +kernel
theorem dX3_put_20 : decode cX3_put 20 = .ok (.getfield 28, 3) := by decide +kernel
theorem dX3_put_23 : decode cX3_put 23 = .ok (.iload 4, 2) := by decide +kernel
theorem dX3_put_25 : decode cX3_put 25 = .ok (.invokevirtual 98, 3) := by decide +kernel
theorem dX3_put_28 : decode cX3_put 28 = .ok (.iload_n 2, 1) := by decide +kernel
theorem dX3_put_29 : decode cX3_put 29 = .ok (.iadd, 1) := by decide +kernel
theorem dX3_put_30 : decode cX3_put 30 = .ok (.iload_n 3, 1) := by decide +kernel
theorem dX3_put_31 : decode cX3_put 31 = .ok (.invokevirtual 101, 3) := by decide +kernel
theorem dX3_put_34 : decode cX3_put 34 = .ok (.ifCond .eq 7, 3) := by decide +kernel
theorem dX3_put_37 : decode cX3_put 37 = .ok (.iconst 0, 1) := by decide +kernel
theorem dX3_put_38 : decode cX3_put 38 = .ok (.goto 4, 3) := by decide +kernel
theorem dX3_put_41 : decode cX3_put 41 = .ok (.iconst (-1), 1) := by decide +kernel
theorem dX3_put_42 : decode cX3_put 42 = .ok (.ireturn, 1) := by decide +kernel
set_option maxRecDepth 20000 in
theorem ggX3_close_X3_requirePower : GoodIn wsX3_close wsX3_requirePower := goodIn_ca (goodIn_r _ [9, 10, 11, 12, 13, 14, 15, 16, 17, 18, 121, 122, 123, 124, 125, 126, 127, 128, 129] (by decide +kernel) (by decide +kernel)) (goodIn_sub (fun _ h => List.mem_cons_of_mem _ (List.mem_append_left _ (List.mem_append_left _ (List.mem_append_right _ h)))) (by decide +kernel))
set_option maxRecDepth 20000 in
theorem gX3_close_X3_requirePower : GoodIn wsX3_close (wsV RX3 46 RX3 yX3_requirePower wsX3_requirePower) := goodIn_app (goodIn_of _ (by decide +kernel)) ggX3_close_X3_requirePower
set_option maxRecDepth 20000 in
theorem ggX3_close_X3_requireTentative : GoodIn wsX3_close wsX3_requireTentative := goodIn_ca (goodIn_r _ [22, 23, 24, 3, 25, 26, 27, 28, 29, 30, 31, 32, 33, 34, 35, 36, 37, 38, 121, 122, 123, 124, 125, 126, 130, 131, 132, 133, 134, 135] (by decide +kernel) (by decide +kernel)) (goodIn_sub (fun _ h => List.mem_cons_of_mem _ (List.mem_append_left _ (List.mem_append_right _ h))) (by decide +kernel))
set_option maxRecDepth 20000 in
theorem gX3_close_X3_requireTentative : GoodIn wsX3_close (wsV RX3 91 RX3 yX3_requireTentative wsX3_requireTentative) := goodIn_app (goodIn_of _ (by decide +kernel)) ggX3_close_X3_requireTentative
set_option maxRecDepth 20000 in
theorem ggX3_close_X0_lengthAt : GoodIn wsX3_close wsX0_lengthAt := goodIn_r _ [42, 43, 33, 34, 35, 36, 37, 38, 130, 131, 132, 133, 134, 135] (by decide +kernel) (by decide +kernel)
set_option maxRecDepth 20000 in
theorem gX3_close_X0_lengthAt : GoodIn wsX3_close (wsV RX3 105 RX0 yX0_lengthAt wsX0_lengthAt) := goodIn_app (goodIn_of _ (by decide +kernel)) ggX3_close_X0_lengthAt
set_option maxRecDepth 20000 in
theorem ggX3_close_X3_draftClosed : GoodIn wsX3_close wsX3_draftClosed := goodIn_r _ [47, 3, 4, 48, 49, 50, 28, 51, 52, 33, 34, 35, 36, 37, 38, 53, 54, 55, 56, 30, 31, 57, 58, 59, 60, 61, 62, 63, 64, 65, 66, 67, 68, 43, 32, 69, 70, 71, 72, 39, 40, 41, 42, 73, 74, 75, 76, 77, 78, 79, 80, 81, 82, 83, 84, 85, 86, 87, 88, 89, 90, 91, 121, 122, 123, 124, 125, 126, 130, 131, 132, 133, 134, 135] (by decide +kernel) (by decide +kernel)
set_option maxRecDepth 20000 in
theorem gX3_close_X3_draftClosed : GoodIn wsX3_close (wsV RX3 110 RX3 yX3_draftClosed wsX3_draftClosed) := goodIn_app (goodIn_of _ (by decide +kernel)) ggX3_close_X3_draftClosed
set_option maxRecDepth 20000 in
theorem ggX3_close_X3_requireFewEntries : GoodIn wsX3_close wsX3_requireFewEntries := goodIn_ca (goodIn_r _ [95, 96, 97, 4, 61, 62, 63, 28, 64, 30, 121, 122, 123, 124, 125, 126, 130, 131, 132, 133, 134] (by decide +kernel) (by decide +kernel)) (goodIn_sub (fun _ h => List.mem_cons_of_mem _ (List.mem_append_right _ h)) (by decide +kernel))
set_option maxRecDepth 20000 in
theorem gX3_close_X3_requireFewEntries : GoodIn wsX3_close (wsV RX3 84 RX3 yX3_requireFewEntries wsX3_requireFewEntries) := goodIn_app (goodIn_of _ (by decide +kernel)) ggX3_close_X3_requireFewEntries
set_option maxRecDepth 20000 in
theorem ggX3_close_X0_emptyBlocks : GoodIn wsX3_close wsX0_emptyBlocks := goodIn_r _ [101, 30, 31, 43, 33, 34, 35, 36, 37, 38, 130, 131, 132, 133, 134, 135] (by decide +kernel) (by decide +kernel)
set_option maxRecDepth 20000 in
theorem gX3_close_X0_emptyBlocks : GoodIn wsX3_close (wsV RX3 113 RX0 yX0_emptyBlocks wsX0_emptyBlocks) := goodIn_app (goodIn_of _ (by decide +kernel)) ggX3_close_X0_emptyBlocks
set_option maxRecDepth 20000 in
theorem ggX3_close_X3_change : GoodIn wsX3_close wsX3_change := goodIn_r _ [105, 4, 12, 3, 61, 62, 63, 28, 64, 30, 106, 107, 108, 16, 109, 110, 18, 111, 112, 113, 114, 115, 31, 43, 52, 32, 116, 117, 118, 36, 119, 38, 120, 34, 35, 37, 121, 122, 123, 124, 125, 126, 130, 131, 132, 133, 134, 127, 128, 129, 135] (by decide +kernel) (by decide +kernel)
set_option maxRecDepth 20000 in
theorem gX3_close_X3_change : GoodIn wsX3_close (wsV RX3 87 RX3 yX3_change wsX3_change) := goodIn_app (goodIn_of _ (by decide +kernel)) ggX3_close_X3_change
theorem dX3_close_0 : decode cX3_close 0 = .ok (.aload_n 0, 1) := by decide +kernel
theorem dX3_close_1 : decode cX3_close 1 = .ok (.invokevirtual 46, 3) := by decide +kernel
theorem dX3_close_4 : decode cX3_close 4 = .ok (.aload_n 0, 1) := by decide +kernel
theorem dX3_close_5 : decode cX3_close 5 = .ok (.iload_n 1, 1) := by decide +kernel
theorem dX3_close_6 : decode cX3_close 6 = .ok (.invokevirtual 91, 3) := by decide +kernel
theorem dX3_close_9 : decode cX3_close 9 = .ok (.istore_n 3, 1) := by decide +kernel
theorem dX3_close_10 : decode cX3_close 10 = .ok (.iload_n 2, 1) := by decide +kernel
theorem dX3_close_11 : decode cX3_close 11 = .ok (.iconst 1, 1) := by decide +kernel
theorem dX3_close_12 : decode cX3_close 12 = .ok (.if_icmp .lt 15, 3) := by decide +kernel
theorem dX3_close_15 : decode cX3_close 15 = .ok (.iload_n 2, 1) := by decide +kernel
theorem dX3_close_16 : decode cX3_close 16 = .ok (.aload_n 0, 1) := by decide +kernel
theorem dX3_close_17 : decode cX3_close 17 = .ok (.getfield 28, 3) := by decide +kernel
theorem dX3_close_20 : decode cX3_close 20 = .ok (.iload_n 3, 1) := by decide +kernel
theorem dX3_close_21 : decode cX3_close 21 = .ok (.invokevirtual 105, 3) := by decide +kernel
theorem dX3_close_24 : decode cX3_close 24 = .ok (.if_icmp .le 13, 3) := by decide +kernel
theorem dX3_close_27 : decode cX3_close 27 = .ok (.new 52, 3) := by decide +kernel
theorem dX3_close_30 : decode cX3_close 30 = .ok (.dup, 1) := by decide +kernel
theorem dX3_close_31 : decode cX3_close 31 = .ok (.ldc 108, 2) := by decide +kernel
theorem dX3_close_33 : decode cX3_close 33 = .ok (.invokespecial 56, 3) := by decide +kernel
theorem dX3_close_36 : decode cX3_close 36 = .ok (.athrow, 1) := by decide +kernel
theorem dX3_close_37 : decode cX3_close 37 = .ok (.aload_n 0, 1) := by decide +kernel
theorem dX3_close_38 : decode cX3_close 38 = .ok (.iload_n 3, 1) := by decide +kernel
theorem dX3_close_39 : decode cX3_close 39 = .ok (.iload_n 2, 1) := by decide +kernel
theorem dX3_close_40 : decode cX3_close 40 = .ok (.invokevirtual 110, 3) := by decide +kernel
theorem dX3_close_43 : decode cX3_close 43 = .ok (.aload_n 0, 1) := by decide +kernel
theorem dX3_close_44 : decode cX3_close 44 = .ok (.invokevirtual 84, 3) := by decide +kernel
theorem dX3_close_47 : decode cX3_close 47 = .ok (.aload_n 0, 1) := by decide +kernel
theorem dX3_close_48 : decode cX3_close 48 = .ok (.getfield 32, 3) := by decide +kernel
theorem dX3_close_51 : decode cX3_close 51 = .ok (.invokevirtual 113, 3) := by decide +kernel
theorem dX3_close_54 : decode cX3_close 54 = .ok (.aload_n 0, 1) := by decide +kernel
theorem dX3_close_55 : decode cX3_close 55 = .ok (.getfield 28, 3) := by decide +kernel
theorem dX3_close_58 : decode cX3_close 58 = .ok (.invokevirtual 113, 3) := by decide +kernel
theorem dX3_close_61 : decode cX3_close 61 = .ok (.isub, 1) := by decide +kernel
theorem dX3_close_62 : decode cX3_close 62 = .ok (.istore 4, 2) := by decide +kernel
theorem dX3_close_64 : decode cX3_close 64 = .ok (.aload_n 0, 1) := by decide +kernel
theorem dX3_close_65 : decode cX3_close 65 = .ok (.invokevirtual 87, 3) := by decide +kernel
theorem dX3_close_68 : decode cX3_close 68 = .ok (.ifCond .eq 8, 3) := by decide +kernel
theorem dX3_close_71 : decode cX3_close 71 = .ok (.iload 4, 2) := by decide +kernel
theorem dX3_close_73 : decode cX3_close 73 = .ok (.goto 4, 3) := by decide +kernel
theorem dX3_close_76 : decode cX3_close 76 = .ok (.iconst (-1), 1) := by decide +kernel
theorem dX3_close_77 : decode cX3_close 77 = .ok (.ireturn, 1) := by decide +kernel
set_option maxRecDepth 20000 in
theorem ggX3_purge_X3_requirePower : GoodIn wsX3_purge wsX3_requirePower := goodIn_ca (goodIn_r _ [5, 6, 7, 8, 9, 10, 11, 12, 13, 14, 103, 104, 105, 106, 107, 108, 109, 110, 111] (by decide +kernel) (by decide +kernel)) (goodIn_sub (fun _ h => List.mem_cons_of_mem _ (List.mem_append_left _ (List.mem_append_right _ h))) (by decide +kernel))
set_option maxRecDepth 20000 in
theorem gX3_purge_X3_requirePower : GoodIn wsX3_purge (wsV RX3 46 RX3 yX3_requirePower wsX3_requirePower) := goodIn_app (goodIn_of _ (by decide +kernel)) ggX3_purge_X3_requirePower
set_option maxRecDepth 20000 in
theorem ggX3_purge_X3_requireTentative : GoodIn wsX3_purge wsX3_requireTentative := goodIn_ca (goodIn_r _ [18, 19, 20, 21, 22, 23, 24, 25, 26, 27, 28, 29, 30, 31, 32, 33, 34, 35, 103, 104, 105, 106, 107, 108, 112, 113, 114, 115, 116, 117] (by decide +kernel) (by decide +kernel)) (goodIn_sub (fun _ h => List.mem_cons_of_mem _ (List.mem_append_right _ h)) (by decide +kernel))
set_option maxRecDepth 20000 in
theorem gX3_purge_X3_requireTentative : GoodIn wsX3_purge (wsV RX3 91 RX3 yX3_requireTentative wsX3_requireTentative) := goodIn_app (goodIn_of _ (by decide +kernel)) ggX3_purge_X3_requireTentative
set_option maxRecDepth 20000 in
theorem ggX3_purge_X3_makeEmpty : GoodIn wsX3_purge wsX3_makeEmpty := goodIn_r _ [39, 21, 40, 41, 42, 43, 25, 44, 45, 30, 31, 32, 33, 34, 35, 46, 47, 48, 49, 27, 50, 51, 52, 53, 54, 55, 56, 57, 28, 58, 59, 60, 61, 62, 63, 64, 65, 66, 67, 29, 68, 69, 70, 71, 72, 73, 74, 75, 76, 77, 78, 79, 80, 81, 82, 83, 84, 85, 86, 4, 87, 8, 88, 89, 90, 12, 91, 92, 14, 93, 94, 95, 96, 97, 98, 99, 100, 101, 102, 103, 104, 105, 106, 107, 108, 112, 113, 114, 115, 116, 117, 109, 110, 111] (by decide +kernel) (by decide +kernel)
set_option maxRecDepth 20000 in
theorem gX3_purge_X3_makeEmpty : GoodIn wsX3_purge (wsV RX3 116 RX3 yX3_makeEmpty wsX3_makeEmpty) := goodIn_app (goodIn_of _ (by decide +kernel)) ggX3_purge_X3_makeEmpty
theorem dX3_purge_0 : decode cX3_purge 0 = .ok (.aload_n 0, 1) := by decide +kernel
theorem dX3_purge_1 : decode cX3_purge 1 = .ok (.invokevirtual 46, 3) := by decide +kernel
theorem dX3_purge_4 : decode cX3_purge 4 = .ok (.aload_n 0, 1) := by decide +kernel
theorem dX3_purge_5 : decode cX3_purge 5 = .ok (.aload_n 0, 1) := by decide +kernel
theorem dX3_purge_6 : decode cX3_purge 6 = .ok (.iload_n 1, 1) := by decide +kernel
theorem dX3_purge_7 : decode cX3_purge 7 = .ok (.invokevirtual 91, 3) := by decide +kernel
theorem dX3_purge_10 : decode cX3_purge 10 = .ok (.invokevirtual 116, 3) := by decide +kernel
theorem dX3_purge_13 : decode cX3_purge 13 = .ok (.ireturn, 1) := by decide +kernel
set_option maxRecDepth 20000 in
theorem ggX3_delete_X3_requirePower : GoodIn wsX3_delete wsX3_requirePower := goodIn_ca (goodIn_r _ [5, 6, 7, 8, 9, 10, 11, 12, 13, 14, 103, 104, 105, 106, 107, 108, 109, 110, 111] (by decide +kernel) (by decide +kernel)) (goodIn_sub (fun _ h => List.mem_cons_of_mem _ (List.mem_append_left _ (List.mem_append_right _ h))) (by decide +kernel))
set_option maxRecDepth 20000 in
theorem gX3_delete_X3_requirePower : GoodIn wsX3_delete (wsV RX3 46 RX3 yX3_requirePower wsX3_requirePower) := goodIn_app (goodIn_of _ (by decide +kernel)) ggX3_delete_X3_requirePower
set_option maxRecDepth 20000 in
theorem ggX3_delete_X3_requirePermanent : GoodIn wsX3_delete wsX3_requirePermanent := goodIn_ca (goodIn_r _ [18, 19, 20, 21, 22, 23, 24, 25, 26, 27, 28, 29, 30, 31, 32, 33, 34, 35, 103, 104, 105, 106, 107, 108, 112, 113, 114, 115, 116, 117] (by decide +kernel) (by decide +kernel)) (goodIn_sub (fun _ h => List.mem_cons_of_mem _ (List.mem_append_right _ h)) (by decide +kernel))
set_option maxRecDepth 20000 in
theorem gX3_delete_X3_requirePermanent : GoodIn wsX3_delete (wsV RX3 119 RX3 yX3_requirePermanent wsX3_requirePermanent) := goodIn_app (goodIn_of _ (by decide +kernel)) ggX3_delete_X3_requirePermanent
set_option maxRecDepth 20000 in
theorem ggX3_delete_X3_makeEmpty : GoodIn wsX3_delete wsX3_makeEmpty := goodIn_r _ [39, 21, 40, 41, 42, 43, 25, 44, 45, 30, 31, 32, 33, 34, 35, 46, 47, 48, 49, 27, 50, 51, 52, 53, 54, 55, 56, 57, 28, 58, 59, 60, 61, 62, 29, 63, 64, 65, 66, 67, 68, 69, 70, 71, 72, 73, 74, 75, 76, 77, 78, 79, 80, 81, 82, 83, 84, 85, 86, 4, 87, 8, 88, 89, 90, 12, 91, 92, 14, 93, 94, 95, 96, 97, 98, 99, 100, 101, 102, 103, 104, 105, 106, 107, 108, 112, 113, 114, 115, 116, 117, 109, 110, 111] (by decide +kernel) (by decide +kernel)
set_option maxRecDepth 20000 in
theorem gX3_delete_X3_makeEmpty : GoodIn wsX3_delete (wsV RX3 116 RX3 yX3_makeEmpty wsX3_makeEmpty) := goodIn_app (goodIn_of _ (by decide +kernel)) ggX3_delete_X3_makeEmpty
theorem dX3_delete_0 : decode cX3_delete 0 = .ok (.aload_n 0, 1) := by decide +kernel
theorem dX3_delete_1 : decode cX3_delete 1 = .ok (.invokevirtual 46, 3) := by decide +kernel
theorem dX3_delete_4 : decode cX3_delete 4 = .ok (.aload_n 0, 1) := by decide +kernel
theorem dX3_delete_5 : decode cX3_delete 5 = .ok (.aload_n 0, 1) := by decide +kernel
theorem dX3_delete_6 : decode cX3_delete 6 = .ok (.iload_n 1, 1) := by decide +kernel
theorem dX3_delete_7 : decode cX3_delete 7 = .ok (.invokevirtual 119, 3) := by decide +kernel
theorem dX3_delete_10 : decode cX3_delete 10 = .ok (.invokevirtual 116, 3) := by decide +kernel
theorem dX3_delete_13 : decode cX3_delete 13 = .ok (.ireturn, 1) := by decide +kernel
set_option maxRecDepth 20000 in
theorem ggX3_rename_X3_requirePower : GoodIn wsX3_rename wsX3_requirePower := goodIn_ca (goodIn_r _ [9, 10, 11, 12, 13, 14, 15, 16, 17, 18, 104, 105, 106, 107, 108, 109, 110, 111, 112] (by decide +kernel) (by decide +kernel)) (goodIn_sub (fun _ h => List.mem_cons_of_mem _ (List.mem_append_left _ (List.mem_append_left _ (List.mem_append_right _ h)))) (by decide +kernel))
set_option maxRecDepth 20000 in
theorem gX3_rename_X3_requirePower : GoodIn wsX3_rename (wsV RX3 46 RX3 yX3_requirePower wsX3_requirePower) := goodIn_app (goodIn_of _ (by decide +kernel)) ggX3_rename_X3_requirePower
set_option maxRecDepth 20000 in
theorem ggX3_rename_X3_requireName : GoodIn wsX3_rename wsX3_requireName := goodIn_ca (goodIn_r _ [22, 23, 24] (by decide +kernel) (by decide +kernel)) (goodIn_sub (fun _ h => List.mem_cons_of_mem _ (List.mem_append_left _ (List.mem_append_right _ h))) (by decide +kernel))
set_option maxRecDepth 20000 in
theorem gX3_rename_X3_requireName : GoodIn wsX3_rename (wsV RX3 49 RX3 yX3_requireName wsX3_requireName) := goodIn_app (goodIn_of _ (by decide +kernel)) ggX3_rename_X3_requireName
set_option maxRecDepth 20000 in
theorem ggX3_rename_X3_requirePermanent : GoodIn wsX3_rename wsX3_requirePermanent := goodIn_ca (goodIn_r _ [28, 29, 30, 3, 31, 32, 33, 34, 35, 36, 37, 38, 39, 40, 41, 42, 43, 44, 104, 105, 106, 107, 108, 109, 113, 114, 115, 116, 117, 118] (by decide +kernel) (by decide +kernel)) (goodIn_sub (fun _ h => List.mem_cons_of_mem _ (List.mem_append_right _ h)) (by decide +kernel))
set_option maxRecDepth 20000 in
theorem gX3_rename_X3_requirePermanent : GoodIn wsX3_rename (wsV RX3 119 RX3 yX3_requirePermanent wsX3_requirePermanent) := goodIn_app (goodIn_of _ (by decide +kernel)) ggX3_rename_X3_requirePermanent
set_option maxRecDepth 20000 in
theorem ggX3_rename_X0_findPermanent : GoodIn wsX3_rename wsX0_findPermanent := goodIn_r _ [35, 36, 37, 38, 39, 40, 41, 42, 43, 44, 113, 114, 115, 116, 117, 118] (by decide +kernel) (by decide +kernel)
set_option maxRecDepth 20000 in
theorem gX3_rename_X0_findPermanent : GoodIn wsX3_rename (wsV RX3 122 RX0 yX0_findPermanent wsX0_findPermanent) := goodIn_app (goodIn_of _ (by decide +kernel)) ggX3_rename_X0_findPermanent
set_option maxRecDepth 20000 in
theorem ggX3_rename_X0_clear : GoodIn wsX3_rename wsX0_clear := goodIn_r _ [48, 36, 113, 114, 115, 116, 117] (by decide +kernel) (by decide +kernel)
set_option maxRecDepth 20000 in
theorem gX3_rename_X0_clear : GoodIn wsX3_rename (wsV RX3 127 RX0 yX0_clear wsX0_clear) := goodIn_app (goodIn_of _ (by decide +kernel)) ggX3_rename_X0_clear
set_option maxRecDepth 20000 in
theorem ggX3_rename_X0_addRange : GoodIn wsX3_rename wsX0_addRange := goodIn_r _ [52, 53, 54, 55, 34, 56, 37, 39, 40, 41, 42, 43, 44, 57, 58, 59, 60, 61, 62, 63, 64, 65, 38, 66, 67, 68, 69, 70, 71, 72, 73, 74, 36, 75, 76, 77, 78, 113, 114, 115, 116, 117, 118] (by decide +kernel) (by decide +kernel)
set_option maxRecDepth 20000 in
theorem gX3_rename_X0_addRange : GoodIn wsX3_rename (wsV RX3 130 RX0 yX0_addRange wsX0_addRange) := goodIn_app (goodIn_of _ (by decide +kernel)) ggX3_rename_X0_addRange
set_option maxRecDepth 20000 in
theorem ggX3_rename_X0_lengthAt : GoodIn wsX3_rename wsX0_lengthAt := goodIn_r _ [60, 61, 39, 40, 41, 42, 43, 44, 113, 114, 115, 116, 117, 118] (by decide +kernel) (by decide +kernel)
set_option maxRecDepth 20000 in
theorem gX3_rename_X0_lengthAt : GoodIn wsX3_rename (wsV RX3 105 RX0 yX0_lengthAt wsX0_lengthAt) := goodIn_app (goodIn_of _ (by decide +kernel)) ggX3_rename_X0_lengthAt
set_option maxRecDepth 20000 in
theorem ggX3_rename_X0_add : GoodIn wsX3_rename wsX0_add := goodIn_r _ [74, 36, 37, 61, 38, 70, 39, 40, 41, 42, 43, 44, 75, 76, 77, 78, 113, 114, 115, 116, 117, 118] (by decide +kernel) (by decide +kernel)
set_option maxRecDepth 20000 in
theorem gX3_rename_X0_add : GoodIn wsX3_rename (wsV RX3 134 RX0 yX0_add wsX0_add) := goodIn_app (goodIn_of _ (by decide +kernel)) ggX3_rename_X0_add
set_option maxRecDepth 20000 in
theorem ggX3_rename_X0_count : GoodIn wsX3_rename wsX0_count := goodIn_r _ [84, 36, 113, 114, 115, 116, 117] (by decide +kernel) (by decide +kernel)
set_option maxRecDepth 20000 in
theorem gX3_rename_X0_count : GoodIn wsX3_rename (wsV RX3 137 RX0 yX0_count wsX0_count) := goodIn_app (goodIn_of _ (by decide +kernel)) ggX3_rename_X0_count
set_option maxRecDepth 20000 in
theorem ggX3_rename_X3_change : GoodIn wsX3_rename wsX3_change := goodIn_r _ [88, 4, 12, 3, 81, 82, 83, 34, 84, 36, 89, 90, 91, 16, 92, 93, 18, 94, 95, 96, 97, 98, 37, 61, 38, 70, 99, 100, 101, 42, 102, 44, 103, 40, 41, 43, 104, 105, 106, 107, 108, 109, 113, 114, 115, 116, 117, 110, 111, 112, 118] (by decide +kernel) (by decide +kernel)
set_option maxRecDepth 20000 in
theorem gX3_rename_X3_change : GoodIn wsX3_rename (wsV RX3 87 RX3 yX3_change wsX3_change) := goodIn_app (goodIn_of _ (by decide +kernel)) ggX3_rename_X3_change
theorem dX3_rename_0 : decode cX3_rename 0 = .ok (.aload_n 0, 1) := by decide +kernel
theorem dX3_rename_1 : decode cX3_rename 1 = .ok (.invokevirtual 46, 3) := by decide +kernel
theorem dX3_rename_4 : decode cX3_rename 4 = .ok (.aload_n 0, 1) := by decide +kernel
theorem dX3_rename_5 : decode cX3_rename 5 = .ok (.iload_n 2, 1) := by decide +kernel
theorem dX3_rename_6 : decode cX3_rename 6 = .ok (.invokevirtual 49, 3) := by decide +kernel
theorem dX3_rename_9 : decode cX3_rename 9 = .ok (.aload_n 0, 1) := by decide +kernel
theorem dX3_rename_10 : decode cX3_rename 10 = .ok (.iload_n 1, 1) := by decide +kernel
theorem dX3_rename_11 : decode cX3_rename 11 = .ok (.invokevirtual 119, 3) := by decide +kernel
theorem dX3_rename_14 : decode cX3_rename 14 = .ok (.istore_n 3, 1) := by decide +kernel
theorem dX3_rename_15 : decode cX3_rename 15 = .ok (.aload_n 0, 1) := by decide +kernel
theorem dX3_rename_16 : decode cX3_rename 16 = .ok (.getfield 28, 3) := by decide +kernel
theorem dX3_rename_19 : decode cX3_rename 19 = .ok (.iload_n 2, 1) := by decide +kernel
theorem dX3_rename_20 : decode cX3_rename 20 = .ok (.invokevirtual 122, 3) := by decide +kernel
theorem dX3_rename_23 : decode cX3_rename 23 = .ok (.iconst (-1), 1) := by decide +kernel
theorem dX3_rename_24 : decode cX3_rename 24 = .ok (.if_icmp .eq 13, 3) := by decide +kernel
theorem dX3_rename_27 : decode cX3_rename 27 = .ok (.new 75, 3) := by decide +kernel
theorem dX3_rename_30 : decode cX3_rename 30 = .ok (.dup, 1) := by decide +kernel
theorem dX3_rename_31 : decode cX3_rename 31 = .ok (.ldc 125, 2) := by decide +kernel
theorem dX3_rename_33 : decode cX3_rename 33 = .ok (.invokespecial 79, 3) := by decide +kernel
theorem dX3_rename_36 : decode cX3_rename 36 = .ok (.athrow, 1) := by decide +kernel
theorem dX3_rename_37 : decode cX3_rename 37 = .ok (.aload_n 0, 1) := by decide +kernel
theorem dX3_rename_38 : decode cX3_rename 38 = .ok (.getfield 32, 3) := by decide +kernel
theorem dX3_rename_41 : decode cX3_rename 41 = .ok (.invokevirtual 127, 3) := by decide +kernel
theorem dX3_rename_44 : decode cX3_rename 44 = .ok (.aload_n 0, 1) := by decide +kernel
theorem dX3_rename_45 : decode cX3_rename 45 = .ok (.getfield 32, 3) := by decide +kernel
theorem dX3_rename_48 : decode cX3_rename 48 = .ok (.aload_n 0, 1) := by decide +kernel
theorem dX3_rename_49 : decode cX3_rename 49 = .ok (.getfield 28, 3) := by decide +kernel
theorem dX3_rename_52 : decode cX3_rename 52 = .ok (.iconst 0, 1) := by decide +kernel
theorem dX3_rename_53 : decode cX3_rename 53 = .ok (.iload_n 3, 1) := by decide +kernel
theorem dX3_rename_54 : decode cX3_rename 54 = .ok (.invokevirtual 130, 3) := by decide +kernel
theorem dX3_rename_57 : decode cX3_rename 57 = .ok (.aload_n 0, 1) := by decide +kernel
theorem dX3_rename_58 : decode cX3_rename 58 = .ok (.getfield 32, 3) := by decide +kernel
theorem dX3_rename_61 : decode cX3_rename 61 = .ok (.iconst 2, 1) := by decide +kernel
theorem dX3_rename_62 : decode cX3_rename 62 = .ok (.aload_n 0, 1) := by decide +kernel
theorem dX3_rename_63 : decode cX3_rename 63 = .ok (.getfield 28, 3) := by decide +kernel
theorem dX3_rename_66 : decode cX3_rename 66 = .ok (.iload_n 3, 1) := by decide +kernel
theorem dX3_rename_67 : decode cX3_rename 67 = .ok (.invokevirtual 105, 3) := by decide +kernel
theorem dX3_rename_70 : decode cX3_rename 70 = .ok (.iload_n 2, 1) := by decide +kernel
theorem dX3_rename_71 : decode cX3_rename 71 = .ok (.iconst (-1), 1) := by decide +kernel
theorem dX3_rename_72 : decode cX3_rename 72 = .ok (.invokevirtual 134, 3) := by decide +kernel
theorem dX3_rename_75 : decode cX3_rename 75 = .ok (.aload_n 0, 1) := by decide +kernel
theorem dX3_rename_76 : decode cX3_rename 76 = .ok (.getfield 32, 3) := by decide +kernel
theorem dX3_rename_79 : decode cX3_rename 79 = .ok (.aload_n 0, 1) := by decide +kernel
theorem dX3_rename_80 : decode cX3_rename 80 = .ok (.getfield 28, 3) := by decide +kernel
theorem dX3_rename_83 : decode cX3_rename 83 = .ok (.iload_n 3, 1) := by decide +kernel
theorem dX3_rename_84 : decode cX3_rename 84 = .ok (.iconst 1, 1) := by decide +kernel
theorem dX3_rename_85 : decode cX3_rename 85 = .ok (.iadd, 1) := by decide +kernel
theorem dX3_rename_86 : decode cX3_rename 86 = .ok (.aload_n 0, 1) := by decide +kernel
theorem dX3_rename_87 : decode cX3_rename 87 = .ok (.getfield 28, 3) := by decide +kernel
theorem dX3_rename_90 : decode cX3_rename 90 = .ok (.invokevirtual 137, 3) := by decide +kernel
theorem dX3_rename_93 : decode cX3_rename 93 = .ok (.invokevirtual 130, 3) := by decide +kernel
theorem dX3_rename_96 : decode cX3_rename 96 = .ok (.aload_n 0, 1) := by decide +kernel
theorem dX3_rename_97 : decode cX3_rename 97 = .ok (.invokevirtual 87, 3) := by decide +kernel
theorem dX3_rename_100 : decode cX3_rename 100 = .ok (.ifCond .eq 7, 3) := by decide +kernel
theorem dX3_rename_103 : decode cX3_rename 103 = .ok (.iconst 0, 1) := by decide +kernel
theorem dX3_rename_104 : decode cX3_rename 104 = .ok (.goto 4, 3) := by decide +kernel
theorem dX3_rename_107 : decode cX3_rename 107 = .ok (.iconst (-1), 1) := by decide +kernel
theorem dX3_rename_108 : decode cX3_rename 108 = .ok (.ireturn, 1) := by decide +kernel
set_option maxRecDepth 20000 in
theorem ggX3_read_X3_requirePower : GoodIn wsX3_read wsX3_requirePower := goodIn_ca (goodIn_r _ [7, 8, 9, 10, 11, 12, 13, 14, 15, 16, 53, 54, 55, 56, 57, 58, 59, 60, 61] (by decide +kernel) (by decide +kernel)) (goodIn_sub (fun _ h => List.mem_cons_of_mem _ (List.mem_append_left _ (List.mem_append_left _ (List.mem_append_right _ h)))) (by decide +kernel))
set_option maxRecDepth 20000 in
theorem gX3_read_X3_requirePower : GoodIn wsX3_read (wsV RX3 46 RX3 yX3_requirePower wsX3_requirePower) := goodIn_app (goodIn_of _ (by decide +kernel)) ggX3_read_X3_requirePower
set_option maxRecDepth 20000 in
theorem ggX3_read_X3_requirePermanent : GoodIn wsX3_read wsX3_requirePermanent := goodIn_ca (goodIn_r _ [20, 21, 22, 2, 23, 24, 25, 26, 27, 28, 29, 30, 31, 32, 33, 34, 35, 36, 53, 54, 55, 56, 57, 58, 62, 63, 64, 65, 66, 67] (by decide +kernel) (by decide +kernel)) (goodIn_sub (fun _ h => List.mem_cons_of_mem _ (List.mem_append_left _ (List.mem_append_right _ h))) (by decide +kernel))
set_option maxRecDepth 20000 in
theorem gX3_read_X3_requirePermanent : GoodIn wsX3_read (wsV RX3 119 RX3 yX3_requirePermanent wsX3_requirePermanent) := goodIn_app (goodIn_of _ (by decide +kernel)) ggX3_read_X3_requirePermanent
set_option maxRecDepth 20000 in
theorem ggX3_read_X3_requireBlock : GoodIn wsX3_read wsX3_requireBlock := goodIn_ca (goodIn_r _ [40, 41, 42, 2, 43, 44, 45, 26, 46, 47, 31, 32, 33, 34, 35, 36, 53, 54, 55, 56, 57, 58, 62, 63, 64, 65, 66, 67] (by decide +kernel) (by decide +kernel)) (goodIn_sub (fun _ h => List.mem_cons_of_mem _ (List.mem_append_right _ h)) (by decide +kernel))
set_option maxRecDepth 20000 in
theorem gX3_read_X3_requireBlock : GoodIn wsX3_read (wsV RX3 94 RX3 yX3_requireBlock wsX3_requireBlock) := goodIn_app (goodIn_of _ (by decide +kernel)) ggX3_read_X3_requireBlock
set_option maxRecDepth 20000 in
theorem ggX3_read_X0_beginAt : GoodIn wsX3_read wsX0_beginAt := goodIn_r _ [51, 28, 47, 31, 32, 33, 34, 35, 36, 62, 63, 64, 65, 66, 67] (by decide +kernel) (by decide +kernel)
set_option maxRecDepth 20000 in
theorem gX3_read_X0_beginAt : GoodIn wsX3_read (wsV RX3 98 RX0 yX0_beginAt wsX0_beginAt) := goodIn_app (goodIn_of _ (by decide +kernel)) ggX3_read_X0_beginAt
set_option maxRecDepth 20000 in
theorem ggX3_read_X2_at : GoodIn wsX3_read wsX2_at := goodIn_r _ [35, 36, 67] (by decide +kernel) (by decide +kernel)
set_option maxRecDepth 20000 in
theorem gX3_read_X2_at : GoodIn wsX3_read (wsV RX3 140 RX2 yX2_at wsX2_at) := goodIn_app (goodIn_of _ (by decide +kernel)) ggX3_read_X2_at
theorem dX3_read_0 : decode cX3_read 0 = .ok (.aload_n 0, 1) := by decide +kernel
theorem dX3_read_1 : decode cX3_read 1 = .ok (.invokevirtual 46, 3) := by decide +kernel
theorem dX3_read_4 : decode cX3_read 4 = .ok (.aload_n 0, 1) := by decide +kernel
theorem dX3_read_5 : decode cX3_read 5 = .ok (.iload_n 1, 1) := by decide +kernel
theorem dX3_read_6 : decode cX3_read 6 = .ok (.invokevirtual 119, 3) := by decide +kernel
theorem dX3_read_9 : decode cX3_read 9 = .ok (.istore_n 3, 1) := by decide +kernel
theorem dX3_read_10 : decode cX3_read 10 = .ok (.aload_n 0, 1) := by decide +kernel
theorem dX3_read_11 : decode cX3_read 11 = .ok (.iload_n 3, 1) := by decide +kernel
theorem dX3_read_12 : decode cX3_read 12 = .ok (.iload_n 2, 1) := by decide +kernel
theorem dX3_read_13 : decode cX3_read 13 = .ok (.invokevirtual 94, 3) := by decide +kernel
theorem dX3_read_16 : decode cX3_read 16 = .ok (.aload_n 0, 1) := by decide +kernel
theorem dX3_read_17 : decode cX3_read 17 = .ok (.getfield 21, 3) := by decide +kernel
theorem dX3_read_20 : decode cX3_read 20 = .ok (.aload_n 0, 1) := by decide +kernel
theorem dX3_read_21 : decode cX3_read 21 = .ok (.getfield 28, 3) := by decide +kernel
theorem dX3_read_24 : decode cX3_read 24 = .ok (.iload_n 3, 1) := by decide +kernel
theorem dX3_read_25 : decode cX3_read 25 = .ok (.invokevirtual 98, 3) := by decide +kernel
theorem dX3_read_28 : decode cX3_read 28 = .ok (.iload_n 2, 1) := by decide +kernel
theorem dX3_read_29 : decode cX3_read 29 = .ok (.iadd, 1) := by decide +kernel
theorem dX3_read_30 : decode cX3_read 30 = .ok (.invokevirtual 140, 3) := by decide +kernel
theorem dX3_read_33 : decode cX3_read 33 = .ok (.ireturn, 1) := by decide +kernel
set_option maxRecDepth 20000 in
theorem ggX3_squeeze_X3_requirePower : GoodIn wsX3_squeeze wsX3_requirePower := goodIn_ca (goodIn_r _ [8, 1, 2, 9, 10, 11, 12, 13, 14, 15, 137, 138, 139, 140, 141, 142, 143, 144, 145] (by decide +kernel) (by decide +kernel)) (goodIn_sub (fun _ h => List.mem_cons_of_mem _ (List.mem_append_right _ h)) (by decide +kernel))
set_option maxRecDepth 20000 in
theorem gX3_squeeze_X3_requirePower : GoodIn wsX3_squeeze (wsV RX3 46 RX3 yX3_requirePower wsX3_requirePower) := goodIn_app (goodIn_of _ (by decide +kernel)) ggX3_squeeze_X3_requirePower
set_option maxRecDepth 20000 in
theorem ggX3_squeeze_X0_countOf : GoodIn wsX3_squeeze wsX0_countOf := goodIn_r _ [20, 21, 22, 23, 24, 25, 26, 27, 28, 146, 147, 148, 149, 150, 151] (by decide +kernel) (by decide +kernel)
set_option maxRecDepth 20000 in
theorem gX3_squeeze_X0_countOf : GoodIn wsX3_squeeze (wsV RX3 143 RX0 yX0_countOf wsX0_countOf) := goodIn_app (goodIn_of _ (by decide +kernel)) ggX3_squeeze_X0_countOf
set_option maxRecDepth 20000 in
theorem ggX3_squeeze_X3_moveAll : GoodIn wsX3_squeeze wsX3_moveAll := goodIn_r _ [32, 3, 33, 34, 35, 36, 19, 37, 21, 22, 23, 24, 25, 26, 27, 28, 38, 39, 40, 41, 42, 43, 44, 45, 7, 46, 47, 48, 49, 50, 51, 52, 53, 54, 55, 56, 57, 58, 59, 60, 61, 62, 63, 64, 65, 66, 67, 9, 68, 69, 70, 13, 71, 72, 15, 73, 74, 75, 76, 77, 78, 79, 80, 81, 82, 83, 84, 85, 86, 87, 88, 89, 90, 91, 92, 93, 94, 95, 96, 97, 98, 99, 100, 101, 102, 103, 104, 105, 106, 107, 108, 109, 110, 111, 112, 113, 114, 115, 116, 117, 118, 119, 120, 121, 122, 123, 124, 125, 126, 127, 128, 129, 130, 131, 132, 133, 134, 135, 136, 137, 138, 139, 140, 141, 142, 146, 147, 148, 149, 150, 151, 143, 144, 145] (by decide +kernel) (by decide +kernel)
set_option maxRecDepth 20000 in
theorem gX3_squeeze_X3_moveAll : GoodIn wsX3_squeeze (wsV RX3 148 RX3 yX3_moveAll wsX3_moveAll) := goodIn_app (goodIn_of _ (by decide +kernel)) ggX3_squeeze_X3_moveAll
theorem dX3_squeeze_0 : decode cX3_squeeze 0 = .ok (.aload_n 0, 1) := by decide +kernel
theorem dX3_squeeze_1 : decode cX3_squeeze 1 = .ok (.invokevirtual 46, 3) := by decide +kernel
theorem dX3_squeeze_4 : decode cX3_squeeze 4 = .ok (.aload_n 0, 1) := by decide +kernel
theorem dX3_squeeze_5 : decode cX3_squeeze 5 = .ok (.getfield 28, 3) := by decide +kernel
theorem dX3_squeeze_8 : decode cX3_squeeze 8 = .ok (.iconst 1, 1) := by decide +kernel
theorem dX3_squeeze_9 : decode cX3_squeeze 9 = .ok (.invokevirtual 143, 3) := by decide +kernel
theorem dX3_squeeze_12 : decode cX3_squeeze 12 = .ok (.ifCond .le 13, 3) := by decide +kernel
theorem dX3_squeeze_15 : decode cX3_squeeze 15 = .ok (.new 63, 3) := by decide +kernel
theorem dX3_squeeze_18 : decode cX3_squeeze 18 = .ok (.dup, 1) := by decide +kernel
theorem dX3_squeeze_19 : decode cX3_squeeze 19 = .ok (.ldc 146, 2) := by decide +kernel
theorem dX3_squeeze_21 : decode cX3_squeeze 21 = .ok (.invokespecial 67, 3) := by decide +kernel
theorem dX3_squeeze_24 : decode cX3_squeeze 24 = .ok (.athrow, 1) := by decide +kernel
theorem dX3_squeeze_25 : decode cX3_squeeze 25 = .ok (.aload_n 0, 1) := by decide +kernel
theorem dX3_squeeze_26 : decode cX3_squeeze 26 = .ok (.invokevirtual 148, 3) := by decide +kernel
theorem dX3_squeeze_29 : decode cX3_squeeze 29 = .ok (.ireturn, 1) := by decide +kernel
set_option maxRecDepth 20000 in
theorem ggX3_mount_X1_isUp : GoodIn wsX3_mount wsX1_isUp := goodIn_r _ [10, 11, 148, 149, 150] (by decide +kernel) (by decide +kernel)
set_option maxRecDepth 20000 in
theorem gX3_mount_X1_isUp : GoodIn wsX3_mount (wsV RX3 151 RX1 yX1_isUp wsX1_isUp) := goodIn_app (goodIn_of _ (by decide +kernel)) ggX3_mount_X1_isUp
set_option maxRecDepth 20000 in
theorem ggX3_mount_X1_comeAgain : GoodIn wsX3_mount wsX1_comeAgain := goodIn_r _ [15, 11, 16, 148, 149, 150] (by decide +kernel) (by decide +kernel)
set_option maxRecDepth 20000 in
theorem gX3_mount_X1_comeAgain : GoodIn wsX3_mount (wsV RX3 156 RX1 yX1_comeAgain wsX1_comeAgain) := goodIn_app (goodIn_of _ (by decide +kernel)) ggX3_mount_X1_comeAgain
set_option maxRecDepth 20000 in
theorem ggX3_mount_X3_moveAll : GoodIn wsX3_mount wsX3_moveAll := goodIn_r _ [21, 5, 4, 22, 23, 24, 25, 26, 27, 28, 29, 30, 31, 32, 33, 34, 35, 36, 37, 38, 39, 40, 41, 42, 20, 43, 44, 45, 46, 47, 48, 49, 50, 51, 52, 53, 54, 55, 56, 57, 58, 59, 60, 61, 62, 63, 64, 3, 65, 66, 67, 9, 68, 16, 11, 69, 70, 71, 72, 73, 74, 75, 76, 77, 78, 79, 80, 81, 82, 83, 84, 85, 86, 87, 88, 89, 90, 91, 92, 93, 94, 95, 96, 97, 98, 99, 100, 101, 102, 103, 104, 105, 106, 107, 108, 109, 110, 111, 112, 113, 114, 115, 116, 117, 118, 119, 120, 121, 122, 123, 124, 125, 126, 127, 128, 129, 130, 131, 132, 142, 143, 144, 145, 146, 147, 151, 152, 153, 154, 155, 156, 148, 149, 150] (by decide +kernel) (by decide +kernel)
set_option maxRecDepth 20000 in
theorem gX3_mount_X3_moveAll : GoodIn wsX3_mount (wsV RX3 148 RX3 yX3_moveAll wsX3_moveAll) := goodIn_app (goodIn_of _ (by decide +kernel)) ggX3_mount_X3_moveAll
set_option maxRecDepth 20000 in
theorem ggX3_mount_X0_countOf : GoodIn wsX3_mount wsX0_countOf := goodIn_r _ [136, 27, 28, 29, 30, 31, 32, 33, 34, 151, 152, 153, 154, 155, 156] (by decide +kernel) (by decide +kernel)
set_option maxRecDepth 20000 in
theorem gX3_mount_X0_countOf : GoodIn wsX3_mount (wsV RX3 143 RX0 yX0_countOf wsX0_countOf) := goodIn_app (goodIn_of _ (by decide +kernel)) ggX3_mount_X0_countOf
set_option maxRecDepth 20000 in
theorem ggX3_mount_X3_draftWithoutTentative : GoodIn wsX3_mount wsX3_draftWithoutTentative := goodIn_r _ [140, 83, 5, 84, 85, 86, 25, 87, 27, 116, 117, 118, 119, 141, 93, 94, 95, 28, 29, 30, 31, 32, 33, 34, 35, 36, 37, 38, 39, 112, 113, 114, 115, 107, 108, 109, 110, 101, 106, 111, 76, 77, 78, 88, 89, 90, 91, 92, 96, 97, 98, 99, 100, 102, 103, 104, 105, 142, 143, 144, 145, 146, 147, 151, 152, 153, 154, 155, 156] (by decide +kernel) (by decide +kernel)
set_option maxRecDepth 20000 in
theorem gX3_mount_X3_draftWithoutTentative : GoodIn wsX3_mount (wsV RX3 159 RX3 yX3_draftWithoutTentative wsX3_draftWithoutTentative) := goodIn_app (goodIn_of _ (by decide +kernel)) ggX3_mount_X3_draftWithoutTentative
set_option maxRecDepth 20000 in
theorem ggX3_mount_X3_change : GoodIn wsX3_mount wsX3_change := goodIn_r _ [123, 83, 3, 5, 116, 117, 118, 25, 119, 27, 65, 66, 67, 9, 68, 16, 11, 69, 124, 125, 126, 127, 28, 39, 101, 106, 128, 129, 130, 32, 131, 34, 132, 30, 31, 33, 142, 143, 144, 145, 146, 147, 151, 152, 153, 154, 155, 148, 149, 150, 156] (by decide +kernel) (by decide +kernel)
set_option maxRecDepth 20000 in
theorem gX3_mount_X3_change : GoodIn wsX3_mount (wsV RX3 87 RX3 yX3_change wsX3_change) := goodIn_app (goodIn_of _ (by decide +kernel)) ggX3_mount_X3_change
theorem dX3_mount_0 : decode cX3_mount 0 = .ok (.aload_n 0, 1) := by decide +kernel
theorem dX3_mount_1 : decode cX3_mount 1 = .ok (.getfield 10, 3) := by decide +kernel
theorem dX3_mount_4 : decode cX3_mount 4 = .ok (.invokevirtual 151, 3) := by decide +kernel
theorem dX3_mount_7 : decode cX3_mount 7 = .ok (.ifCond .eq 13, 3) := by decide +kernel
theorem dX3_mount_10 : decode cX3_mount 10 = .ok (.new 63, 3) := by decide +kernel
theorem dX3_mount_13 : decode cX3_mount 13 = .ok (.dup, 1) := by decide +kernel
theorem dX3_mount_14 : decode cX3_mount 14 = .ok (.ldc 154, 2) := by decide +kernel
theorem dX3_mount_16 : decode cX3_mount 16 = .ok (.invokespecial 67, 3) := by decide +kernel
theorem dX3_mount_19 : decode cX3_mount 19 = .ok (.athrow, 1) := by decide +kernel
theorem dX3_mount_20 : decode cX3_mount 20 = .ok (.aload_n 0, 1) := by decide +kernel
theorem dX3_mount_21 : decode cX3_mount 21 = .ok (.getfield 10, 3) := by decide +kernel
theorem dX3_mount_24 : decode cX3_mount 24 = .ok (.invokevirtual 156, 3) := by decide +kernel
theorem dX3_mount_27 : decode cX3_mount 27 = .ok (.aload_n 0, 1) := by decide +kernel
theorem dX3_mount_28 : decode cX3_mount 28 = .ok (.getfield 35, 3) := by decide +kernel
theorem dX3_mount_31 : decode cX3_mount 31 = .ok (.ifCond .eq 8, 3) := by decide +kernel
theorem dX3_mount_34 : decode cX3_mount 34 = .ok (.aload_n 0, 1) := by decide +kernel
theorem dX3_mount_35 : decode cX3_mount 35 = .ok (.invokevirtual 148, 3) := by decide +kernel
theorem dX3_mount_38 : decode cX3_mount 38 = .ok (.pop, 1) := by decide +kernel
theorem dX3_mount_39 : decode cX3_mount 39 = .ok (.aload_n 0, 1) := by decide +kernel
theorem dX3_mount_40 : decode cX3_mount 40 = .ok (.getfield 28, 3) := by decide +kernel
theorem dX3_mount_43 : decode cX3_mount 43 = .ok (.iconst 1, 1) := by decide +kernel
theorem dX3_mount_44 : decode cX3_mount 44 = .ok (.invokevirtual 143, 3) := by decide +kernel
theorem dX3_mount_47 : decode cX3_mount 47 = .ok (.ifCond .le 12, 3) := by decide +kernel
theorem dX3_mount_50 : decode cX3_mount 50 = .ok (.aload_n 0, 1) := by decide +kernel
theorem dX3_mount_51 : decode cX3_mount 51 = .ok (.invokevirtual 159, 3) := by decide +kernel
theorem dX3_mount_54 : decode cX3_mount 54 = .ok (.aload_n 0, 1) := by decide +kernel
theorem dX3_mount_55 : decode cX3_mount 55 = .ok (.invokevirtual 87, 3) := by decide +kernel
theorem dX3_mount_58 : decode cX3_mount 58 = .ok (.pop, 1) := by decide +kernel
theorem dX3_mount_59 : decode cX3_mount 59 = .ok (.aload_n 0, 1) := by decide +kernel
theorem dX3_mount_60 : decode cX3_mount 60 = .ok (.getfield 28, 3) := by decide +kernel
theorem dX3_mount_63 : decode cX3_mount 63 = .ok (.iconst 2, 1) := by decide +kernel
theorem dX3_mount_64 : decode cX3_mount 64 = .ok (.invokevirtual 143, 3) := by decide +kernel
theorem dX3_mount_67 : decode cX3_mount 67 = .ok (.ireturn, 1) := by decide +kernel
set_option maxRecDepth 20000 in
theorem ggX3_cutAfter_X3_requirePower : GoodIn wsX3_cutAfter wsX3_requirePower := goodIn_ca (goodIn_r _ [8, 9, 10, 3, 11, 12, 13, 14, 15, 16, 22, 23, 24, 25, 26, 27, 28, 29, 30] (by decide +kernel) (by decide +kernel)) (goodIn_sub (fun _ h => List.mem_cons_of_mem _ (List.mem_append_right _ h)) (by decide +kernel))
set_option maxRecDepth 20000 in
theorem gX3_cutAfter_X3_requirePower : GoodIn wsX3_cutAfter (wsV RX3 46 RX3 yX3_requirePower wsX3_requirePower) := goodIn_app (goodIn_of _ (by decide +kernel)) ggX3_cutAfter_X3_requirePower
set_option maxRecDepth 20000 in
theorem ggX3_cutAfter_X1_failAfter : GoodIn wsX3_cutAfter wsX1_failAfter := goodIn_r _ [20, 21, 28, 29, 30] (by decide +kernel) (by decide +kernel)
set_option maxRecDepth 20000 in
theorem gX3_cutAfter_X1_failAfter : GoodIn wsX3_cutAfter (wsV RX3 164 RX1 yX1_failAfter wsX1_failAfter) := goodIn_app (goodIn_of _ (by decide +kernel)) ggX3_cutAfter_X1_failAfter
theorem dX3_cutAfter_0 : decode cX3_cutAfter 0 = .ok (.aload_n 0, 1) := by decide +kernel
theorem dX3_cutAfter_1 : decode cX3_cutAfter 1 = .ok (.invokevirtual 46, 3) := by decide +kernel
theorem dX3_cutAfter_4 : decode cX3_cutAfter 4 = .ok (.iload_n 1, 1) := by decide +kernel
theorem dX3_cutAfter_5 : decode cX3_cutAfter 5 = .ok (.iconst (-1), 1) := by decide +kernel
theorem dX3_cutAfter_6 : decode cX3_cutAfter 6 = .ok (.if_icmp .ge 13, 3) := by decide +kernel
theorem dX3_cutAfter_9 : decode cX3_cutAfter 9 = .ok (.new 52, 3) := by decide +kernel
theorem dX3_cutAfter_12 : decode cX3_cutAfter 12 = .ok (.dup, 1) := by decide +kernel
theorem dX3_cutAfter_13 : decode cX3_cutAfter 13 = .ok (.ldc 162, 2) := by decide +kernel
theorem dX3_cutAfter_15 : decode cX3_cutAfter 15 = .ok (.invokespecial 56, 3) := by decide +kernel
theorem dX3_cutAfter_18 : decode cX3_cutAfter 18 = .ok (.athrow, 1) := by decide +kernel
theorem dX3_cutAfter_19 : decode cX3_cutAfter 19 = .ok (.aload_n 0, 1) := by decide +kernel
theorem dX3_cutAfter_20 : decode cX3_cutAfter 20 = .ok (.getfield 10, 3) := by decide +kernel
theorem dX3_cutAfter_23 : decode cX3_cutAfter 23 = .ok (.iload_n 1, 1) := by decide +kernel
theorem dX3_cutAfter_24 : decode cX3_cutAfter 24 = .ok (.invokevirtual 164, 3) := by decide +kernel
theorem dX3_cutAfter_27 : decode cX3_cutAfter 27 = .ok (.return_, 1) := by decide +kernel
set_option maxRecDepth 20000 in
theorem ggX3_entry_X3_requirePower : GoodIn wsX3_entry wsX3_requirePower := goodIn_ca (goodIn_r _ [10, 11, 12, 13, 14, 15, 16, 17, 18, 19, 51, 52, 53, 54, 55, 56, 57, 58, 59] (by decide +kernel) (by decide +kernel)) (goodIn_sub (fun _ h => List.mem_cons_of_mem _ (List.mem_append_right _ h)) (by decide +kernel))
set_option maxRecDepth 20000 in
theorem gX3_entry_X3_requirePower : GoodIn wsX3_entry (wsV RX3 46 RX3 yX3_requirePower wsX3_requirePower) := goodIn_app (goodIn_of _ (by decide +kernel)) ggX3_entry_X3_requirePower
set_option maxRecDepth 20000 in
theorem ggX3_entry_X0_count : GoodIn wsX3_entry wsX0_count := goodIn_r _ [24, 25, 60, 61, 62, 63, 64] (by decide +kernel) (by decide +kernel)
set_option maxRecDepth 20000 in
theorem gX3_entry_X0_count : GoodIn wsX3_entry (wsV RX3 137 RX0 yX0_count wsX0_count) := goodIn_app (goodIn_of _ (by decide +kernel)) ggX3_entry_X0_count
set_option maxRecDepth 20000 in
theorem ggX3_entry_X0_kindAt : GoodIn wsX3_entry wsX0_kindAt := goodIn_r _ [29, 30, 31, 32, 33, 34, 35, 36, 60, 61, 62, 63, 64, 65] (by decide +kernel) (by decide +kernel)
set_option maxRecDepth 20000 in
theorem gX3_entry_X0_kindAt : GoodIn wsX3_entry (wsV RX3 174 RX0 yX0_kindAt wsX0_kindAt) := goodIn_app (goodIn_of _ (by decide +kernel)) ggX3_entry_X0_kindAt
set_option maxRecDepth 20000 in
theorem ggX3_entry_X0_beginAt : GoodIn wsX3_entry wsX0_beginAt := goodIn_r _ [40, 25, 41, 31, 32, 33, 34, 35, 36, 60, 61, 62, 63, 64, 65] (by decide +kernel) (by decide +kernel)
set_option maxRecDepth 20000 in
theorem gX3_entry_X0_beginAt : GoodIn wsX3_entry (wsV RX3 98 RX0 yX0_beginAt wsX0_beginAt) := goodIn_app (goodIn_of _ (by decide +kernel)) ggX3_entry_X0_beginAt
set_option maxRecDepth 20000 in
theorem ggX3_entry_X0_lengthAt : GoodIn wsX3_entry wsX0_lengthAt := goodIn_r _ [45, 41, 31, 32, 33, 34, 35, 36, 60, 61, 62, 63, 64, 65] (by decide +kernel) (by decide +kernel)
set_option maxRecDepth 20000 in
theorem gX3_entry_X0_lengthAt : GoodIn wsX3_entry (wsV RX3 105 RX0 yX0_lengthAt wsX0_lengthAt) := goodIn_app (goodIn_of _ (by decide +kernel)) ggX3_entry_X0_lengthAt
set_option maxRecDepth 20000 in
theorem ggX3_entry_X0_nameAt : GoodIn wsX3_entry wsX0_nameAt := goodIn_r _ [49, 50, 31, 32, 33, 34, 35, 36, 60, 61, 62, 63, 64, 65] (by decide +kernel) (by decide +kernel)
set_option maxRecDepth 20000 in
theorem gX3_entry_X0_nameAt : GoodIn wsX3_entry (wsV RX3 177 RX0 yX0_nameAt wsX0_nameAt) := goodIn_app (goodIn_of _ (by decide +kernel)) ggX3_entry_X0_nameAt
theorem dX3_entry_0 : decode cX3_entry 0 = .ok (.aload_n 0, 1) := by decide +kernel
theorem dX3_entry_1 : decode cX3_entry 1 = .ok (.invokevirtual 46, 3) := by decide +kernel
theorem dX3_entry_4 : decode cX3_entry 4 = .ok (.iload_n 2, 1) := by decide +kernel
theorem dX3_entry_5 : decode cX3_entry 5 = .ok (.ifCond .lt 8, 3) := by decide +kernel
theorem dX3_entry_8 : decode cX3_entry 8 = .ok (.iload_n 2, 1) := by decide +kernel
theorem dX3_entry_9 : decode cX3_entry 9 = .ok (.iconst 3, 1) := by decide +kernel
theorem dX3_entry_10 : decode cX3_entry 10 = .ok (.if_icmp .le 13, 3) := by decide +kernel
theorem dX3_entry_13 : decode cX3_entry 13 = .ok (.new 52, 3) := by decide +kernel
theorem dX3_entry_16 : decode cX3_entry 16 = .ok (.dup, 1) := by decide +kernel
theorem dX3_entry_17 : decode cX3_entry 17 = .ok (.ldc 167, 2) := by decide +kernel
theorem dX3_entry_19 : decode cX3_entry 19 = .ok (.invokespecial 56, 3) := by decide +kernel
theorem dX3_entry_22 : decode cX3_entry 22 = .ok (.athrow, 1) := by decide +kernel
theorem dX3_entry_23 : decode cX3_entry 23 = .ok (.iload_n 1, 1) := by decide +kernel
theorem dX3_entry_24 : decode cX3_entry 24 = .ok (.ifCond .lt 14, 3) := by decide +kernel
theorem dX3_entry_27 : decode cX3_entry 27 = .ok (.iload_n 1, 1) := by decide +kernel
theorem dX3_entry_28 : decode cX3_entry 28 = .ok (.aload_n 0, 1) := by decide +kernel
theorem dX3_entry_29 : decode cX3_entry 29 = .ok (.getfield 28, 3) := by decide +kernel
theorem dX3_entry_32 : decode cX3_entry 32 = .ok (.invokevirtual 137, 3) := by decide +kernel
theorem dX3_entry_35 : decode cX3_entry 35 = .ok (.if_icmp .lt 13, 3) := by decide +kernel
theorem dX3_entry_38 : decode cX3_entry 38 = .ok (.new 169, 3) := by decide +kernel
theorem dX3_entry_41 : decode cX3_entry 41 = .ok (.dup, 1) := by decide +kernel
theorem dX3_entry_42 : decode cX3_entry 42 = .ok (.ldc 171, 2) := by decide +kernel
theorem dX3_entry_44 : decode cX3_entry 44 = .ok (.invokespecial 173, 3) := by decide +kernel
theorem dX3_entry_47 : decode cX3_entry 47 = .ok (.athrow, 1) := by decide +kernel
theorem dX3_entry_48 : decode cX3_entry 48 = .ok (.iload_n 2, 1) := by decide +kernel
theorem dX3_entry_49 : decode cX3_entry 49 = .ok (.tableswitch 54 0 2 #[27, 36, 45], 27) := by decide +kernel
theorem dX3_entry_76 : decode cX3_entry 76 = .ok (.aload_n 0, 1) := by decide +kernel
theorem dX3_entry_77 : decode cX3_entry 77 = .ok (.getfield 28, 3) := by decide +kernel
theorem dX3_entry_80 : decode cX3_entry 80 = .ok (.iload_n 1, 1) := by decide +kernel
theorem dX3_entry_81 : decode cX3_entry 81 = .ok (.invokevirtual 174, 3) := by decide +kernel
theorem dX3_entry_84 : decode cX3_entry 84 = .ok (.ireturn, 1) := by decide +kernel
theorem dX3_entry_85 : decode cX3_entry 85 = .ok (.aload_n 0, 1) := by decide +kernel
theorem dX3_entry_86 : decode cX3_entry 86 = .ok (.getfield 28, 3) := by decide +kernel
theorem dX3_entry_89 : decode cX3_entry 89 = .ok (.iload_n 1, 1) := by decide +kernel
theorem dX3_entry_90 : decode cX3_entry 90 = .ok (.invokevirtual 98, 3) := by decide +kernel
theorem dX3_entry_93 : decode cX3_entry 93 = .ok (.ireturn, 1) := by decide +kernel
theorem dX3_entry_94 : decode cX3_entry 94 = .ok (.aload_n 0, 1) := by decide +kernel
theorem dX3_entry_95 : decode cX3_entry 95 = .ok (.getfield 28, 3) := by decide +kernel
end
section
theorem dX3_entry_98 : decode cX3_entry 98 = .ok (.iload_n 1, 1) := by decide +kernel
theorem dX3_entry_99 : decode cX3_entry 99 = .ok (.invokevirtual 105, 3) := by decide +kernel
theorem dX3_entry_102 : decode cX3_entry 102 = .ok (.ireturn, 1) := by decide +kernel
theorem dX3_entry_103 : decode cX3_entry 103 = .ok (.aload_n 0, 1) := by decide +kernel
theorem dX3_entry_104 : decode cX3_entry 104 = .ok (.getfield 28, 3) := by decide +kernel
theorem dX3_entry_107 : decode cX3_entry 107 = .ok (.iload_n 1, 1) := by decide +kernel
theorem dX3_entry_108 : decode cX3_entry 108 = .ok (.invokevirtual 177, 3) := by decide +kernel
theorem dX3_entry_111 : decode cX3_entry 111 = .ok (.ireturn, 1) := by decide +kernel
set_option maxRecDepth 20000 in
theorem ggX3_entries_X3_requirePower : GoodIn wsX3_entries wsX3_requirePower := goodIn_ca (goodIn_r _ [6, 7, 8, 9, 10, 11, 12, 13, 14, 15, 22, 23, 24, 25, 26, 27, 28, 29, 30] (by decide +kernel) (by decide +kernel)) (goodIn_sub (fun _ h => List.mem_cons_of_mem _ (List.mem_append_right _ h)) (by decide +kernel))
set_option maxRecDepth 20000 in
theorem gX3_entries_X3_requirePower : GoodIn wsX3_entries (wsV RX3 46 RX3 yX3_requirePower wsX3_requirePower) := goodIn_app (goodIn_of _ (by decide +kernel)) ggX3_entries_X3_requirePower
set_option maxRecDepth 20000 in
theorem ggX3_entries_X0_count : GoodIn wsX3_entries wsX0_count := goodIn_r _ [20, 21, 31, 32, 33, 34, 35] (by decide +kernel) (by decide +kernel)
set_option maxRecDepth 20000 in
theorem gX3_entries_X0_count : GoodIn wsX3_entries (wsV RX3 137 RX0 yX0_count wsX0_count) := goodIn_app (goodIn_of _ (by decide +kernel)) ggX3_entries_X0_count
theorem dX3_entries_0 : decode cX3_entries 0 = .ok (.aload_n 0, 1) := by decide +kernel
theorem dX3_entries_1 : decode cX3_entries 1 = .ok (.invokevirtual 46, 3) := by decide +kernel
theorem dX3_entries_4 : decode cX3_entries 4 = .ok (.aload_n 0, 1) := by decide +kernel
theorem dX3_entries_5 : decode cX3_entries 5 = .ok (.getfield 28, 3) := by decide +kernel
theorem dX3_entries_8 : decode cX3_entries 8 = .ok (.invokevirtual 137, 3) := by decide +kernel
theorem dX3_entries_11 : decode cX3_entries 11 = .ok (.ireturn, 1) := by decide +kernel
set_option maxRecDepth 20000 in
theorem ggX3_free_X3_requirePower : GoodIn wsX3_free wsX3_requirePower := goodIn_ca (goodIn_r _ [6, 7, 8, 9, 10, 11, 12, 13, 14, 15, 38, 39, 40, 41, 42, 43, 44, 45, 46] (by decide +kernel) (by decide +kernel)) (goodIn_sub (fun _ h => List.mem_cons_of_mem _ (List.mem_append_right _ h)) (by decide +kernel))
set_option maxRecDepth 20000 in
theorem gX3_free_X3_requirePower : GoodIn wsX3_free (wsV RX3 46 RX3 yX3_requirePower wsX3_requirePower) := goodIn_app (goodIn_of _ (by decide +kernel)) ggX3_free_X3_requirePower
set_option maxRecDepth 20000 in
theorem ggX3_free_X0_longestEmpty : GoodIn wsX3_free wsX0_longestEmpty := goodIn_r _ [20, 21, 22, 23, 24, 25, 26, 27, 28, 29, 30, 31, 32, 33, 47, 48, 49, 50, 51, 52] (by decide +kernel) (by decide +kernel)
set_option maxRecDepth 20000 in
theorem gX3_free_X0_longestEmpty : GoodIn wsX3_free (wsV RX3 180 RX0 yX0_longestEmpty wsX0_longestEmpty) := goodIn_app (goodIn_of _ (by decide +kernel)) ggX3_free_X0_longestEmpty
set_option maxRecDepth 20000 in
theorem ggX3_free_X0_emptyBlocks : GoodIn wsX3_free wsX0_emptyBlocks := goodIn_r _ [37, 21, 22, 23, 28, 29, 30, 31, 32, 33, 47, 48, 49, 50, 51, 52] (by decide +kernel) (by decide +kernel)
set_option maxRecDepth 20000 in
theorem gX3_free_X0_emptyBlocks : GoodIn wsX3_free (wsV RX3 113 RX0 yX0_emptyBlocks wsX0_emptyBlocks) := goodIn_app (goodIn_of _ (by decide +kernel)) ggX3_free_X0_emptyBlocks
theorem dX3_free_0 : decode cX3_free 0 = .ok (.aload_n 0, 1) := by decide +kernel
theorem dX3_free_1 : decode cX3_free 1 = .ok (.invokevirtual 46, 3) := by decide +kernel
theorem dX3_free_4 : decode cX3_free 4 = .ok (.iload_n 1, 1) := by decide +kernel
theorem dX3_free_5 : decode cX3_free 5 = .ok (.ifCond .eq 13, 3) := by decide +kernel
theorem dX3_free_8 : decode cX3_free 8 = .ok (.aload_n 0, 1) := by decide +kernel
theorem dX3_free_9 : decode cX3_free 9 = .ok (.getfield 28, 3) := by decide +kernel
theorem dX3_free_12 : decode cX3_free 12 = .ok (.invokevirtual 180, 3) := by decide +kernel
theorem dX3_free_15 : decode cX3_free 15 = .ok (.goto 10, 3) := by decide +kernel
theorem dX3_free_18 : decode cX3_free 18 = .ok (.aload_n 0, 1) := by decide +kernel
theorem dX3_free_19 : decode cX3_free 19 = .ok (.getfield 28, 3) := by decide +kernel
theorem dX3_free_22 : decode cX3_free 22 = .ok (.invokevirtual 113, 3) := by decide +kernel
theorem dX3_free_25 : decode cX3_free 25 = .ok (.ireturn, 1) := by decide +kernel
set_option maxRecDepth 20000 in
theorem ggX3_handle_X3_requirePower : GoodIn wsX3_handle wsX3_requirePower := goodIn_ca (goodIn_r _ [6, 7, 8, 9, 10, 11, 12, 13, 14, 15, 35, 36, 37, 38, 39, 40, 41, 42, 43] (by decide +kernel) (by decide +kernel)) (goodIn_sub (fun _ h => List.mem_cons_of_mem _ (List.mem_append_right _ h)) (by decide +kernel))
set_option maxRecDepth 20000 in
theorem gX3_handle_X3_requirePower : GoodIn wsX3_handle (wsV RX3 46 RX3 yX3_requirePower wsX3_requirePower) := goodIn_app (goodIn_of _ (by decide +kernel)) ggX3_handle_X3_requirePower
set_option maxRecDepth 20000 in
theorem ggX3_handle_X0_leastHandleOf : GoodIn wsX3_handle wsX0_leastHandleOf := goodIn_r _ [20, 21, 22, 23, 24, 19, 25, 26, 27, 28, 29, 30, 31, 32, 33, 34, 44, 45, 46, 47, 48, 49] (by decide +kernel) (by decide +kernel)
set_option maxRecDepth 20000 in
theorem gX3_handle_X0_leastHandleOf : GoodIn wsX3_handle (wsV RX3 183 RX0 yX0_leastHandleOf wsX0_leastHandleOf) := goodIn_app (goodIn_of _ (by decide +kernel)) ggX3_handle_X0_leastHandleOf
theorem dX3_handle_0 : decode cX3_handle 0 = .ok (.aload_n 0, 1) := by decide +kernel
theorem dX3_handle_1 : decode cX3_handle 1 = .ok (.invokevirtual 46, 3) := by decide +kernel
theorem dX3_handle_4 : decode cX3_handle 4 = .ok (.aload_n 0, 1) := by decide +kernel
theorem dX3_handle_5 : decode cX3_handle 5 = .ok (.getfield 28, 3) := by decide +kernel
theorem dX3_handle_8 : decode cX3_handle 8 = .ok (.iload_n 1, 1) := by decide +kernel
theorem dX3_handle_9 : decode cX3_handle 9 = .ok (.invokevirtual 183, 3) := by decide +kernel
theorem dX3_handle_12 : decode cX3_handle 12 = .ok (.ireturn, 1) := by decide +kernel
set_option maxRecDepth 20000 in
theorem ggX3_writes_X1_made : GoodIn wsX3_writes wsX1_made := goodIn_r _ [6, 7, 14, 15, 16] (by decide +kernel) (by decide +kernel)
set_option maxRecDepth 20000 in
theorem gX3_writes_X1_made : GoodIn wsX3_writes (wsV RX3 186 RX1 yX1_made wsX1_made) := goodIn_app (goodIn_of _ (by decide +kernel)) ggX3_writes_X1_made
theorem dX3_writes_0 : decode cX3_writes 0 = .ok (.aload_n 0, 1) := by decide +kernel
theorem dX3_writes_1 : decode cX3_writes 1 = .ok (.getfield 10, 3) := by decide +kernel
theorem dX3_writes_4 : decode cX3_writes 4 = .ok (.invokevirtual 186, 3) := by decide +kernel
theorem dX3_writes_7 : decode cX3_writes 7 = .ok (.ireturn, 1) := by decide +kernel
set_option maxRecDepth 20000 in
theorem ggX3_isOn_X1_isUp : GoodIn wsX3_isOn wsX1_isUp := goodIn_r _ [6, 7, 14, 15, 16] (by decide +kernel) (by decide +kernel)
set_option maxRecDepth 20000 in
theorem gX3_isOn_X1_isUp : GoodIn wsX3_isOn (wsV RX3 151 RX1 yX1_isUp wsX1_isUp) := goodIn_app (goodIn_of _ (by decide +kernel)) ggX3_isOn_X1_isUp
theorem dX3_isOn_0 : decode cX3_isOn 0 = .ok (.aload_n 0, 1) := by decide +kernel
theorem dX3_isOn_1 : decode cX3_isOn 1 = .ok (.getfield 10, 3) := by decide +kernel
theorem dX3_isOn_4 : decode cX3_isOn 4 = .ok (.invokevirtual 151, 3) := by decide +kernel
theorem dX3_isOn_7 : decode cX3_isOn 7 = .ok (.ireturn, 1) := by decide +kernel
set_option maxRecDepth 20000 in
theorem ggX3_requirePower_X1_isUp : GoodIn wsX3_requirePower wsX1_isUp := goodIn_r _ [8, 9, 16, 17, 18] (by decide +kernel) (by decide +kernel)
set_option maxRecDepth 20000 in
theorem gX3_requirePower_X1_isUp : GoodIn wsX3_requirePower (wsV RX3 151 RX1 yX1_isUp wsX1_isUp) := goodIn_app (goodIn_of _ (by decide +kernel)) ggX3_requirePower_X1_isUp
theorem dX3_requirePower_0 : decode cX3_requirePower 0 = .ok (.aload_n 0, 1) := by decide +kernel
theorem dX3_requirePower_1 : decode cX3_requirePower 1 = .ok (.getfield 10, 3) := by decide +kernel
theorem dX3_requirePower_4 : decode cX3_requirePower 4 = .ok (.invokevirtual 151, 3) := by decide +kernel
theorem dX3_requirePower_7 : decode cX3_requirePower 7 = .ok (.ifCond .ne 13, 3) := by decide +kernel
theorem dX3_requirePower_10 : decode cX3_requirePower 10 = .ok (.new 63, 3) := by decide +kernel
theorem dX3_requirePower_13 : decode cX3_requirePower 13 = .ok (.dup, 1) := by decide +kernel
theorem dX3_requirePower_14 : decode cX3_requirePower 14 = .ok (.ldc 189, 2) := by decide +kernel
theorem dX3_requirePower_16 : decode cX3_requirePower 16 = .ok (.invokespecial 67, 3) := by decide +kernel
theorem dX3_requirePower_19 : decode cX3_requirePower 19 = .ok (.athrow, 1) := by decide +kernel
theorem dX3_requirePower_20 : decode cX3_requirePower 20 = .ok (.return_, 1) := by decide +kernel
theorem dX3_requireName_0 : decode cX3_requireName 0 = .ok (.iload_n 1, 1) := by decide +kernel
theorem dX3_requireName_1 : decode cX3_requireName 1 = .ok (.iconst 1, 1) := by decide +kernel
theorem dX3_requireName_2 : decode cX3_requireName 2 = .ok (.if_icmp .lt 10, 3) := by decide +kernel
theorem dX3_requireName_5 : decode cX3_requireName 5 = .ok (.iload_n 1, 1) := by decide +kernel
theorem dX3_requireName_6 : decode cX3_requireName 6 = .ok (.sipush 999, 3) := by decide +kernel
theorem dX3_requireName_9 : decode cX3_requireName 9 = .ok (.if_icmp .le 13, 3) := by decide +kernel
theorem dX3_requireName_12 : decode cX3_requireName 12 = .ok (.new 52, 3) := by decide +kernel
theorem dX3_requireName_15 : decode cX3_requireName 15 = .ok (.dup, 1) := by decide +kernel
theorem dX3_requireName_16 : decode cX3_requireName 16 = .ok (.ldc 191, 2) := by decide +kernel
theorem dX3_requireName_18 : decode cX3_requireName 18 = .ok (.invokespecial 56, 3) := by decide +kernel
theorem dX3_requireName_21 : decode cX3_requireName 21 = .ok (.athrow, 1) := by decide +kernel
theorem dX3_requireName_22 : decode cX3_requireName 22 = .ok (.return_, 1) := by decide +kernel
set_option maxRecDepth 20000 in
theorem ggX3_requireTentative_X0_findTentative : GoodIn wsX3_requireTentative wsX0_findTentative := goodIn_r _ [8, 9, 10, 11, 12, 13, 14, 15, 16, 17, 24, 25, 26, 27, 28, 29] (by decide +kernel) (by decide +kernel)
set_option maxRecDepth 20000 in
theorem gX3_requireTentative_X0_findTentative : GoodIn wsX3_requireTentative (wsV RX3 193 RX0 yX0_findTentative wsX0_findTentative) := goodIn_app (goodIn_of _ (by decide +kernel)) ggX3_requireTentative_X0_findTentative
theorem dX3_requireTentative_0 : decode cX3_requireTentative 0 = .ok (.aload_n 0, 1) := by decide +kernel
theorem dX3_requireTentative_1 : decode cX3_requireTentative 1 = .ok (.getfield 28, 3) := by decide +kernel
theorem dX3_requireTentative_4 : decode cX3_requireTentative 4 = .ok (.iload_n 1, 1) := by decide +kernel
theorem dX3_requireTentative_5 : decode cX3_requireTentative 5 = .ok (.invokevirtual 193, 3) := by decide +kernel
theorem dX3_requireTentative_8 : decode cX3_requireTentative 8 = .ok (.istore_n 2, 1) := by decide +kernel
theorem dX3_requireTentative_9 : decode cX3_requireTentative 9 = .ok (.iload_n 2, 1) := by decide +kernel
theorem dX3_requireTentative_10 : decode cX3_requireTentative 10 = .ok (.iconst (-1), 1) := by decide +kernel
theorem dX3_requireTentative_11 : decode cX3_requireTentative 11 = .ok (.if_icmp .ne 13, 3) := by decide +kernel
theorem dX3_requireTentative_14 : decode cX3_requireTentative 14 = .ok (.new 196, 3) := by decide +kernel
theorem dX3_requireTentative_17 : decode cX3_requireTentative 17 = .ok (.dup, 1) := by decide +kernel
theorem dX3_requireTentative_18 : decode cX3_requireTentative 18 = .ok (.ldc 198, 2) := by decide +kernel
theorem dX3_requireTentative_20 : decode cX3_requireTentative 20 = .ok (.invokespecial 200, 3) := by decide +kernel
theorem dX3_requireTentative_23 : decode cX3_requireTentative 23 = .ok (.athrow, 1) := by decide +kernel
theorem dX3_requireTentative_24 : decode cX3_requireTentative 24 = .ok (.iload_n 2, 1) := by decide +kernel
theorem dX3_requireTentative_25 : decode cX3_requireTentative 25 = .ok (.ireturn, 1) := by decide +kernel
set_option maxRecDepth 20000 in
theorem ggX3_requirePermanent_X0_findPermanent : GoodIn wsX3_requirePermanent wsX0_findPermanent := goodIn_r _ [8, 9, 10, 11, 12, 13, 14, 15, 16, 17, 24, 25, 26, 27, 28, 29] (by decide +kernel) (by decide +kernel)
set_option maxRecDepth 20000 in
theorem gX3_requirePermanent_X0_findPermanent : GoodIn wsX3_requirePermanent (wsV RX3 122 RX0 yX0_findPermanent wsX0_findPermanent) := goodIn_app (goodIn_of _ (by decide +kernel)) ggX3_requirePermanent_X0_findPermanent
theorem dX3_requirePermanent_0 : decode cX3_requirePermanent 0 = .ok (.aload_n 0, 1) := by decide +kernel
theorem dX3_requirePermanent_1 : decode cX3_requirePermanent 1 = .ok (.getfield 28, 3) := by decide +kernel
theorem dX3_requirePermanent_4 : decode cX3_requirePermanent 4 = .ok (.iload_n 1, 1) := by decide +kernel
theorem dX3_requirePermanent_5 : decode cX3_requirePermanent 5 = .ok (.invokevirtual 122, 3) := by decide +kernel
theorem dX3_requirePermanent_8 : decode cX3_requirePermanent 8 = .ok (.istore_n 2, 1) := by decide +kernel
theorem dX3_requirePermanent_9 : decode cX3_requirePermanent 9 = .ok (.iload_n 2, 1) := by decide +kernel
theorem dX3_requirePermanent_10 : decode cX3_requirePermanent 10 = .ok (.iconst (-1), 1) := by decide +kernel
theorem dX3_requirePermanent_11 : decode cX3_requirePermanent 11 = .ok (.if_icmp .ne 13, 3) := by decide +kernel
theorem dX3_requirePermanent_14 : decode cX3_requirePermanent 14 = .ok (.new 196, 3) := by decide +kernel
theorem dX3_requirePermanent_17 : decode cX3_requirePermanent 17 = .ok (.dup, 1) := by decide +kernel
theorem dX3_requirePermanent_18 : decode cX3_requirePermanent 18 = .ok (.ldc 201, 2) := by decide +kernel
theorem dX3_requirePermanent_20 : decode cX3_requirePermanent 20 = .ok (.invokespecial 200, 3) := by decide +kernel
theorem dX3_requirePermanent_23 : decode cX3_requirePermanent 23 = .ok (.athrow, 1) := by decide +kernel
theorem dX3_requirePermanent_24 : decode cX3_requirePermanent 24 = .ok (.iload_n 2, 1) := by decide +kernel
theorem dX3_requirePermanent_25 : decode cX3_requirePermanent 25 = .ok (.ireturn, 1) := by decide +kernel
set_option maxRecDepth 20000 in
theorem ggX3_requireBlock_X0_lengthAt : GoodIn wsX3_requireBlock wsX0_lengthAt := goodIn_r _ [8, 9, 10, 11, 12, 13, 14, 15, 22, 23, 24, 25, 26, 27] (by decide +kernel) (by decide +kernel)
set_option maxRecDepth 20000 in
theorem gX3_requireBlock_X0_lengthAt : GoodIn wsX3_requireBlock (wsV RX3 105 RX0 yX0_lengthAt wsX0_lengthAt) := goodIn_app (goodIn_of _ (by decide +kernel)) ggX3_requireBlock_X0_lengthAt
theorem dX3_requireBlock_0 : decode cX3_requireBlock 0 = .ok (.iload_n 2, 1) := by decide +kernel
theorem dX3_requireBlock_1 : decode cX3_requireBlock 1 = .ok (.ifCond .lt 15, 3) := by decide +kernel
theorem dX3_requireBlock_4 : decode cX3_requireBlock 4 = .ok (.iload_n 2, 1) := by decide +kernel
theorem dX3_requireBlock_5 : decode cX3_requireBlock 5 = .ok (.aload_n 0, 1) := by decide +kernel
theorem dX3_requireBlock_6 : decode cX3_requireBlock 6 = .ok (.getfield 28, 3) := by decide +kernel
theorem dX3_requireBlock_9 : decode cX3_requireBlock 9 = .ok (.iload_n 1, 1) := by decide +kernel
theorem dX3_requireBlock_10 : decode cX3_requireBlock 10 = .ok (.invokevirtual 105, 3) := by decide +kernel
theorem dX3_requireBlock_13 : decode cX3_requireBlock 13 = .ok (.if_icmp .lt 13, 3) := by decide +kernel
theorem dX3_requireBlock_16 : decode cX3_requireBlock 16 = .ok (.new 52, 3) := by decide +kernel
theorem dX3_requireBlock_19 : decode cX3_requireBlock 19 = .ok (.dup, 1) := by decide +kernel
theorem dX3_requireBlock_20 : decode cX3_requireBlock 20 = .ok (.ldc 203, 2) := by decide +kernel
theorem dX3_requireBlock_22 : decode cX3_requireBlock 22 = .ok (.invokespecial 56, 3) := by decide +kernel
theorem dX3_requireBlock_25 : decode cX3_requireBlock 25 = .ok (.athrow, 1) := by decide +kernel
theorem dX3_requireBlock_26 : decode cX3_requireBlock 26 = .ok (.return_, 1) := by decide +kernel
set_option maxRecDepth 20000 in
theorem ggX3_requireFewEntries_X0_count : GoodIn wsX3_requireFewEntries wsX0_count := goodIn_r _ [8, 9, 16, 17, 18, 19, 20] (by decide +kernel) (by decide +kernel)
set_option maxRecDepth 20000 in
theorem gX3_requireFewEntries_X0_count : GoodIn wsX3_requireFewEntries (wsV RX3 137 RX0 yX0_count wsX0_count) := goodIn_app (goodIn_of _ (by decide +kernel)) ggX3_requireFewEntries_X0_count
theorem dX3_requireFewEntries_0 : decode cX3_requireFewEntries 0 = .ok (.aload_n 0, 1) := by decide +kernel
theorem dX3_requireFewEntries_1 : decode cX3_requireFewEntries 1 = .ok (.getfield 32, 3) := by decide +kernel
theorem dX3_requireFewEntries_4 : decode cX3_requireFewEntries 4 = .ok (.invokevirtual 137, 3) := by decide +kernel
theorem dX3_requireFewEntries_7 : decode cX3_requireFewEntries 7 = .ok (.bipush 16, 2) := by decide +kernel
theorem dX3_requireFewEntries_9 : decode cX3_requireFewEntries 9 = .ok (.if_icmp .le 13, 3) := by decide +kernel
theorem dX3_requireFewEntries_12 : decode cX3_requireFewEntries 12 = .ok (.new 75, 3) := by decide +kernel
theorem dX3_requireFewEntries_15 : decode cX3_requireFewEntries 15 = .ok (.dup, 1) := by decide +kernel
theorem dX3_requireFewEntries_16 : decode cX3_requireFewEntries 16 = .ok (.ldc 205, 2) := by decide +kernel
theorem dX3_requireFewEntries_18 : decode cX3_requireFewEntries 18 = .ok (.invokespecial 79, 3) := by decide +kernel
theorem dX3_requireFewEntries_21 : decode cX3_requireFewEntries 21 = .ok (.athrow, 1) := by decide +kernel
theorem dX3_requireFewEntries_22 : decode cX3_requireFewEntries 22 = .ok (.return_, 1) := by decide +kernel
set_option maxRecDepth 20000 in
theorem ggX3_draftOpened_X0_clear : GoodIn wsX3_draftOpened wsX0_clear := goodIn_r _ [7, 8, 63, 64, 65, 66, 67] (by decide +kernel) (by decide +kernel)
set_option maxRecDepth 20000 in
theorem gX3_draftOpened_X0_clear : GoodIn wsX3_draftOpened (wsV RX3 127 RX0 yX0_clear wsX0_clear) := goodIn_app (goodIn_of _ (by decide +kernel)) ggX3_draftOpened_X0_clear
set_option maxRecDepth 20000 in
theorem ggX3_draftOpened_X0_addRange : GoodIn wsX3_draftOpened wsX0_addRange := goodIn_r _ [12, 13, 14, 15, 6, 16, 17, 18, 19, 20, 21, 22, 23, 24, 25, 26, 27, 28, 29, 30, 31, 32, 33, 34, 35, 36, 37, 38, 39, 40, 41, 42, 8, 43, 44, 45, 46, 63, 64, 65, 66, 67, 68] (by decide +kernel) (by decide +kernel)
set_option maxRecDepth 20000 in
theorem gX3_draftOpened_X0_addRange : GoodIn wsX3_draftOpened (wsV RX3 130 RX0 yX0_addRange wsX0_addRange) := goodIn_app (goodIn_of _ (by decide +kernel)) ggX3_draftOpened_X0_addRange
set_option maxRecDepth 20000 in
theorem ggX3_draftOpened_X0_add : GoodIn wsX3_draftOpened wsX0_add := goodIn_r _ [42, 8, 17, 28, 33, 38, 18, 19, 20, 21, 22, 23, 43, 44, 45, 46, 63, 64, 65, 66, 67, 68] (by decide +kernel) (by decide +kernel)
set_option maxRecDepth 20000 in
theorem gX3_draftOpened_X0_add : GoodIn wsX3_draftOpened (wsV RX3 134 RX0 yX0_add wsX0_add) := goodIn_app (goodIn_of _ (by decide +kernel)) ggX3_draftOpened_X0_add
set_option maxRecDepth 20000 in
theorem ggX3_draftOpened_X0_lengthAt : GoodIn wsX3_draftOpened wsX0_lengthAt := goodIn_r _ [27, 28, 18, 19, 20, 21, 22, 23, 63, 64, 65, 66, 67, 68] (by decide +kernel) (by decide +kernel)
set_option maxRecDepth 20000 in
theorem gX3_draftOpened_X0_lengthAt : GoodIn wsX3_draftOpened (wsV RX3 105 RX0 yX0_lengthAt wsX0_lengthAt) := goodIn_app (goodIn_of _ (by decide +kernel)) ggX3_draftOpened_X0_lengthAt
set_option maxRecDepth 20000 in
theorem ggX3_draftOpened_X0_addEmpty : GoodIn wsX3_draftOpened wsX0_addEmpty := goodIn_r _ [52, 39, 40, 41, 6, 42, 8, 17, 28, 33, 38, 18, 19, 20, 21, 22, 23, 43, 44, 45, 46, 63, 64, 65, 66, 67, 68] (by decide +kernel) (by decide +kernel)
set_option maxRecDepth 20000 in
theorem gX3_draftOpened_X0_addEmpty : GoodIn wsX3_draftOpened (wsV RX3 43 RX0 yX0_addEmpty wsX0_addEmpty) := goodIn_app (goodIn_of _ (by decide +kernel)) ggX3_draftOpened_X0_addEmpty
set_option maxRecDepth 20000 in
theorem ggX3_draftOpened_X0_count : GoodIn wsX3_draftOpened wsX0_count := goodIn_r _ [56, 8, 63, 64, 65, 66, 67] (by decide +kernel) (by decide +kernel)
set_option maxRecDepth 20000 in
theorem gX3_draftOpened_X0_count : GoodIn wsX3_draftOpened (wsV RX3 137 RX0 yX0_count wsX0_count) := goodIn_app (goodIn_of _ (by decide +kernel)) ggX3_draftOpened_X0_count
theorem dX3_draftOpened_0 : decode cX3_draftOpened 0 = .ok (.aload_n 0, 1) := by decide +kernel
theorem dX3_draftOpened_1 : decode cX3_draftOpened 1 = .ok (.getfield 32, 3) := by decide +kernel
theorem dX3_draftOpened_4 : decode cX3_draftOpened 4 = .ok (.invokevirtual 127, 3) := by decide +kernel
theorem dX3_draftOpened_7 : decode cX3_draftOpened 7 = .ok (.aload_n 0, 1) := by decide +kernel
theorem dX3_draftOpened_8 : decode cX3_draftOpened 8 = .ok (.getfield 32, 3) := by decide +kernel
theorem dX3_draftOpened_11 : decode cX3_draftOpened 11 = .ok (.aload_n 0, 1) := by decide +kernel
theorem dX3_draftOpened_12 : decode cX3_draftOpened 12 = .ok (.getfield 28, 3) := by decide +kernel
theorem dX3_draftOpened_15 : decode cX3_draftOpened 15 = .ok (.iconst 0, 1) := by decide +kernel
theorem dX3_draftOpened_16 : decode cX3_draftOpened 16 = .ok (.iload_n 1, 1) := by decide +kernel
theorem dX3_draftOpened_17 : decode cX3_draftOpened 17 = .ok (.invokevirtual 130, 3) := by decide +kernel
theorem dX3_draftOpened_20 : decode cX3_draftOpened 20 = .ok (.aload_n 0, 1) := by decide +kernel
theorem dX3_draftOpened_21 : decode cX3_draftOpened 21 = .ok (.getfield 32, 3) := by decide +kernel
theorem dX3_draftOpened_24 : decode cX3_draftOpened 24 = .ok (.iconst 1, 1) := by decide +kernel
theorem dX3_draftOpened_25 : decode cX3_draftOpened 25 = .ok (.iload_n 2, 1) := by decide +kernel
theorem dX3_draftOpened_26 : decode cX3_draftOpened 26 = .ok (.iload_n 3, 1) := by decide +kernel
theorem dX3_draftOpened_27 : decode cX3_draftOpened 27 = .ok (.iload 4, 2) := by decide +kernel
theorem dX3_draftOpened_29 : decode cX3_draftOpened 29 = .ok (.invokevirtual 134, 3) := by decide +kernel
theorem dX3_draftOpened_32 : decode cX3_draftOpened 32 = .ok (.aload_n 0, 1) := by decide +kernel
theorem dX3_draftOpened_33 : decode cX3_draftOpened 33 = .ok (.getfield 32, 3) := by decide +kernel
theorem dX3_draftOpened_36 : decode cX3_draftOpened 36 = .ok (.aload_n 0, 1) := by decide +kernel
theorem dX3_draftOpened_37 : decode cX3_draftOpened 37 = .ok (.getfield 28, 3) := by decide +kernel
theorem dX3_draftOpened_40 : decode cX3_draftOpened 40 = .ok (.iload_n 1, 1) := by decide +kernel
theorem dX3_draftOpened_41 : decode cX3_draftOpened 41 = .ok (.invokevirtual 105, 3) := by decide +kernel
theorem dX3_draftOpened_44 : decode cX3_draftOpened 44 = .ok (.iload_n 2, 1) := by decide +kernel
theorem dX3_draftOpened_45 : decode cX3_draftOpened 45 = .ok (.isub, 1) := by decide +kernel
theorem dX3_draftOpened_46 : decode cX3_draftOpened 46 = .ok (.invokevirtual 43, 3) := by decide +kernel
theorem dX3_draftOpened_49 : decode cX3_draftOpened 49 = .ok (.aload_n 0, 1) := by decide +kernel
theorem dX3_draftOpened_50 : decode cX3_draftOpened 50 = .ok (.getfield 32, 3) := by decide +kernel
theorem dX3_draftOpened_53 : decode cX3_draftOpened 53 = .ok (.aload_n 0, 1) := by decide +kernel
theorem dX3_draftOpened_54 : decode cX3_draftOpened 54 = .ok (.getfield 28, 3) := by decide +kernel
theorem dX3_draftOpened_57 : decode cX3_draftOpened 57 = .ok (.iload_n 1, 1) := by decide +kernel
theorem dX3_draftOpened_58 : decode cX3_draftOpened 58 = .ok (.iconst 1, 1) := by decide +kernel
theorem dX3_draftOpened_59 : decode cX3_draftOpened 59 = .ok (.iadd, 1) := by decide +kernel
theorem dX3_draftOpened_60 : decode cX3_draftOpened 60 = .ok (.aload_n 0, 1) := by decide +kernel
theorem dX3_draftOpened_61 : decode cX3_draftOpened 61 = .ok (.getfield 28, 3) := by decide +kernel
theorem dX3_draftOpened_64 : decode cX3_draftOpened 64 = .ok (.invokevirtual 137, 3) := by decide +kernel
theorem dX3_draftOpened_67 : decode cX3_draftOpened 67 = .ok (.invokevirtual 130, 3) := by decide +kernel
theorem dX3_draftOpened_70 : decode cX3_draftOpened 70 = .ok (.return_, 1) := by decide +kernel
set_option maxRecDepth 20000 in
theorem ggX3_draftClosed_X0_nameAt : GoodIn wsX3_draftClosed wsX0_nameAt := goodIn_r _ [7, 8, 9, 10, 11, 12, 13, 14, 68, 69, 70, 71, 72, 73] (by decide +kernel) (by decide +kernel)
set_option maxRecDepth 20000 in
theorem gX3_draftClosed_X0_nameAt : GoodIn wsX3_draftClosed (wsV RX3 177 RX0 yX0_nameAt wsX0_nameAt) := goodIn_app (goodIn_of _ (by decide +kernel)) ggX3_draftClosed_X0_nameAt
set_option maxRecDepth 20000 in
theorem ggX3_draftClosed_X0_findPermanent : GoodIn wsX3_draftClosed wsX0_findPermanent := goodIn_r _ [18, 19, 20, 8, 9, 10, 11, 12, 13, 14, 68, 69, 70, 71, 72, 73] (by decide +kernel) (by decide +kernel)
set_option maxRecDepth 20000 in
theorem gX3_draftClosed_X0_findPermanent : GoodIn wsX3_draftClosed (wsV RX3 122 RX0 yX0_findPermanent wsX0_findPermanent) := goodIn_app (goodIn_of _ (by decide +kernel)) ggX3_draftClosed_X0_findPermanent
set_option maxRecDepth 20000 in
theorem ggX3_draftClosed_X0_clear : GoodIn wsX3_draftClosed wsX0_clear := goodIn_r _ [24, 19, 68, 69, 70, 71, 72] (by decide +kernel) (by decide +kernel)
set_option maxRecDepth 20000 in
theorem gX3_draftClosed_X0_clear : GoodIn wsX3_draftClosed (wsV RX3 127 RX0 yX0_clear wsX0_clear) := goodIn_app (goodIn_of _ (by decide +kernel)) ggX3_draftClosed_X0_clear
set_option maxRecDepth 20000 in
theorem ggX3_draftClosed_X0_count : GoodIn wsX3_draftClosed wsX0_count := goodIn_r _ [28, 19, 68, 69, 70, 71, 72] (by decide +kernel) (by decide +kernel)
set_option maxRecDepth 20000 in
theorem gX3_draftClosed_X0_count : GoodIn wsX3_draftClosed (wsV RX3 137 RX0 yX0_count wsX0_count) := goodIn_app (goodIn_of _ (by decide +kernel)) ggX3_draftClosed_X0_count
set_option maxRecDepth 20000 in
theorem ggX3_draftClosed_X0_add : GoodIn wsX3_draftClosed wsX0_add := goodIn_r _ [32, 19, 20, 33, 8, 34, 9, 10, 11, 12, 13, 14, 35, 36, 37, 38, 68, 69, 70, 71, 72, 73] (by decide +kernel) (by decide +kernel)
set_option maxRecDepth 20000 in
theorem gX3_draftClosed_X0_add : GoodIn wsX3_draftClosed (wsV RX3 134 RX0 yX0_add wsX0_add) := goodIn_app (goodIn_of _ (by decide +kernel)) ggX3_draftClosed_X0_add
set_option maxRecDepth 20000 in
theorem ggX3_draftClosed_X0_lengthAt : GoodIn wsX3_draftClosed wsX0_lengthAt := goodIn_r _ [42, 33, 9, 10, 11, 12, 13, 14, 68, 69, 70, 71, 72, 73] (by decide +kernel) (by decide +kernel)
set_option maxRecDepth 20000 in
theorem gX3_draftClosed_X0_lengthAt : GoodIn wsX3_draftClosed (wsV RX3 105 RX0 yX0_lengthAt wsX0_lengthAt) := goodIn_app (goodIn_of _ (by decide +kernel)) ggX3_draftClosed_X0_lengthAt
set_option maxRecDepth 20000 in
theorem ggX3_draftClosed_X0_addEmpty : GoodIn wsX3_draftClosed wsX0_addEmpty := goodIn_r _ [46, 47, 30, 31, 6, 32, 19, 20, 33, 8, 34, 9, 10, 11, 12, 13, 14, 35, 36, 37, 38, 68, 69, 70, 71, 72, 73] (by decide +kernel) (by decide +kernel)
set_option maxRecDepth 20000 in
theorem gX3_draftClosed_X0_addEmpty : GoodIn wsX3_draftClosed (wsV RX3 43 RX0 yX0_addEmpty wsX0_addEmpty) := goodIn_app (goodIn_of _ (by decide +kernel)) ggX3_draftClosed_X0_addEmpty
set_option maxRecDepth 20000 in
theorem ggX3_draftClosed_X0_addRange : GoodIn wsX3_draftClosed wsX0_addRange := goodIn_r _ [51, 52, 53, 54, 6, 55, 20, 9, 10, 11, 12, 13, 14, 56, 40, 41, 42, 33, 57, 4, 5, 7, 8, 58, 59, 60, 61, 34, 47, 30, 31, 32, 19, 35, 36, 37, 38, 68, 69, 70, 71, 72, 73] (by decide +kernel) (by decide +kernel)
set_option maxRecDepth 20000 in
theorem gX3_draftClosed_X0_addRange : GoodIn wsX3_draftClosed (wsV RX3 130 RX0 yX0_addRange wsX0_addRange) := goodIn_app (goodIn_of _ (by decide +kernel)) ggX3_draftClosed_X0_addRange
theorem dX3_draftClosed_0 : decode cX3_draftClosed 0 = .ok (.aload_n 0, 1) := by decide +kernel
theorem dX3_draftClosed_1 : decode cX3_draftClosed 1 = .ok (.getfield 28, 3) := by decide +kernel
theorem dX3_draftClosed_4 : decode cX3_draftClosed 4 = .ok (.iload_n 1, 1) := by decide +kernel
theorem dX3_draftClosed_5 : decode cX3_draftClosed 5 = .ok (.invokevirtual 177, 3) := by decide +kernel
theorem dX3_draftClosed_8 : decode cX3_draftClosed 8 = .ok (.istore_n 3, 1) := by decide +kernel
theorem dX3_draftClosed_9 : decode cX3_draftClosed 9 = .ok (.aload_n 0, 1) := by decide +kernel
theorem dX3_draftClosed_10 : decode cX3_draftClosed 10 = .ok (.getfield 28, 3) := by decide +kernel
theorem dX3_draftClosed_13 : decode cX3_draftClosed 13 = .ok (.iload_n 3, 1) := by decide +kernel
theorem dX3_draftClosed_14 : decode cX3_draftClosed 14 = .ok (.invokevirtual 122, 3) := by decide +kernel
theorem dX3_draftClosed_17 : decode cX3_draftClosed 17 = .ok (.istore 4, 2) := by decide +kernel
theorem dX3_draftClosed_19 : decode cX3_draftClosed 19 = .ok (.aload_n 0, 1) := by decide +kernel
theorem dX3_draftClosed_20 : decode cX3_draftClosed 20 = .ok (.getfield 32, 3) := by decide +kernel
theorem dX3_draftClosed_23 : decode cX3_draftClosed 23 = .ok (.invokevirtual 127, 3) := by decide +kernel
theorem dX3_draftClosed_26 : decode cX3_draftClosed 26 = .ok (.iconst 0, 1) := by decide +kernel
theorem dX3_draftClosed_27 : decode cX3_draftClosed 27 = .ok (.istore 5, 2) := by decide +kernel
theorem dX3_draftClosed_29 : decode cX3_draftClosed 29 = .ok (.iload 5, 2) := by decide +kernel
theorem dX3_draftClosed_31 : decode cX3_draftClosed 31 = .ok (.aload_n 0, 1) := by decide +kernel
theorem dX3_draftClosed_32 : decode cX3_draftClosed 32 = .ok (.getfield 28, 3) := by decide +kernel
theorem dX3_draftClosed_35 : decode cX3_draftClosed 35 = .ok (.invokevirtual 137, 3) := by decide +kernel
theorem dX3_draftClosed_38 : decode cX3_draftClosed 38 = .ok (.if_icmp .ge 90, 3) := by decide +kernel
theorem dX3_draftClosed_41 : decode cX3_draftClosed 41 = .ok (.iload 5, 2) := by decide +kernel
theorem dX3_draftClosed_43 : decode cX3_draftClosed 43 = .ok (.iload_n 1, 1) := by decide +kernel
theorem dX3_draftClosed_44 : decode cX3_draftClosed 44 = .ok (.if_icmp .ne 35, 3) := by decide +kernel
theorem dX3_draftClosed_47 : decode cX3_draftClosed 47 = .ok (.aload_n 0, 1) := by decide +kernel
theorem dX3_draftClosed_48 : decode cX3_draftClosed 48 = .ok (.getfield 32, 3) := by decide +kernel
theorem dX3_draftClosed_51 : decode cX3_draftClosed 51 = .ok (.iconst 2, 1) := by decide +kernel
theorem dX3_draftClosed_52 : decode cX3_draftClosed 52 = .ok (.iload_n 2, 1) := by decide +kernel
theorem dX3_draftClosed_53 : decode cX3_draftClosed 53 = .ok (.iload_n 3, 1) := by decide +kernel
theorem dX3_draftClosed_54 : decode cX3_draftClosed 54 = .ok (.iconst (-1), 1) := by decide +kernel
theorem dX3_draftClosed_55 : decode cX3_draftClosed 55 = .ok (.invokevirtual 134, 3) := by decide +kernel
theorem dX3_draftClosed_58 : decode cX3_draftClosed 58 = .ok (.aload_n 0, 1) := by decide +kernel
theorem dX3_draftClosed_59 : decode cX3_draftClosed 59 = .ok (.getfield 32, 3) := by decide +kernel
theorem dX3_draftClosed_62 : decode cX3_draftClosed 62 = .ok (.aload_n 0, 1) := by decide +kernel
theorem dX3_draftClosed_63 : decode cX3_draftClosed 63 = .ok (.getfield 28, 3) := by decide +kernel
theorem dX3_draftClosed_66 : decode cX3_draftClosed 66 = .ok (.iload 5, 2) := by decide +kernel
theorem dX3_draftClosed_68 : decode cX3_draftClosed 68 = .ok (.invokevirtual 105, 3) := by decide +kernel
theorem dX3_draftClosed_71 : decode cX3_draftClosed 71 = .ok (.iload_n 2, 1) := by decide +kernel
theorem dX3_draftClosed_72 : decode cX3_draftClosed 72 = .ok (.isub, 1) := by decide +kernel
theorem dX3_draftClosed_73 : decode cX3_draftClosed 73 = .ok (.invokevirtual 43, 3) := by decide +kernel
theorem dX3_draftClosed_76 : decode cX3_draftClosed 76 = .ok (.goto 46, 3) := by decide +kernel
theorem dX3_draftClosed_79 : decode cX3_draftClosed 79 = .ok (.iload 5, 2) := by decide +kernel
theorem dX3_draftClosed_81 : decode cX3_draftClosed 81 = .ok (.iload 4, 2) := by decide +kernel
theorem dX3_draftClosed_83 : decode cX3_draftClosed 83 = .ok (.if_icmp .ne 22, 3) := by decide +kernel
theorem dX3_draftClosed_86 : decode cX3_draftClosed 86 = .ok (.aload_n 0, 1) := by decide +kernel
theorem dX3_draftClosed_87 : decode cX3_draftClosed 87 = .ok (.getfield 32, 3) := by decide +kernel
theorem dX3_draftClosed_90 : decode cX3_draftClosed 90 = .ok (.aload_n 0, 1) := by decide +kernel
theorem dX3_draftClosed_91 : decode cX3_draftClosed 91 = .ok (.getfield 28, 3) := by decide +kernel
theorem dX3_draftClosed_94 : decode cX3_draftClosed 94 = .ok (.iload 5, 2) := by decide +kernel
theorem dX3_draftClosed_96 : decode cX3_draftClosed 96 = .ok (.invokevirtual 105, 3) := by decide +kernel
theorem dX3_draftClosed_99 : decode cX3_draftClosed 99 = .ok (.invokevirtual 43, 3) := by decide +kernel
theorem dX3_draftClosed_102 : decode cX3_draftClosed 102 = .ok (.goto 20, 3) := by decide +kernel
theorem dX3_draftClosed_105 : decode cX3_draftClosed 105 = .ok (.aload_n 0, 1) := by decide +kernel
theorem dX3_draftClosed_106 : decode cX3_draftClosed 106 = .ok (.getfield 32, 3) := by decide +kernel
theorem dX3_draftClosed_109 : decode cX3_draftClosed 109 = .ok (.aload_n 0, 1) := by decide +kernel
theorem dX3_draftClosed_110 : decode cX3_draftClosed 110 = .ok (.getfield 28, 3) := by decide +kernel
theorem dX3_draftClosed_113 : decode cX3_draftClosed 113 = .ok (.iload 5, 2) := by decide +kernel
theorem dX3_draftClosed_115 : decode cX3_draftClosed 115 = .ok (.iload 5, 2) := by decide +kernel
theorem dX3_draftClosed_117 : decode cX3_draftClosed 117 = .ok (.iconst 1, 1) := by decide +kernel
theorem dX3_draftClosed_118 : decode cX3_draftClosed 118 = .ok (.iadd, 1) := by decide +kernel
theorem dX3_draftClosed_119 : decode cX3_draftClosed 119 = .ok (.invokevirtual 130, 3) := by decide +kernel
theorem dX3_draftClosed_122 : decode cX3_draftClosed 122 = .ok (.iinc 5 1, 3) := by decide +kernel
theorem dX3_draftClosed_125 : decode cX3_draftClosed 125 = .ok (.goto (-96), 3) := by decide +kernel
theorem dX3_draftClosed_128 : decode cX3_draftClosed 128 = .ok (.return_, 1) := by decide +kernel
set_option maxRecDepth 20000 in
theorem ggX3_draftWithoutTentative_X0_clear : GoodIn wsX3_draftWithoutTentative wsX0_clear := goodIn_r _ [7, 8, 63, 64, 65, 66, 67] (by decide +kernel) (by decide +kernel)
set_option maxRecDepth 20000 in
theorem gX3_draftWithoutTentative_X0_clear : GoodIn wsX3_draftWithoutTentative (wsV RX3 127 RX0 yX0_clear wsX0_clear) := goodIn_app (goodIn_of _ (by decide +kernel)) ggX3_draftWithoutTentative_X0_clear
set_option maxRecDepth 20000 in
theorem ggX3_draftWithoutTentative_X0_count : GoodIn wsX3_draftWithoutTentative wsX0_count := goodIn_r _ [12, 8, 63, 64, 65, 66, 67] (by decide +kernel) (by decide +kernel)
set_option maxRecDepth 20000 in
theorem gX3_draftWithoutTentative_X0_count : GoodIn wsX3_draftWithoutTentative (wsV RX3 137 RX0 yX0_count wsX0_count) := goodIn_app (goodIn_of _ (by decide +kernel)) ggX3_draftWithoutTentative_X0_count
set_option maxRecDepth 20000 in
theorem ggX3_draftWithoutTentative_X0_kindAt : GoodIn wsX3_draftWithoutTentative wsX0_kindAt := goodIn_r _ [16, 17, 18, 19, 20, 21, 22, 23, 63, 64, 65, 66, 67, 68] (by decide +kernel) (by decide +kernel)
set_option maxRecDepth 20000 in
theorem gX3_draftWithoutTentative_X0_kindAt : GoodIn wsX3_draftWithoutTentative (wsV RX3 174 RX0 yX0_kindAt wsX0_kindAt) := goodIn_app (goodIn_of _ (by decide +kernel)) ggX3_draftWithoutTentative_X0_kindAt
set_option maxRecDepth 20000 in
theorem ggX3_draftWithoutTentative_X0_lengthAt : GoodIn wsX3_draftWithoutTentative wsX0_lengthAt := goodIn_r _ [27, 28, 18, 19, 20, 21, 22, 23, 63, 64, 65, 66, 67, 68] (by decide +kernel) (by decide +kernel)
set_option maxRecDepth 20000 in
theorem gX3_draftWithoutTentative_X0_lengthAt : GoodIn wsX3_draftWithoutTentative (wsV RX3 105 RX0 yX0_lengthAt wsX0_lengthAt) := goodIn_app (goodIn_of _ (by decide +kernel)) ggX3_draftWithoutTentative_X0_lengthAt
set_option maxRecDepth 20000 in
theorem ggX3_draftWithoutTentative_X0_addEmpty : GoodIn wsX3_draftWithoutTentative wsX0_addEmpty := goodIn_r _ [32, 33, 34, 35, 6, 36, 8, 17, 28, 37, 38, 18, 19, 20, 21, 22, 23, 39, 40, 41, 42, 63, 64, 65, 66, 67, 68] (by decide +kernel) (by decide +kernel)
set_option maxRecDepth 20000 in
theorem gX3_draftWithoutTentative_X0_addEmpty : GoodIn wsX3_draftWithoutTentative (wsV RX3 43 RX0 yX0_addEmpty wsX0_addEmpty) := goodIn_app (goodIn_of _ (by decide +kernel)) ggX3_draftWithoutTentative_X0_addEmpty
set_option maxRecDepth 20000 in
theorem ggX3_draftWithoutTentative_X0_addRange : GoodIn wsX3_draftWithoutTentative wsX0_addRange := goodIn_r _ [46, 47, 14, 15, 6, 16, 17, 18, 19, 20, 21, 22, 23, 48, 25, 26, 27, 28, 49, 50, 51, 52, 37, 53, 54, 55, 56, 38, 33, 34, 35, 36, 8, 39, 40, 41, 42, 63, 64, 65, 66, 67, 68] (by decide +kernel) (by decide +kernel)
set_option maxRecDepth 20000 in
theorem gX3_draftWithoutTentative_X0_addRange : GoodIn wsX3_draftWithoutTentative (wsV RX3 130 RX0 yX0_addRange wsX0_addRange) := goodIn_app (goodIn_of _ (by decide +kernel)) ggX3_draftWithoutTentative_X0_addRange
theorem dX3_draftWithoutTentative_0 : decode cX3_draftWithoutTentative 0 = .ok (.aload_n 0, 1) := by decide +kernel
theorem dX3_draftWithoutTentative_1 : decode cX3_draftWithoutTentative 1 = .ok (.getfield 32, 3) := by decide +kernel
theorem dX3_draftWithoutTentative_4 : decode cX3_draftWithoutTentative 4 = .ok (.invokevirtual 127, 3) := by decide +kernel
theorem dX3_draftWithoutTentative_7 : decode cX3_draftWithoutTentative 7 = .ok (.iconst 0, 1) := by decide +kernel
theorem dX3_draftWithoutTentative_8 : decode cX3_draftWithoutTentative 8 = .ok (.istore_n 1, 1) := by decide +kernel
theorem dX3_draftWithoutTentative_9 : decode cX3_draftWithoutTentative 9 = .ok (.iload_n 1, 1) := by decide +kernel
theorem dX3_draftWithoutTentative_10 : decode cX3_draftWithoutTentative 10 = .ok (.aload_n 0, 1) := by decide +kernel
theorem dX3_draftWithoutTentative_11 : decode cX3_draftWithoutTentative 11 = .ok (.getfield 28, 3) := by decide +kernel
theorem dX3_draftWithoutTentative_14 : decode cX3_draftWithoutTentative 14 = .ok (.invokevirtual 137, 3) := by decide +kernel
theorem dX3_draftWithoutTentative_17 : decode cX3_draftWithoutTentative 17 = .ok (.if_icmp .ge 54, 3) := by decide +kernel
theorem dX3_draftWithoutTentative_20 : decode cX3_draftWithoutTentative 20 = .ok (.aload_n 0, 1) := by decide +kernel
theorem dX3_draftWithoutTentative_21 : decode cX3_draftWithoutTentative 21 = .ok (.getfield 28, 3) := by decide +kernel
theorem dX3_draftWithoutTentative_24 : decode cX3_draftWithoutTentative 24 = .ok (.iload_n 1, 1) := by decide +kernel
theorem dX3_draftWithoutTentative_25 : decode cX3_draftWithoutTentative 25 = .ok (.invokevirtual 174, 3) := by decide +kernel
theorem dX3_draftWithoutTentative_28 : decode cX3_draftWithoutTentative 28 = .ok (.iconst 1, 1) := by decide +kernel
theorem dX3_draftWithoutTentative_29 : decode cX3_draftWithoutTentative 29 = .ok (.if_icmp .ne 21, 3) := by decide +kernel
theorem dX3_draftWithoutTentative_32 : decode cX3_draftWithoutTentative 32 = .ok (.aload_n 0, 1) := by decide +kernel
theorem dX3_draftWithoutTentative_33 : decode cX3_draftWithoutTentative 33 = .ok (.getfield 32, 3) := by decide +kernel
theorem dX3_draftWithoutTentative_36 : decode cX3_draftWithoutTentative 36 = .ok (.aload_n 0, 1) := by decide +kernel
theorem dX3_draftWithoutTentative_37 : decode cX3_draftWithoutTentative 37 = .ok (.getfield 28, 3) := by decide +kernel
theorem dX3_draftWithoutTentative_40 : decode cX3_draftWithoutTentative 40 = .ok (.iload_n 1, 1) := by decide +kernel
theorem dX3_draftWithoutTentative_41 : decode cX3_draftWithoutTentative 41 = .ok (.invokevirtual 105, 3) := by decide +kernel
theorem dX3_draftWithoutTentative_44 : decode cX3_draftWithoutTentative 44 = .ok (.invokevirtual 43, 3) := by decide +kernel
theorem dX3_draftWithoutTentative_47 : decode cX3_draftWithoutTentative 47 = .ok (.goto 18, 3) := by decide +kernel
theorem dX3_draftWithoutTentative_50 : decode cX3_draftWithoutTentative 50 = .ok (.aload_n 0, 1) := by decide +kernel
theorem dX3_draftWithoutTentative_51 : decode cX3_draftWithoutTentative 51 = .ok (.getfield 32, 3) := by decide +kernel
theorem dX3_draftWithoutTentative_54 : decode cX3_draftWithoutTentative 54 = .ok (.aload_n 0, 1) := by decide +kernel
theorem dX3_draftWithoutTentative_55 : decode cX3_draftWithoutTentative 55 = .ok (.getfield 28, 3) := by decide +kernel
theorem dX3_draftWithoutTentative_58 : decode cX3_draftWithoutTentative 58 = .ok (.iload_n 1, 1) := by decide +kernel
theorem dX3_draftWithoutTentative_59 : decode cX3_draftWithoutTentative 59 = .ok (.iload_n 1, 1) := by decide +kernel
theorem dX3_draftWithoutTentative_60 : decode cX3_draftWithoutTentative 60 = .ok (.iconst 1, 1) := by decide +kernel
theorem dX3_draftWithoutTentative_61 : decode cX3_draftWithoutTentative 61 = .ok (.iadd, 1) := by decide +kernel
theorem dX3_draftWithoutTentative_62 : decode cX3_draftWithoutTentative 62 = .ok (.invokevirtual 130, 3) := by decide +kernel
theorem dX3_draftWithoutTentative_65 : decode cX3_draftWithoutTentative 65 = .ok (.iinc 1 1, 3) := by decide +kernel
theorem dX3_draftWithoutTentative_68 : decode cX3_draftWithoutTentative 68 = .ok (.goto (-59), 3) := by decide +kernel
theorem dX3_draftWithoutTentative_71 : decode cX3_draftWithoutTentative 71 = .ok (.return_, 1) := by decide +kernel
set_option maxRecDepth 20000 in
theorem ggX3_draftMovedBefore_X0_clear : GoodIn wsX3_draftMovedBefore wsX0_clear := goodIn_r _ [7, 8, 62, 63, 64, 65, 66] (by decide +kernel) (by decide +kernel)
set_option maxRecDepth 20000 in
theorem gX3_draftMovedBefore_X0_clear : GoodIn wsX3_draftMovedBefore (wsV RX3 127 RX0 yX0_clear wsX0_clear) := goodIn_app (goodIn_of _ (by decide +kernel)) ggX3_draftMovedBefore_X0_clear
set_option maxRecDepth 20000 in
theorem ggX3_draftMovedBefore_X0_addRange : GoodIn wsX3_draftMovedBefore wsX0_addRange := goodIn_r _ [12, 13, 14, 15, 6, 16, 17, 18, 19, 20, 21, 22, 23, 24, 25, 26, 27, 28, 29, 30, 31, 32, 33, 34, 35, 36, 37, 38, 39, 40, 41, 42, 8, 43, 44, 45, 46, 62, 63, 64, 65, 66, 67] (by decide +kernel) (by decide +kernel)
set_option maxRecDepth 20000 in
theorem gX3_draftMovedBefore_X0_addRange : GoodIn wsX3_draftMovedBefore (wsV RX3 130 RX0 yX0_addRange wsX0_addRange) := goodIn_app (goodIn_of _ (by decide +kernel)) ggX3_draftMovedBefore_X0_addRange
set_option maxRecDepth 20000 in
theorem ggX3_draftMovedBefore_X0_lengthAt : GoodIn wsX3_draftMovedBefore wsX0_lengthAt := goodIn_r _ [27, 28, 18, 19, 20, 21, 22, 23, 62, 63, 64, 65, 66, 67] (by decide +kernel) (by decide +kernel)
set_option maxRecDepth 20000 in
theorem gX3_draftMovedBefore_X0_lengthAt : GoodIn wsX3_draftMovedBefore (wsV RX3 105 RX0 yX0_lengthAt wsX0_lengthAt) := goodIn_app (goodIn_of _ (by decide +kernel)) ggX3_draftMovedBefore_X0_lengthAt
set_option maxRecDepth 20000 in
theorem ggX3_draftMovedBefore_X0_addEmpty : GoodIn wsX3_draftMovedBefore wsX0_addEmpty := goodIn_r _ [51, 39, 40, 41, 6, 42, 8, 17, 28, 33, 38, 18, 19, 20, 21, 22, 23, 43, 44, 45, 46, 62, 63, 64, 65, 66, 67] (by decide +kernel) (by decide +kernel)
set_option maxRecDepth 20000 in
theorem gX3_draftMovedBefore_X0_addEmpty : GoodIn wsX3_draftMovedBefore (wsV RX3 43 RX0 yX0_addEmpty wsX0_addEmpty) := goodIn_app (goodIn_of _ (by decide +kernel)) ggX3_draftMovedBefore_X0_addEmpty
set_option maxRecDepth 20000 in
theorem ggX3_draftMovedBefore_X0_count : GoodIn wsX3_draftMovedBefore wsX0_count := goodIn_r _ [55, 8, 62, 63, 64, 65, 66] (by decide +kernel) (by decide +kernel)
set_option maxRecDepth 20000 in
theorem gX3_draftMovedBefore_X0_count : GoodIn wsX3_draftMovedBefore (wsV RX3 137 RX0 yX0_count wsX0_count) := goodIn_app (goodIn_of _ (by decide +kernel)) ggX3_draftMovedBefore_X0_count
theorem dX3_draftMovedBefore_0 : decode cX3_draftMovedBefore 0 = .ok (.aload_n 0, 1) := by decide +kernel
theorem dX3_draftMovedBefore_1 : decode cX3_draftMovedBefore 1 = .ok (.getfield 32, 3) := by decide +kernel
theorem dX3_draftMovedBefore_4 : decode cX3_draftMovedBefore 4 = .ok (.invokevirtual 127, 3) := by decide +kernel
theorem dX3_draftMovedBefore_7 : decode cX3_draftMovedBefore 7 = .ok (.aload_n 0, 1) := by decide +kernel
theorem dX3_draftMovedBefore_8 : decode cX3_draftMovedBefore 8 = .ok (.getfield 32, 3) := by decide +kernel
theorem dX3_draftMovedBefore_11 : decode cX3_draftMovedBefore 11 = .ok (.aload_n 0, 1) := by decide +kernel
theorem dX3_draftMovedBefore_12 : decode cX3_draftMovedBefore 12 = .ok (.getfield 28, 3) := by decide +kernel
theorem dX3_draftMovedBefore_15 : decode cX3_draftMovedBefore 15 = .ok (.iconst 0, 1) := by decide +kernel
theorem dX3_draftMovedBefore_16 : decode cX3_draftMovedBefore 16 = .ok (.iload_n 1, 1) := by decide +kernel
theorem dX3_draftMovedBefore_17 : decode cX3_draftMovedBefore 17 = .ok (.invokevirtual 130, 3) := by decide +kernel
theorem dX3_draftMovedBefore_20 : decode cX3_draftMovedBefore 20 = .ok (.aload_n 0, 1) := by decide +kernel
theorem dX3_draftMovedBefore_21 : decode cX3_draftMovedBefore 21 = .ok (.getfield 32, 3) := by decide +kernel
theorem dX3_draftMovedBefore_24 : decode cX3_draftMovedBefore 24 = .ok (.aload_n 0, 1) := by decide +kernel
theorem dX3_draftMovedBefore_25 : decode cX3_draftMovedBefore 25 = .ok (.getfield 28, 3) := by decide +kernel
theorem dX3_draftMovedBefore_28 : decode cX3_draftMovedBefore 28 = .ok (.iload_n 1, 1) := by decide +kernel
theorem dX3_draftMovedBefore_29 : decode cX3_draftMovedBefore 29 = .ok (.iconst 1, 1) := by decide +kernel
theorem dX3_draftMovedBefore_30 : decode cX3_draftMovedBefore 30 = .ok (.iadd, 1) := by decide +kernel
theorem dX3_draftMovedBefore_31 : decode cX3_draftMovedBefore 31 = .ok (.iload_n 1, 1) := by decide +kernel
theorem dX3_draftMovedBefore_32 : decode cX3_draftMovedBefore 32 = .ok (.iconst 2, 1) := by decide +kernel
theorem dX3_draftMovedBefore_33 : decode cX3_draftMovedBefore 33 = .ok (.iadd, 1) := by decide +kernel
theorem dX3_draftMovedBefore_34 : decode cX3_draftMovedBefore 34 = .ok (.invokevirtual 130, 3) := by decide +kernel
theorem dX3_draftMovedBefore_37 : decode cX3_draftMovedBefore 37 = .ok (.aload_n 0, 1) := by decide +kernel
theorem dX3_draftMovedBefore_38 : decode cX3_draftMovedBefore 38 = .ok (.getfield 32, 3) := by decide +kernel
theorem dX3_draftMovedBefore_41 : decode cX3_draftMovedBefore 41 = .ok (.aload_n 0, 1) := by decide +kernel
theorem dX3_draftMovedBefore_42 : decode cX3_draftMovedBefore 42 = .ok (.getfield 28, 3) := by decide +kernel
theorem dX3_draftMovedBefore_45 : decode cX3_draftMovedBefore 45 = .ok (.iload_n 1, 1) := by decide +kernel
theorem dX3_draftMovedBefore_46 : decode cX3_draftMovedBefore 46 = .ok (.invokevirtual 105, 3) := by decide +kernel
theorem dX3_draftMovedBefore_49 : decode cX3_draftMovedBefore 49 = .ok (.invokevirtual 43, 3) := by decide +kernel
theorem dX3_draftMovedBefore_52 : decode cX3_draftMovedBefore 52 = .ok (.aload_n 0, 1) := by decide +kernel
theorem dX3_draftMovedBefore_53 : decode cX3_draftMovedBefore 53 = .ok (.getfield 32, 3) := by decide +kernel
theorem dX3_draftMovedBefore_56 : decode cX3_draftMovedBefore 56 = .ok (.aload_n 0, 1) := by decide +kernel
theorem dX3_draftMovedBefore_57 : decode cX3_draftMovedBefore 57 = .ok (.getfield 28, 3) := by decide +kernel
theorem dX3_draftMovedBefore_60 : decode cX3_draftMovedBefore 60 = .ok (.iload_n 1, 1) := by decide +kernel
theorem dX3_draftMovedBefore_61 : decode cX3_draftMovedBefore 61 = .ok (.iconst 2, 1) := by decide +kernel
theorem dX3_draftMovedBefore_62 : decode cX3_draftMovedBefore 62 = .ok (.iadd, 1) := by decide +kernel
theorem dX3_draftMovedBefore_63 : decode cX3_draftMovedBefore 63 = .ok (.aload_n 0, 1) := by decide +kernel
theorem dX3_draftMovedBefore_64 : decode cX3_draftMovedBefore 64 = .ok (.getfield 28, 3) := by decide +kernel
theorem dX3_draftMovedBefore_67 : decode cX3_draftMovedBefore 67 = .ok (.invokevirtual 137, 3) := by decide +kernel
theorem dX3_draftMovedBefore_70 : decode cX3_draftMovedBefore 70 = .ok (.invokevirtual 130, 3) := by decide +kernel
theorem dX3_draftMovedBefore_73 : decode cX3_draftMovedBefore 73 = .ok (.return_, 1) := by decide +kernel
set_option maxRecDepth 20000 in
theorem ggX3_makeEmpty_X0_lengthAt : GoodIn wsX3_makeEmpty wsX0_lengthAt := goodIn_r _ [7, 8, 9, 10, 11, 12, 13, 14, 85, 86, 87, 88, 89, 90] (by decide +kernel) (by decide +kernel)
set_option maxRecDepth 20000 in
theorem gX3_makeEmpty_X0_lengthAt : GoodIn wsX3_makeEmpty (wsV RX3 105 RX0 yX0_lengthAt wsX0_lengthAt) := goodIn_app (goodIn_of _ (by decide +kernel)) ggX3_makeEmpty_X0_lengthAt
set_option maxRecDepth 20000 in
theorem ggX3_makeEmpty_X0_clear : GoodIn wsX3_makeEmpty wsX0_clear := goodIn_r _ [18, 19, 85, 86, 87, 88, 89] (by decide +kernel) (by decide +kernel)
set_option maxRecDepth 20000 in
theorem gX3_makeEmpty_X0_clear : GoodIn wsX3_makeEmpty (wsV RX3 127 RX0 yX0_clear wsX0_clear) := goodIn_app (goodIn_of _ (by decide +kernel)) ggX3_makeEmpty_X0_clear
set_option maxRecDepth 20000 in
theorem ggX3_makeEmpty_X0_addRange : GoodIn wsX3_makeEmpty wsX0_addRange := goodIn_r _ [23, 24, 25, 26, 6, 27, 28, 9, 10, 11, 12, 13, 14, 29, 4, 5, 7, 8, 30, 31, 32, 33, 34, 35, 36, 37, 38, 39, 40, 41, 42, 43, 19, 44, 45, 46, 47, 85, 86, 87, 88, 89, 90] (by decide +kernel) (by decide +kernel)
set_option maxRecDepth 20000 in
theorem gX3_makeEmpty_X0_addRange : GoodIn wsX3_makeEmpty (wsV RX3 130 RX0 yX0_addRange wsX0_addRange) := goodIn_app (goodIn_of _ (by decide +kernel)) ggX3_makeEmpty_X0_addRange
set_option maxRecDepth 20000 in
theorem ggX3_makeEmpty_X0_addEmpty : GoodIn wsX3_makeEmpty wsX0_addEmpty := goodIn_r _ [51, 40, 41, 42, 6, 43, 19, 28, 8, 34, 39, 9, 10, 11, 12, 13, 14, 44, 45, 46, 47, 85, 86, 87, 88, 89, 90] (by decide +kernel) (by decide +kernel)
set_option maxRecDepth 20000 in
theorem gX3_makeEmpty_X0_addEmpty : GoodIn wsX3_makeEmpty (wsV RX3 43 RX0 yX0_addEmpty wsX0_addEmpty) := goodIn_app (goodIn_of _ (by decide +kernel)) ggX3_makeEmpty_X0_addEmpty
set_option maxRecDepth 20000 in
theorem ggX3_makeEmpty_X0_count : GoodIn wsX3_makeEmpty wsX0_count := goodIn_r _ [55, 19, 85, 86, 87, 88, 89] (by decide +kernel) (by decide +kernel)
set_option maxRecDepth 20000 in
theorem gX3_makeEmpty_X0_count : GoodIn wsX3_makeEmpty (wsV RX3 137 RX0 yX0_count wsX0_count) := goodIn_app (goodIn_of _ (by decide +kernel)) ggX3_makeEmpty_X0_count
set_option maxRecDepth 20000 in
theorem ggX3_makeEmpty_X3_change : GoodIn wsX3_makeEmpty wsX3_change := goodIn_r _ [60, 2, 61, 1, 52, 53, 54, 6, 55, 19, 62, 63, 64, 65, 66, 67, 68, 69, 70, 71, 72, 73, 28, 8, 34, 39, 74, 75, 76, 12, 77, 14, 78, 10, 11, 13, 79, 80, 81, 82, 83, 84, 85, 86, 87, 88, 89, 91, 92, 93, 90] (by decide +kernel) (by decide +kernel)
set_option maxRecDepth 20000 in
theorem gX3_makeEmpty_X3_change : GoodIn wsX3_makeEmpty (wsV RX3 87 RX3 yX3_change wsX3_change) := goodIn_app (goodIn_of _ (by decide +kernel)) ggX3_makeEmpty_X3_change
theorem dX3_makeEmpty_0 : decode cX3_makeEmpty 0 = .ok (.aload_n 0, 1) := by decide +kernel
theorem dX3_makeEmpty_1 : decode cX3_makeEmpty 1 = .ok (.getfield 28, 3) := by decide +kernel
theorem dX3_makeEmpty_4 : decode cX3_makeEmpty 4 = .ok (.iload_n 1, 1) := by decide +kernel
theorem dX3_makeEmpty_5 : decode cX3_makeEmpty 5 = .ok (.invokevirtual 105, 3) := by decide +kernel
theorem dX3_makeEmpty_8 : decode cX3_makeEmpty 8 = .ok (.istore_n 2, 1) := by decide +kernel
theorem dX3_makeEmpty_9 : decode cX3_makeEmpty 9 = .ok (.aload_n 0, 1) := by decide +kernel
theorem dX3_makeEmpty_10 : decode cX3_makeEmpty 10 = .ok (.getfield 32, 3) := by decide +kernel
theorem dX3_makeEmpty_13 : decode cX3_makeEmpty 13 = .ok (.invokevirtual 127, 3) := by decide +kernel
theorem dX3_makeEmpty_16 : decode cX3_makeEmpty 16 = .ok (.aload_n 0, 1) := by decide +kernel
theorem dX3_makeEmpty_17 : decode cX3_makeEmpty 17 = .ok (.getfield 32, 3) := by decide +kernel
theorem dX3_makeEmpty_20 : decode cX3_makeEmpty 20 = .ok (.aload_n 0, 1) := by decide +kernel
theorem dX3_makeEmpty_21 : decode cX3_makeEmpty 21 = .ok (.getfield 28, 3) := by decide +kernel
theorem dX3_makeEmpty_24 : decode cX3_makeEmpty 24 = .ok (.iconst 0, 1) := by decide +kernel
theorem dX3_makeEmpty_25 : decode cX3_makeEmpty 25 = .ok (.iload_n 1, 1) := by decide +kernel
theorem dX3_makeEmpty_26 : decode cX3_makeEmpty 26 = .ok (.invokevirtual 130, 3) := by decide +kernel
theorem dX3_makeEmpty_29 : decode cX3_makeEmpty 29 = .ok (.aload_n 0, 1) := by decide +kernel
theorem dX3_makeEmpty_30 : decode cX3_makeEmpty 30 = .ok (.getfield 32, 3) := by decide +kernel
theorem dX3_makeEmpty_33 : decode cX3_makeEmpty 33 = .ok (.iload_n 2, 1) := by decide +kernel
theorem dX3_makeEmpty_34 : decode cX3_makeEmpty 34 = .ok (.invokevirtual 43, 3) := by decide +kernel
theorem dX3_makeEmpty_37 : decode cX3_makeEmpty 37 = .ok (.aload_n 0, 1) := by decide +kernel
theorem dX3_makeEmpty_38 : decode cX3_makeEmpty 38 = .ok (.getfield 32, 3) := by decide +kernel
theorem dX3_makeEmpty_41 : decode cX3_makeEmpty 41 = .ok (.aload_n 0, 1) := by decide +kernel
theorem dX3_makeEmpty_42 : decode cX3_makeEmpty 42 = .ok (.getfield 28, 3) := by decide +kernel
theorem dX3_makeEmpty_45 : decode cX3_makeEmpty 45 = .ok (.iload_n 1, 1) := by decide +kernel
theorem dX3_makeEmpty_46 : decode cX3_makeEmpty 46 = .ok (.iconst 1, 1) := by decide +kernel
theorem dX3_makeEmpty_47 : decode cX3_makeEmpty 47 = .ok (.iadd, 1) := by decide +kernel
theorem dX3_makeEmpty_48 : decode cX3_makeEmpty 48 = .ok (.aload_n 0, 1) := by decide +kernel
theorem dX3_makeEmpty_49 : decode cX3_makeEmpty 49 = .ok (.getfield 28, 3) := by decide +kernel
theorem dX3_makeEmpty_52 : decode cX3_makeEmpty 52 = .ok (.invokevirtual 137, 3) := by decide +kernel
theorem dX3_makeEmpty_55 : decode cX3_makeEmpty 55 = .ok (.invokevirtual 130, 3) := by decide +kernel
theorem dX3_makeEmpty_58 : decode cX3_makeEmpty 58 = .ok (.aload_n 0, 1) := by decide +kernel
theorem dX3_makeEmpty_59 : decode cX3_makeEmpty 59 = .ok (.invokevirtual 87, 3) := by decide +kernel
theorem dX3_makeEmpty_62 : decode cX3_makeEmpty 62 = .ok (.ifCond .eq 7, 3) := by decide +kernel
theorem dX3_makeEmpty_65 : decode cX3_makeEmpty 65 = .ok (.iload_n 2, 1) := by decide +kernel
theorem dX3_makeEmpty_66 : decode cX3_makeEmpty 66 = .ok (.goto 4, 3) := by decide +kernel
theorem dX3_makeEmpty_69 : decode cX3_makeEmpty 69 = .ok (.iconst (-1), 1) := by decide +kernel
theorem dX3_makeEmpty_70 : decode cX3_makeEmpty 70 = .ok (.ireturn, 1) := by decide +kernel
set_option maxRecDepth 20000 in
theorem ggX3_change_X0_count : GoodIn wsX3_change wsX0_count := goodIn_r _ [8, 9, 42, 43, 44, 45, 46] (by decide +kernel) (by decide +kernel)
set_option maxRecDepth 20000 in
theorem gX3_change_X0_count : GoodIn wsX3_change (wsV RX3 137 RX0 yX0_count wsX0_count) := goodIn_app (goodIn_of _ (by decide +kernel)) ggX3_change_X0_count
set_option maxRecDepth 20000 in
theorem ggX3_change_X1_countWrite : GoodIn wsX3_change wsX1_countWrite := goodIn_r _ [14, 15, 16, 17, 47, 48, 49] (by decide +kernel) (by decide +kernel)
set_option maxRecDepth 20000 in
theorem gX3_change_X1_countWrite : GoodIn wsX3_change (wsV RX3 207 RX1 yX1_countWrite wsX1_countWrite) := goodIn_app (goodIn_of _ (by decide +kernel)) ggX3_change_X1_countWrite
set_option maxRecDepth 20000 in
theorem ggX3_change_X0_takeOver : GoodIn wsX3_change wsX0_takeOver := goodIn_r _ [21, 22, 23, 24, 25, 9, 26, 27, 28, 29, 30, 31, 32, 33, 34, 35, 42, 43, 44, 45, 46, 50] (by decide +kernel) (by decide +kernel)
set_option maxRecDepth 20000 in
theorem gX3_change_X0_takeOver : GoodIn wsX3_change (wsV RX3 210 RX0 yX0_takeOver wsX0_takeOver) := goodIn_app (goodIn_of _ (by decide +kernel)) ggX3_change_X0_takeOver
theorem dX3_change_0 : decode cX3_change 0 = .ok (.aload_n 0, 1) := by decide +kernel
theorem dX3_change_1 : decode cX3_change 1 = .ok (.getfield 32, 3) := by decide +kernel
theorem dX3_change_4 : decode cX3_change 4 = .ok (.invokevirtual 137, 3) := by decide +kernel
theorem dX3_change_7 : decode cX3_change 7 = .ok (.iconst 4, 1) := by decide +kernel
theorem dX3_change_8 : decode cX3_change 8 = .ok (.iadd, 1) := by decide +kernel
theorem dX3_change_9 : decode cX3_change 9 = .ok (.iconst 1, 1) := by decide +kernel
theorem dX3_change_10 : decode cX3_change 10 = .ok (.isub, 1) := by decide +kernel
theorem dX3_change_11 : decode cX3_change 11 = .ok (.iconst 4, 1) := by decide +kernel
theorem dX3_change_12 : decode cX3_change 12 = .ok (.idiv, 1) := by decide +kernel
theorem dX3_change_13 : decode cX3_change 13 = .ok (.istore_n 1, 1) := by decide +kernel
theorem dX3_change_14 : decode cX3_change 14 = .ok (.iconst 0, 1) := by decide +kernel
theorem dX3_change_15 : decode cX3_change 15 = .ok (.istore_n 2, 1) := by decide +kernel
theorem dX3_change_16 : decode cX3_change 16 = .ok (.iload_n 2, 1) := by decide +kernel
theorem dX3_change_17 : decode cX3_change 17 = .ok (.iload_n 1, 1) := by decide +kernel
theorem dX3_change_18 : decode cX3_change 18 = .ok (.iconst 1, 1) := by decide +kernel
theorem dX3_change_19 : decode cX3_change 19 = .ok (.iadd, 1) := by decide +kernel
theorem dX3_change_20 : decode cX3_change 20 = .ok (.if_icmp .ge 21, 3) := by decide +kernel
theorem dX3_change_23 : decode cX3_change 23 = .ok (.aload_n 0, 1) := by decide +kernel
theorem dX3_change_24 : decode cX3_change 24 = .ok (.getfield 10, 3) := by decide +kernel
theorem dX3_change_27 : decode cX3_change 27 = .ok (.invokevirtual 207, 3) := by decide +kernel
theorem dX3_change_30 : decode cX3_change 30 = .ok (.ifCond .ne 5, 3) := by decide +kernel
theorem dX3_change_33 : decode cX3_change 33 = .ok (.iconst 0, 1) := by decide +kernel
theorem dX3_change_34 : decode cX3_change 34 = .ok (.ireturn, 1) := by decide +kernel
theorem dX3_change_35 : decode cX3_change 35 = .ok (.iinc 2 1, 3) := by decide +kernel
theorem dX3_change_38 : decode cX3_change 38 = .ok (.goto (-22), 3) := by decide +kernel
theorem dX3_change_41 : decode cX3_change 41 = .ok (.aload_n 0, 1) := by decide +kernel
theorem dX3_change_42 : decode cX3_change 42 = .ok (.getfield 28, 3) := by decide +kernel
theorem dX3_change_45 : decode cX3_change 45 = .ok (.aload_n 0, 1) := by decide +kernel
theorem dX3_change_46 : decode cX3_change 46 = .ok (.getfield 32, 3) := by decide +kernel
theorem dX3_change_49 : decode cX3_change 49 = .ok (.invokevirtual 210, 3) := by decide +kernel
theorem dX3_change_52 : decode cX3_change 52 = .ok (.iconst 1, 1) := by decide +kernel
theorem dX3_change_53 : decode cX3_change 53 = .ok (.ireturn, 1) := by decide +kernel
set_option maxRecDepth 20000 in
theorem ggX3_writeBlock_X1_countWrite : GoodIn wsX3_writeBlock wsX1_countWrite := goodIn_r _ [7, 8, 9, 10, 23, 24, 25] (by decide +kernel) (by decide +kernel)
set_option maxRecDepth 20000 in
theorem gX3_writeBlock_X1_countWrite : GoodIn wsX3_writeBlock (wsV RX3 207 RX1 yX1_countWrite wsX1_countWrite) := goodIn_app (goodIn_of _ (by decide +kernel)) ggX3_writeBlock_X1_countWrite
set_option maxRecDepth 20000 in
theorem ggX3_writeBlock_X2_set : GoodIn wsX3_writeBlock wsX2_set := goodIn_r _ [15, 16, 26] (by decide +kernel) (by decide +kernel)
set_option maxRecDepth 20000 in
theorem gX3_writeBlock_X2_set : GoodIn wsX3_writeBlock (wsV RX3 214 RX2 yX2_set wsX2_set) := goodIn_app (goodIn_of _ (by decide +kernel)) ggX3_writeBlock_X2_set
theorem dX3_writeBlock_0 : decode cX3_writeBlock 0 = .ok (.aload_n 0, 1) := by decide +kernel
theorem dX3_writeBlock_1 : decode cX3_writeBlock 1 = .ok (.getfield 10, 3) := by decide +kernel
theorem dX3_writeBlock_4 : decode cX3_writeBlock 4 = .ok (.invokevirtual 207, 3) := by decide +kernel
theorem dX3_writeBlock_7 : decode cX3_writeBlock 7 = .ok (.ifCond .ne 5, 3) := by decide +kernel
theorem dX3_writeBlock_10 : decode cX3_writeBlock 10 = .ok (.iconst 0, 1) := by decide +kernel
theorem dX3_writeBlock_11 : decode cX3_writeBlock 11 = .ok (.ireturn, 1) := by decide +kernel
theorem dX3_writeBlock_12 : decode cX3_writeBlock 12 = .ok (.aload_n 0, 1) := by decide +kernel
theorem dX3_writeBlock_13 : decode cX3_writeBlock 13 = .ok (.getfield 21, 3) := by decide +kernel
theorem dX3_writeBlock_16 : decode cX3_writeBlock 16 = .ok (.iload_n 1, 1) := by decide +kernel
theorem dX3_writeBlock_17 : decode cX3_writeBlock 17 = .ok (.iload_n 2, 1) := by decide +kernel
theorem dX3_writeBlock_18 : decode cX3_writeBlock 18 = .ok (.invokevirtual 214, 3) := by decide +kernel
theorem dX3_writeBlock_21 : decode cX3_writeBlock 21 = .ok (.iconst 1, 1) := by decide +kernel
theorem dX3_writeBlock_22 : decode cX3_writeBlock 22 = .ok (.ireturn, 1) := by decide +kernel
set_option maxRecDepth 20000 in
theorem ggX3_writeLedger_X1_countWrite : GoodIn wsX3_writeLedger wsX1_countWrite := goodIn_r _ [8, 9, 10, 11, 18, 19, 20] (by decide +kernel) (by decide +kernel)
set_option maxRecDepth 20000 in
theorem gX3_writeLedger_X1_countWrite : GoodIn wsX3_writeLedger (wsV RX3 207 RX1 yX1_countWrite wsX1_countWrite) := goodIn_app (goodIn_of _ (by decide +kernel)) ggX3_writeLedger_X1_countWrite
theorem dX3_writeLedger_0 : decode cX3_writeLedger 0 = .ok (.aload_n 0, 1) := by decide +kernel
theorem dX3_writeLedger_1 : decode cX3_writeLedger 1 = .ok (.getfield 10, 3) := by decide +kernel
theorem dX3_writeLedger_4 : decode cX3_writeLedger 4 = .ok (.invokevirtual 207, 3) := by decide +kernel
theorem dX3_writeLedger_7 : decode cX3_writeLedger 7 = .ok (.ifCond .ne 5, 3) := by decide +kernel
theorem dX3_writeLedger_10 : decode cX3_writeLedger 10 = .ok (.iconst 0, 1) := by decide +kernel
theorem dX3_writeLedger_11 : decode cX3_writeLedger 11 = .ok (.ireturn, 1) := by decide +kernel
theorem dX3_writeLedger_12 : decode cX3_writeLedger 12 = .ok (.aload_n 0, 1) := by decide +kernel
theorem dX3_writeLedger_13 : decode cX3_writeLedger 13 = .ok (.iload_n 1, 1) := by decide +kernel
theorem dX3_writeLedger_14 : decode cX3_writeLedger 14 = .ok (.putfield 39, 3) := by decide +kernel
theorem dX3_writeLedger_17 : decode cX3_writeLedger 17 = .ok (.aload_n 0, 1) := by decide +kernel
theorem dX3_writeLedger_18 : decode cX3_writeLedger 18 = .ok (.iconst 1, 1) := by decide +kernel
theorem dX3_writeLedger_19 : decode cX3_writeLedger 19 = .ok (.putfield 35, 3) := by decide +kernel
theorem dX3_writeLedger_22 : decode cX3_writeLedger 22 = .ok (.iconst 1, 1) := by decide +kernel
theorem dX3_writeLedger_23 : decode cX3_writeLedger 23 = .ok (.ireturn, 1) := by decide +kernel
set_option maxRecDepth 20000 in
theorem ggX3_moveAll_X0_findGap : GoodIn wsX3_moveAll wsX0_findGap := goodIn_r _ [7, 8, 9, 10, 11, 12, 13, 14, 15, 125, 126, 127, 128, 129, 130] (by decide +kernel) (by decide +kernel)
set_option maxRecDepth 20000 in
theorem gX3_moveAll_X0_findGap : GoodIn wsX3_moveAll (wsV RX3 217 RX0 yX0_findGap wsX0_findGap) := goodIn_app (goodIn_of _ (by decide +kernel)) ggX3_moveAll_X0_findGap
set_option maxRecDepth 20000 in
theorem ggX3_moveAll_X0_lengthAt : GoodIn wsX3_moveAll wsX0_lengthAt := goodIn_r _ [19, 20, 10, 11, 12, 13, 14, 15, 125, 126, 127, 128, 129, 130] (by decide +kernel) (by decide +kernel)
set_option maxRecDepth 20000 in
theorem gX3_moveAll_X0_lengthAt : GoodIn wsX3_moveAll (wsV RX3 105 RX0 yX0_lengthAt wsX0_lengthAt) := goodIn_app (goodIn_of _ (by decide +kernel)) ggX3_moveAll_X0_lengthAt
set_option maxRecDepth 20000 in
theorem ggX3_moveAll_X3_moveDown : GoodIn wsX3_moveAll wsX3_moveDown := goodIn_r _ [25, 26, 27, 28, 29, 24, 30, 1, 31, 32, 33, 34, 35, 36, 37, 38, 39, 40, 41, 6, 42, 8, 20, 10, 11, 12, 13, 14, 15, 16, 17, 18, 19, 43, 44, 45, 46, 47, 2, 48, 49, 50, 51, 52, 53, 54, 55, 56, 57, 58, 59, 60, 61, 62, 63, 64, 65, 66, 67, 68, 69, 70, 71, 72, 73, 74, 75, 76, 77, 78, 79, 80, 81, 9, 82, 83, 84, 85, 86, 87, 88, 89, 90, 91, 92, 93, 94, 95, 96, 97, 98, 99, 100, 101, 102, 103, 104, 105, 106, 107, 108, 109, 110, 111, 112, 113, 114, 115, 116, 117, 118, 119, 120, 121, 122, 123, 124, 125, 126, 127, 128, 129, 130, 131, 132, 133] (by decide +kernel) (by decide +kernel)
set_option maxRecDepth 20000 in
theorem gX3_moveAll_X3_moveDown : GoodIn wsX3_moveAll (wsV RX3 220 RX3 yX3_moveDown wsX3_moveDown) := goodIn_app (goodIn_of _ (by decide +kernel)) ggX3_moveAll_X3_moveDown
theorem dX3_moveAll_0 : decode cX3_moveAll 0 = .ok (.iconst 0, 1) := by decide +kernel
theorem dX3_moveAll_1 : decode cX3_moveAll 1 = .ok (.istore_n 1, 1) := by decide +kernel
theorem dX3_moveAll_2 : decode cX3_moveAll 2 = .ok (.iconst 0, 1) := by decide +kernel
theorem dX3_moveAll_3 : decode cX3_moveAll 3 = .ok (.istore_n 2, 1) := by decide +kernel
theorem dX3_moveAll_4 : decode cX3_moveAll 4 = .ok (.iload_n 2, 1) := by decide +kernel
theorem dX3_moveAll_5 : decode cX3_moveAll 5 = .ok (.bipush 16, 2) := by decide +kernel
theorem dX3_moveAll_7 : decode cX3_moveAll 7 = .ok (.if_icmp .ge 48, 3) := by decide +kernel
theorem dX3_moveAll_10 : decode cX3_moveAll 10 = .ok (.aload_n 0, 1) := by decide +kernel
theorem dX3_moveAll_11 : decode cX3_moveAll 11 = .ok (.getfield 28, 3) := by decide +kernel
theorem dX3_moveAll_14 : decode cX3_moveAll 14 = .ok (.invokevirtual 217, 3) := by decide +kernel
theorem dX3_moveAll_17 : decode cX3_moveAll 17 = .ok (.istore_n 3, 1) := by decide +kernel
theorem dX3_moveAll_18 : decode cX3_moveAll 18 = .ok (.iload_n 3, 1) := by decide +kernel
theorem dX3_moveAll_19 : decode cX3_moveAll 19 = .ok (.iconst (-1), 1) := by decide +kernel
theorem dX3_moveAll_20 : decode cX3_moveAll 20 = .ok (.if_icmp .ne 6, 3) := by decide +kernel
theorem dX3_moveAll_23 : decode cX3_moveAll 23 = .ok (.goto 32, 3) := by decide +kernel
theorem dX3_moveAll_26 : decode cX3_moveAll 26 = .ok (.iload_n 1, 1) := by decide +kernel
theorem dX3_moveAll_27 : decode cX3_moveAll 27 = .ok (.aload_n 0, 1) := by decide +kernel
theorem dX3_moveAll_28 : decode cX3_moveAll 28 = .ok (.getfield 28, 3) := by decide +kernel
theorem dX3_moveAll_31 : decode cX3_moveAll 31 = .ok (.iload_n 3, 1) := by decide +kernel
theorem dX3_moveAll_32 : decode cX3_moveAll 32 = .ok (.iconst 1, 1) := by decide +kernel
theorem dX3_moveAll_33 : decode cX3_moveAll 33 = .ok (.iadd, 1) := by decide +kernel
theorem dX3_moveAll_34 : decode cX3_moveAll 34 = .ok (.invokevirtual 105, 3) := by decide +kernel
theorem dX3_moveAll_37 : decode cX3_moveAll 37 = .ok (.iadd, 1) := by decide +kernel
theorem dX3_moveAll_38 : decode cX3_moveAll 38 = .ok (.istore_n 1, 1) := by decide +kernel
theorem dX3_moveAll_39 : decode cX3_moveAll 39 = .ok (.aload_n 0, 1) := by decide +kernel
theorem dX3_moveAll_40 : decode cX3_moveAll 40 = .ok (.iload_n 3, 1) := by decide +kernel
theorem dX3_moveAll_41 : decode cX3_moveAll 41 = .ok (.invokevirtual 220, 3) := by decide +kernel
theorem dX3_moveAll_44 : decode cX3_moveAll 44 = .ok (.ifCond .ne 5, 3) := by decide +kernel
theorem dX3_moveAll_47 : decode cX3_moveAll 47 = .ok (.iconst (-1), 1) := by decide +kernel
theorem dX3_moveAll_48 : decode cX3_moveAll 48 = .ok (.ireturn, 1) := by decide +kernel
theorem dX3_moveAll_49 : decode cX3_moveAll 49 = .ok (.iinc 2 1, 3) := by decide +kernel
theorem dX3_moveAll_52 : decode cX3_moveAll 52 = .ok (.goto (-48), 3) := by decide +kernel
theorem dX3_moveAll_55 : decode cX3_moveAll 55 = .ok (.aload_n 0, 1) := by decide +kernel
theorem dX3_moveAll_56 : decode cX3_moveAll 56 = .ok (.iconst 0, 1) := by decide +kernel
theorem dX3_moveAll_57 : decode cX3_moveAll 57 = .ok (.putfield 35, 3) := by decide +kernel
theorem dX3_moveAll_60 : decode cX3_moveAll 60 = .ok (.iload_n 1, 1) := by decide +kernel
theorem dX3_moveAll_61 : decode cX3_moveAll 61 = .ok (.ireturn, 1) := by decide +kernel
set_option maxRecDepth 20000 in
theorem ggX3_moveDown_X3_copyDown : GoodIn wsX3_moveDown wsX3_copyDown := goodIn_r _ [6, 7, 8, 9, 10, 11, 1, 12, 13, 14, 15, 16, 17, 18, 19, 20, 21, 22, 23, 24, 25, 26, 27, 28, 29, 30, 31, 32, 33, 34, 35, 5, 36, 37, 38, 39, 40, 41, 42, 43, 44, 45, 46, 47, 48, 49, 50, 51, 52, 53, 54, 55, 111, 112, 113, 114, 115, 116, 117, 118, 119, 120, 121, 122, 123, 124, 125] (by decide +kernel) (by decide +kernel)
set_option maxRecDepth 20000 in
theorem gX3_moveDown_X3_copyDown : GoodIn wsX3_moveDown (wsV RX3 224 RX3 yX3_copyDown wsX3_copyDown) := goodIn_app (goodIn_of _ (by decide +kernel)) ggX3_moveDown_X3_copyDown
set_option maxRecDepth 20000 in
theorem ggX3_moveDown_X3_draftMovedBefore : GoodIn wsX3_moveDown wsX3_draftMovedBefore := goodIn_r _ [59, 60, 7, 61, 62, 63, 19, 64, 21, 65, 66, 67, 68, 69, 70, 71, 72, 73, 23, 24, 25, 26, 27, 28, 74, 30, 31, 32, 22, 75, 76, 77, 78, 79, 80, 81, 82, 83, 84, 85, 86, 87, 88, 89, 53, 54, 55, 29, 90, 91, 92, 93, 94, 95, 96, 97, 111, 112, 113, 114, 115, 116, 117, 118, 119, 120, 121, 122] (by decide +kernel) (by decide +kernel)
set_option maxRecDepth 20000 in
theorem gX3_moveDown_X3_draftMovedBefore : GoodIn wsX3_moveDown (wsV RX3 227 RX3 yX3_draftMovedBefore wsX3_draftMovedBefore) := goodIn_app (goodIn_of _ (by decide +kernel)) ggX3_moveDown_X3_draftMovedBefore
set_option maxRecDepth 20000 in
theorem ggX3_moveDown_X3_change : GoodIn wsX3_moveDown wsX3_change := goodIn_r _ [101, 60, 37, 7, 94, 95, 96, 19, 97, 21, 39, 40, 41, 42, 43, 44, 45, 46, 102, 103, 104, 105, 73, 22, 79, 84, 106, 107, 108, 26, 109, 28, 110, 24, 25, 27, 111, 112, 113, 114, 115, 116, 117, 118, 119, 120, 121, 123, 124, 125, 122] (by decide +kernel) (by decide +kernel)
set_option maxRecDepth 20000 in
theorem gX3_moveDown_X3_change : GoodIn wsX3_moveDown (wsV RX3 87 RX3 yX3_change wsX3_change) := goodIn_app (goodIn_of _ (by decide +kernel)) ggX3_moveDown_X3_change
theorem dX3_moveDown_0 : decode cX3_moveDown 0 = .ok (.aload_n 0, 1) := by decide +kernel
theorem dX3_moveDown_1 : decode cX3_moveDown 1 = .ok (.iload_n 1, 1) := by decide +kernel
theorem dX3_moveDown_2 : decode cX3_moveDown 2 = .ok (.invokevirtual 224, 3) := by decide +kernel
theorem dX3_moveDown_5 : decode cX3_moveDown 5 = .ok (.ifCond .ne 5, 3) := by decide +kernel
theorem dX3_moveDown_8 : decode cX3_moveDown 8 = .ok (.iconst 0, 1) := by decide +kernel
theorem dX3_moveDown_9 : decode cX3_moveDown 9 = .ok (.ireturn, 1) := by decide +kernel
theorem dX3_moveDown_10 : decode cX3_moveDown 10 = .ok (.aload_n 0, 1) := by decide +kernel
theorem dX3_moveDown_11 : decode cX3_moveDown 11 = .ok (.iload_n 1, 1) := by decide +kernel
theorem dX3_moveDown_12 : decode cX3_moveDown 12 = .ok (.invokevirtual 227, 3) := by decide +kernel
theorem dX3_moveDown_15 : decode cX3_moveDown 15 = .ok (.aload_n 0, 1) := by decide +kernel
theorem dX3_moveDown_16 : decode cX3_moveDown 16 = .ok (.invokevirtual 87, 3) := by decide +kernel
theorem dX3_moveDown_19 : decode cX3_moveDown 19 = .ok (.ifCond .ne 5, 3) := by decide +kernel
theorem dX3_moveDown_22 : decode cX3_moveDown 22 = .ok (.iconst 0, 1) := by decide +kernel
theorem dX3_moveDown_23 : decode cX3_moveDown 23 = .ok (.ireturn, 1) := by decide +kernel
theorem dX3_moveDown_24 : decode cX3_moveDown 24 = .ok (.aload_n 0, 1) := by decide +kernel
theorem dX3_moveDown_25 : decode cX3_moveDown 25 = .ok (.iconst (-1), 1) := by decide +kernel
theorem dX3_moveDown_26 : decode cX3_moveDown 26 = .ok (.putfield 39, 3) := by decide +kernel
theorem dX3_moveDown_29 : decode cX3_moveDown 29 = .ok (.iconst 1, 1) := by decide +kernel
theorem dX3_moveDown_30 : decode cX3_moveDown 30 = .ok (.ireturn, 1) := by decide +kernel
set_option maxRecDepth 20000 in
theorem ggX3_copyDown_X0_beginAt : GoodIn wsX3_copyDown wsX0_beginAt := goodIn_r _ [15, 16, 17, 18, 19, 20, 21, 22, 23, 58, 59, 60, 61, 62, 63] (by decide +kernel) (by decide +kernel)
set_option maxRecDepth 20000 in
theorem gX3_copyDown_X0_beginAt : GoodIn wsX3_copyDown (wsV RX3 98 RX0 yX0_beginAt wsX0_beginAt) := goodIn_app (goodIn_of _ (by decide +kernel)) ggX3_copyDown_X0_beginAt
set_option maxRecDepth 20000 in
theorem ggX3_copyDown_X0_lengthAt : GoodIn wsX3_copyDown wsX0_lengthAt := goodIn_r _ [27, 17, 18, 19, 20, 21, 22, 23, 58, 59, 60, 61, 62, 63] (by decide +kernel) (by decide +kernel)
set_option maxRecDepth 20000 in
theorem gX3_copyDown_X0_lengthAt : GoodIn wsX3_copyDown (wsV RX3 105 RX0 yX0_lengthAt wsX0_lengthAt) := goodIn_app (goodIn_of _ (by decide +kernel)) ggX3_copyDown_X0_lengthAt
set_option maxRecDepth 20000 in
theorem ggX3_copyDown_X3_writeLedger : GoodIn wsX3_copyDown wsX3_writeLedger := goodIn_r _ [32, 33, 6, 34, 35, 36, 37, 38, 39, 40, 41, 42, 52, 53, 54, 55, 56, 57, 64, 65, 66] (by decide +kernel) (by decide +kernel)
set_option maxRecDepth 20000 in
theorem gX3_copyDown_X3_writeLedger : GoodIn wsX3_copyDown (wsV RX3 239 RX3 yX3_writeLedger wsX3_writeLedger) := goodIn_app (goodIn_of _ (by decide +kernel)) ggX3_copyDown_X3_writeLedger
set_option maxRecDepth 20000 in
theorem ggX3_copyDown_X2_at : GoodIn wsX3_copyDown wsX2_at := goodIn_r _ [22, 23, 63] (by decide +kernel) (by decide +kernel)
set_option maxRecDepth 20000 in
theorem gX3_copyDown_X2_at : GoodIn wsX3_copyDown (wsV RX3 140 RX2 yX2_at wsX2_at) := goodIn_app (goodIn_of _ (by decide +kernel)) ggX3_copyDown_X2_at
set_option maxRecDepth 20000 in
theorem ggX3_copyDown_X3_writeBlock : GoodIn wsX3_copyDown wsX3_writeBlock := goodIn_r _ [47, 33, 10, 35, 36, 37, 38, 39, 40, 41, 42, 48, 49, 50, 21, 51, 23, 52, 53, 54, 55, 56, 57, 64, 65, 66, 63] (by decide +kernel) (by decide +kernel)
set_option maxRecDepth 20000 in
theorem gX3_copyDown_X3_writeBlock : GoodIn wsX3_copyDown (wsV RX3 101 RX3 yX3_writeBlock wsX3_writeBlock) := goodIn_app (goodIn_of _ (by decide +kernel)) ggX3_copyDown_X3_writeBlock
theorem dX3_copyDown_0 : decode cX3_copyDown 0 = .ok (.aload_n 0, 1) := by decide +kernel
theorem dX3_copyDown_1 : decode cX3_copyDown 1 = .ok (.getfield 28, 3) := by decide +kernel
theorem dX3_copyDown_4 : decode cX3_copyDown 4 = .ok (.iload_n 1, 1) := by decide +kernel
theorem dX3_copyDown_5 : decode cX3_copyDown 5 = .ok (.invokevirtual 98, 3) := by decide +kernel
theorem dX3_copyDown_8 : decode cX3_copyDown 8 = .ok (.istore_n 2, 1) := by decide +kernel
theorem dX3_copyDown_9 : decode cX3_copyDown 9 = .ok (.aload_n 0, 1) := by decide +kernel
theorem dX3_copyDown_10 : decode cX3_copyDown 10 = .ok (.getfield 28, 3) := by decide +kernel
theorem dX3_copyDown_13 : decode cX3_copyDown 13 = .ok (.iload_n 1, 1) := by decide +kernel
theorem dX3_copyDown_14 : decode cX3_copyDown 14 = .ok (.iconst 1, 1) := by decide +kernel
theorem dX3_copyDown_15 : decode cX3_copyDown 15 = .ok (.iadd, 1) := by decide +kernel
theorem dX3_copyDown_16 : decode cX3_copyDown 16 = .ok (.invokevirtual 98, 3) := by decide +kernel
theorem dX3_copyDown_19 : decode cX3_copyDown 19 = .ok (.istore_n 3, 1) := by decide +kernel
theorem dX3_copyDown_20 : decode cX3_copyDown 20 = .ok (.bipush 8, 2) := by decide +kernel
theorem dX3_copyDown_22 : decode cX3_copyDown 22 = .ok (.aload_n 0, 1) := by decide +kernel
theorem dX3_copyDown_23 : decode cX3_copyDown 23 = .ok (.getfield 28, 3) := by decide +kernel
theorem dX3_copyDown_26 : decode cX3_copyDown 26 = .ok (.iload_n 1, 1) := by decide +kernel
theorem dX3_copyDown_27 : decode cX3_copyDown 27 = .ok (.invokevirtual 105, 3) := by decide +kernel
theorem dX3_copyDown_30 : decode cX3_copyDown 30 = .ok (.invokestatic 230, 3) := by decide +kernel
theorem dX3_copyDown_33 : decode cX3_copyDown 33 = .ok (.istore 4, 2) := by decide +kernel
theorem dX3_copyDown_35 : decode cX3_copyDown 35 = .ok (.aload_n 0, 1) := by decide +kernel
theorem dX3_copyDown_36 : decode cX3_copyDown 36 = .ok (.getfield 39, 3) := by decide +kernel
theorem dX3_copyDown_39 : decode cX3_copyDown 39 = .ok (.iconst (-1), 1) := by decide +kernel
theorem dX3_copyDown_40 : decode cX3_copyDown 40 = .ok (.if_icmp .ne 7, 3) := by decide +kernel
theorem dX3_copyDown_43 : decode cX3_copyDown 43 = .ok (.iconst 0, 1) := by decide +kernel
theorem dX3_copyDown_44 : decode cX3_copyDown 44 = .ok (.goto 5, 3) := by decide +kernel
theorem dX3_copyDown_47 : decode cX3_copyDown 47 = .ok (.iload 4, 2) := by decide +kernel
theorem dX3_copyDown_49 : decode cX3_copyDown 49 = .ok (.istore 5, 2) := by decide +kernel
theorem dX3_copyDown_51 : decode cX3_copyDown 51 = .ok (.iconst 0, 1) := by decide +kernel
theorem dX3_copyDown_52 : decode cX3_copyDown 52 = .ok (.aload_n 0, 1) := by decide +kernel
theorem dX3_copyDown_53 : decode cX3_copyDown 53 = .ok (.getfield 39, 3) := by decide +kernel
theorem dX3_copyDown_56 : decode cX3_copyDown 56 = .ok (.invokestatic 236, 3) := by decide +kernel
theorem dX3_copyDown_59 : decode cX3_copyDown 59 = .ok (.istore 6, 2) := by decide +kernel
theorem dX3_copyDown_61 : decode cX3_copyDown 61 = .ok (.iload 6, 2) := by decide +kernel
theorem dX3_copyDown_63 : decode cX3_copyDown 63 = .ok (.aload_n 0, 1) := by decide +kernel
theorem dX3_copyDown_64 : decode cX3_copyDown 64 = .ok (.getfield 28, 3) := by decide +kernel
theorem dX3_copyDown_67 : decode cX3_copyDown 67 = .ok (.iload_n 1, 1) := by decide +kernel
theorem dX3_copyDown_68 : decode cX3_copyDown 68 = .ok (.iconst 1, 1) := by decide +kernel
theorem dX3_copyDown_69 : decode cX3_copyDown 69 = .ok (.iadd, 1) := by decide +kernel
theorem dX3_copyDown_70 : decode cX3_copyDown 70 = .ok (.invokevirtual 105, 3) := by decide +kernel
theorem dX3_copyDown_73 : decode cX3_copyDown 73 = .ok (.if_icmp .ge 56, 3) := by decide +kernel
theorem dX3_copyDown_76 : decode cX3_copyDown 76 = .ok (.iload 5, 2) := by decide +kernel
theorem dX3_copyDown_78 : decode cX3_copyDown 78 = .ok (.ifCond .ne 18, 3) := by decide +kernel
theorem dX3_copyDown_81 : decode cX3_copyDown 81 = .ok (.aload_n 0, 1) := by decide +kernel
theorem dX3_copyDown_82 : decode cX3_copyDown 82 = .ok (.iload 6, 2) := by decide +kernel
theorem dX3_copyDown_84 : decode cX3_copyDown 84 = .ok (.invokevirtual 239, 3) := by decide +kernel
theorem dX3_copyDown_87 : decode cX3_copyDown 87 = .ok (.ifCond .ne 5, 3) := by decide +kernel
theorem dX3_copyDown_90 : decode cX3_copyDown 90 = .ok (.iconst 0, 1) := by decide +kernel
theorem dX3_copyDown_91 : decode cX3_copyDown 91 = .ok (.ireturn, 1) := by decide +kernel
theorem dX3_copyDown_92 : decode cX3_copyDown 92 = .ok (.iload 4, 2) := by decide +kernel
theorem dX3_copyDown_94 : decode cX3_copyDown 94 = .ok (.istore 5, 2) := by decide +kernel
theorem dX3_copyDown_96 : decode cX3_copyDown 96 = .ok (.aload_n 0, 1) := by decide +kernel
theorem dX3_copyDown_97 : decode cX3_copyDown 97 = .ok (.iload_n 2, 1) := by decide +kernel
theorem dX3_copyDown_98 : decode cX3_copyDown 98 = .ok (.iload 6, 2) := by decide +kernel
theorem dX3_copyDown_100 : decode cX3_copyDown 100 = .ok (.iadd, 1) := by decide +kernel
theorem dX3_copyDown_101 : decode cX3_copyDown 101 = .ok (.aload_n 0, 1) := by decide +kernel
theorem dX3_copyDown_102 : decode cX3_copyDown 102 = .ok (.getfield 21, 3) := by decide +kernel
theorem dX3_copyDown_105 : decode cX3_copyDown 105 = .ok (.iload_n 3, 1) := by decide +kernel
theorem dX3_copyDown_106 : decode cX3_copyDown 106 = .ok (.iload 6, 2) := by decide +kernel
theorem dX3_copyDown_108 : decode cX3_copyDown 108 = .ok (.iadd, 1) := by decide +kernel
theorem dX3_copyDown_109 : decode cX3_copyDown 109 = .ok (.invokevirtual 140, 3) := by decide +kernel
theorem dX3_copyDown_112 : decode cX3_copyDown 112 = .ok (.invokevirtual 101, 3) := by decide +kernel
theorem dX3_copyDown_115 : decode cX3_copyDown 115 = .ok (.ifCond .ne 5, 3) := by decide +kernel
theorem dX3_copyDown_118 : decode cX3_copyDown 118 = .ok (.iconst 0, 1) := by decide +kernel
theorem dX3_copyDown_119 : decode cX3_copyDown 119 = .ok (.ireturn, 1) := by decide +kernel
theorem dX3_copyDown_120 : decode cX3_copyDown 120 = .ok (.iinc 5 (-1), 3) := by decide +kernel
theorem dX3_copyDown_123 : decode cX3_copyDown 123 = .ok (.iinc 6 1, 3) := by decide +kernel
theorem dX3_copyDown_126 : decode cX3_copyDown 126 = .ok (.goto (-65), 3) := by decide +kernel
theorem dX3_copyDown_129 : decode cX3_copyDown 129 = .ok (.iconst 1, 1) := by decide +kernel
theorem dX3_copyDown_130 : decode cX3_copyDown 130 = .ok (.ireturn, 1) := by decide +kernel
theorem dX4_init_0 : decode cX4_init 0 = .ok (.aload_n 0, 1) := by decide +kernel
theorem dX4_init_1 : decode cX4_init 1 = .ok (.invokespecial 1, 3) := by decide +kernel
theorem dX4_init_4 : decode cX4_init 4 = .ok (.aload_n 0, 1) := by decide +kernel
theorem dX4_init_5 : decode cX4_init 5 = .ok (.iconst 1, 1) := by decide +kernel
theorem dX4_init_6 : decode cX4_init 6 = .ok (.putfield 7, 3) := by decide +kernel
theorem dX4_init_9 : decode cX4_init 9 = .ok (.aload_n 0, 1) := by decide +kernel
theorem dX4_init_10 : decode cX4_init 10 = .ok (.iconst (-1), 1) := by decide +kernel
theorem dX4_init_11 : decode cX4_init 11 = .ok (.putfield 13, 3) := by decide +kernel
theorem dX4_init_14 : decode cX4_init 14 = .ok (.aload_n 0, 1) := by decide +kernel
theorem dX4_init_15 : decode cX4_init 15 = .ok (.bipush 48, 2) := by decide +kernel
theorem dX4_init_17 : decode cX4_init 17 = .ok (.newarray .int, 2) := by decide +kernel
theorem dX4_init_19 : decode cX4_init 19 = .ok (.putfield 17, 3) := by decide +kernel
theorem dX4_init_22 : decode cX4_init 22 = .ok (.aload_n 0, 1) := by decide +kernel
theorem dX4_init_23 : decode cX4_init 23 = .ok (.bipush 48, 2) := by decide +kernel
theorem dX4_init_25 : decode cX4_init 25 = .ok (.newarray .int, 2) := by decide +kernel
theorem dX4_init_27 : decode cX4_init 27 = .ok (.putfield 21, 3) := by decide +kernel
theorem dX4_init_30 : decode cX4_init 30 = .ok (.aload_n 0, 1) := by decide +kernel
theorem dX4_init_31 : decode cX4_init 31 = .ok (.bipush 48, 2) := by decide +kernel
theorem dX4_init_33 : decode cX4_init 33 = .ok (.newarray .int, 2) := by decide +kernel
theorem dX4_init_35 : decode cX4_init 35 = .ok (.putfield 24, 3) := by decide +kernel
theorem dX4_init_38 : decode cX4_init 38 = .ok (.aload_n 0, 1) := by decide +kernel
theorem dX4_init_39 : decode cX4_init 39 = .ok (.bipush 17, 2) := by decide +kernel
theorem dX4_init_41 : decode cX4_init 41 = .ok (.newarray .int, 2) := by decide +kernel
theorem dX4_init_43 : decode cX4_init 43 = .ok (.putfield 27, 3) := by decide +kernel
theorem dX4_init_46 : decode cX4_init 46 = .ok (.aload_n 0, 1) := by decide +kernel
theorem dX4_init_47 : decode cX4_init 47 = .ok (.bipush 17, 2) := by decide +kernel
theorem dX4_init_49 : decode cX4_init 49 = .ok (.newarray .int, 2) := by decide +kernel
theorem dX4_init_51 : decode cX4_init 51 = .ok (.putfield 30, 3) := by decide +kernel
theorem dX4_init_54 : decode cX4_init 54 = .ok (.aload_n 0, 1) := by decide +kernel
theorem dX4_init_55 : decode cX4_init 55 = .ok (.bipush 17, 2) := by decide +kernel
theorem dX4_init_57 : decode cX4_init 57 = .ok (.newarray .int, 2) := by decide +kernel
theorem dX4_init_59 : decode cX4_init 59 = .ok (.putfield 33, 3) := by decide +kernel
theorem dX4_init_62 : decode cX4_init 62 = .ok (.return_, 1) := by decide +kernel
theorem dX4_thrown_0 : decode cX4_thrown 0 = .ok (.aload_n 0, 1) := by decide +kernel
theorem dX4_thrown_1 : decode cX4_thrown 1 = .ok (.getfield 36, 3) := by decide +kernel
theorem dX4_thrown_4 : decode cX4_thrown 4 = .ok (.ireturn, 1) := by decide +kernel
theorem dX4_write_0 : decode cX4_write 0 = .ok (.aload_n 0, 1) := by decide +kernel
theorem dX4_write_1 : decode cX4_write 1 = .ok (.getfield 13, 3) := by decide +kernel
theorem dX4_write_4 : decode cX4_write 4 = .ok (.ifCond .ne 10, 3) := by decide +kernel
theorem dX4_write_7 : decode cX4_write 7 = .ok (.aload_n 0, 1) := by decide +kernel
theorem dX4_write_8 : decode cX4_write 8 = .ok (.iconst 0, 1) := by decide +kernel
theorem dX4_write_9 : decode cX4_write 9 = .ok (.putfield 7, 3) := by decide +kernel
theorem dX4_write_12 : decode cX4_write 12 = .ok (.iconst 0, 1) := by decide +kernel
theorem dX4_write_13 : decode cX4_write 13 = .ok (.ireturn, 1) := by decide +kernel
theorem dX4_write_14 : decode cX4_write 14 = .ok (.aload_n 0, 1) := by decide +kernel
theorem dX4_write_15 : decode cX4_write 15 = .ok (.aload_n 0, 1) := by decide +kernel
theorem dX4_write_16 : decode cX4_write 16 = .ok (.getfield 13, 3) := by decide +kernel
theorem dX4_write_19 : decode cX4_write 19 = .ok (.ifCond .le 12, 3) := by decide +kernel
theorem dX4_write_22 : decode cX4_write 22 = .ok (.aload_n 0, 1) := by decide +kernel
theorem dX4_write_23 : decode cX4_write 23 = .ok (.getfield 13, 3) := by decide +kernel
theorem dX4_write_26 : decode cX4_write 26 = .ok (.iconst 1, 1) := by decide +kernel
theorem dX4_write_27 : decode cX4_write 27 = .ok (.isub, 1) := by decide +kernel
theorem dX4_write_28 : decode cX4_write 28 = .ok (.goto 7, 3) := by decide +kernel
theorem dX4_write_31 : decode cX4_write 31 = .ok (.aload_n 0, 1) := by decide +kernel
theorem dX4_write_32 : decode cX4_write 32 = .ok (.getfield 13, 3) := by decide +kernel
theorem dX4_write_35 : decode cX4_write 35 = .ok (.putfield 13, 3) := by decide +kernel
theorem dX4_write_38 : decode cX4_write 38 = .ok (.aload_n 0, 1) := by decide +kernel
theorem dX4_write_39 : decode cX4_write 39 = .ok (.dup, 1) := by decide +kernel
theorem dX4_write_40 : decode cX4_write 40 = .ok (.getfield 39, 3) := by decide +kernel
theorem dX4_write_43 : decode cX4_write 43 = .ok (.iconst 1, 1) := by decide +kernel
theorem dX4_write_44 : decode cX4_write 44 = .ok (.iadd, 1) := by decide +kernel
theorem dX4_write_45 : decode cX4_write 45 = .ok (.putfield 39, 3) := by decide +kernel
theorem dX4_write_48 : decode cX4_write 48 = .ok (.aload_n 0, 1) := by decide +kernel
theorem dX4_write_49 : decode cX4_write 49 = .ok (.aload_n 0, 1) := by decide +kernel
theorem dX4_write_50 : decode cX4_write 50 = .ok (.getfield 42, 3) := by decide +kernel
theorem dX4_write_53 : decode cX4_write 53 = .ok (.ifCond .ne 10, 3) := by decide +kernel
theorem dX4_write_56 : decode cX4_write 56 = .ok (.aload_n 0, 1) := by decide +kernel
theorem dX4_write_57 : decode cX4_write 57 = .ok (.getfield 45, 3) := by decide +kernel
theorem dX4_write_60 : decode cX4_write 60 = .ok (.ifCond .eq 7, 3) := by decide +kernel
theorem dX4_write_63 : decode cX4_write 63 = .ok (.iconst 1, 1) := by decide +kernel
theorem dX4_write_64 : decode cX4_write 64 = .ok (.goto 4, 3) := by decide +kernel
theorem dX4_write_67 : decode cX4_write 67 = .ok (.iconst 0, 1) := by decide +kernel
theorem dX4_write_68 : decode cX4_write 68 = .ok (.putfield 42, 3) := by decide +kernel
theorem dX4_write_71 : decode cX4_write 71 = .ok (.iconst 1, 1) := by decide +kernel
theorem dX4_write_72 : decode cX4_write 72 = .ok (.ireturn, 1) := by decide +kernel
theorem dX4_runs_0 : decode cX4_runs 0 = .ok (.iconst 0, 1) := by decide +kernel
theorem dX4_runs_1 : decode cX4_runs 1 = .ok (.istore_n 1, 1) := by decide +kernel
theorem dX4_runs_2 : decode cX4_runs 2 = .ok (.iconst 0, 1) := by decide +kernel
theorem dX4_runs_3 : decode cX4_runs 3 = .ok (.istore_n 2, 1) := by decide +kernel
theorem dX4_runs_4 : decode cX4_runs 4 = .ok (.iload_n 2, 1) := by decide +kernel
theorem dX4_runs_5 : decode cX4_runs 5 = .ok (.bipush 48, 2) := by decide +kernel
theorem dX4_runs_7 : decode cX4_runs 7 = .ok (.if_icmp .ge 38, 3) := by decide +kernel
theorem dX4_runs_10 : decode cX4_runs 10 = .ok (.iload_n 1, 1) := by decide +kernel
theorem dX4_runs_11 : decode cX4_runs 11 = .ok (.iload_n 2, 1) := by decide +kernel
theorem dX4_runs_12 : decode cX4_runs 12 = .ok (.ifCond .eq 20, 3) := by decide +kernel
theorem dX4_runs_15 : decode cX4_runs 15 = .ok (.aload_n 0, 1) := by decide +kernel
theorem dX4_runs_16 : decode cX4_runs 16 = .ok (.getfield 24, 3) := by decide +kernel
theorem dX4_runs_19 : decode cX4_runs 19 = .ok (.iload_n 2, 1) := by decide +kernel
theorem dX4_runs_20 : decode cX4_runs 20 = .ok (.iaload, 1) := by decide +kernel
theorem dX4_runs_21 : decode cX4_runs 21 = .ok (.aload_n 0, 1) := by decide +kernel
theorem dX4_runs_22 : decode cX4_runs 22 = .ok (.getfield 24, 3) := by decide +kernel
theorem dX4_runs_25 : decode cX4_runs 25 = .ok (.iload_n 2, 1) := by decide +kernel
theorem dX4_runs_26 : decode cX4_runs 26 = .ok (.iconst 1, 1) := by decide +kernel
theorem dX4_runs_27 : decode cX4_runs 27 = .ok (.isub, 1) := by decide +kernel
theorem dX4_runs_28 : decode cX4_runs 28 = .ok (.iaload, 1) := by decide +kernel
theorem dX4_runs_29 : decode cX4_runs 29 = .ok (.if_icmp .eq 7, 3) := by decide +kernel
theorem dX4_runs_32 : decode cX4_runs 32 = .ok (.iconst 1, 1) := by decide +kernel
theorem dX4_runs_33 : decode cX4_runs 33 = .ok (.goto 4, 3) := by decide +kernel
theorem dX4_runs_36 : decode cX4_runs 36 = .ok (.iconst 0, 1) := by decide +kernel
theorem dX4_runs_37 : decode cX4_runs 37 = .ok (.iadd, 1) := by decide +kernel
theorem dX4_runs_38 : decode cX4_runs 38 = .ok (.istore_n 1, 1) := by decide +kernel
theorem dX4_runs_39 : decode cX4_runs 39 = .ok (.iinc 2 1, 3) := by decide +kernel
theorem dX4_runs_42 : decode cX4_runs 42 = .ok (.goto (-38), 3) := by decide +kernel
theorem dX4_runs_45 : decode cX4_runs 45 = .ok (.iload_n 1, 1) := by decide +kernel
theorem dX4_runs_46 : decode cX4_runs 46 = .ok (.ireturn, 1) := by decide +kernel
theorem dX4_runsNow_0 : decode cX4_runsNow 0 = .ok (.iconst 0, 1) := by decide +kernel
theorem dX4_runsNow_1 : decode cX4_runsNow 1 = .ok (.istore_n 1, 1) := by decide +kernel
theorem dX4_runsNow_2 : decode cX4_runsNow 2 = .ok (.iconst 0, 1) := by decide +kernel
theorem dX4_runsNow_3 : decode cX4_runsNow 3 = .ok (.istore_n 2, 1) := by decide +kernel
theorem dX4_runsNow_4 : decode cX4_runsNow 4 = .ok (.iload_n 2, 1) := by decide +kernel
theorem dX4_runsNow_5 : decode cX4_runsNow 5 = .ok (.bipush 48, 2) := by decide +kernel
theorem dX4_runsNow_7 : decode cX4_runsNow 7 = .ok (.if_icmp .ge 38, 3) := by decide +kernel
theorem dX4_runsNow_10 : decode cX4_runsNow 10 = .ok (.iload_n 1, 1) := by decide +kernel
theorem dX4_runsNow_11 : decode cX4_runsNow 11 = .ok (.iload_n 2, 1) := by decide +kernel
theorem dX4_runsNow_12 : decode cX4_runsNow 12 = .ok (.ifCond .eq 20, 3) := by decide +kernel
theorem dX4_runsNow_15 : decode cX4_runsNow 15 = .ok (.aload_n 0, 1) := by decide +kernel
theorem dX4_runsNow_16 : decode cX4_runsNow 16 = .ok (.getfield 21, 3) := by decide +kernel
theorem dX4_runsNow_19 : decode cX4_runsNow 19 = .ok (.iload_n 2, 1) := by decide +kernel
theorem dX4_runsNow_20 : decode cX4_runsNow 20 = .ok (.iaload, 1) := by decide +kernel
theorem dX4_runsNow_21 : decode cX4_runsNow 21 = .ok (.aload_n 0, 1) := by decide +kernel
theorem dX4_runsNow_22 : decode cX4_runsNow 22 = .ok (.getfield 21, 3) := by decide +kernel
theorem dX4_runsNow_25 : decode cX4_runsNow 25 = .ok (.iload_n 2, 1) := by decide +kernel
theorem dX4_runsNow_26 : decode cX4_runsNow 26 = .ok (.iconst 1, 1) := by decide +kernel
theorem dX4_runsNow_27 : decode cX4_runsNow 27 = .ok (.isub, 1) := by decide +kernel
theorem dX4_runsNow_28 : decode cX4_runsNow 28 = .ok (.iaload, 1) := by decide +kernel
theorem dX4_runsNow_29 : decode cX4_runsNow 29 = .ok (.if_icmp .eq 7, 3) := by decide +kernel
theorem dX4_runsNow_32 : decode cX4_runsNow 32 = .ok (.iconst 1, 1) := by decide +kernel
theorem dX4_runsNow_33 : decode cX4_runsNow 33 = .ok (.goto 4, 3) := by decide +kernel
theorem dX4_runsNow_36 : decode cX4_runsNow 36 = .ok (.iconst 0, 1) := by decide +kernel
theorem dX4_runsNow_37 : decode cX4_runsNow 37 = .ok (.iadd, 1) := by decide +kernel
theorem dX4_runsNow_38 : decode cX4_runsNow 38 = .ok (.istore_n 1, 1) := by decide +kernel
theorem dX4_runsNow_39 : decode cX4_runsNow 39 = .ok (.iinc 2 1, 3) := by decide +kernel
theorem dX4_runsNow_42 : decode cX4_runsNow 42 = .ok (.goto (-38), 3) := by decide +kernel
theorem dX4_runsNow_45 : decode cX4_runsNow 45 = .ok (.iload_n 1, 1) := by decide +kernel
theorem dX4_runsNow_46 : decode cX4_runsNow 46 = .ok (.ireturn, 1) := by decide +kernel
set_option maxRecDepth 20000 in
theorem ggX4_change_X4_runs : GoodIn wsX4_change wsX4_runs := goodIn_r _ [7, 2, 17, 18, 19, 20, 21, 22, 23, 24, 25, 26, 27, 28, 29, 30, 31, 32, 33, 34, 35, 36] (by decide +kernel) (by decide +kernel)
set_option maxRecDepth 20000 in
theorem gX4_change_X4_runs : GoodIn wsX4_change (wsV RX4 48 RX4 yX4_runs wsX4_runs) := goodIn_app (goodIn_of _ (by decide +kernel)) ggX4_change_X4_runs
set_option maxRecDepth 20000 in
theorem ggX4_change_X4_write : GoodIn wsX4_change wsX4_write := goodIn_r _ [11, 12, 13, 14, 15, 16, 17, 18, 19, 20, 21, 22, 23, 24, 25, 26, 27, 28, 29, 30, 31, 32, 33, 34, 35, 36] (by decide +kernel) (by decide +kernel)
set_option maxRecDepth 20000 in
theorem gX4_change_X4_write : GoodIn wsX4_change (wsV RX4 52 RX4 yX4_write wsX4_write) := goodIn_app (goodIn_of _ (by decide +kernel)) ggX4_change_X4_write
theorem dX4_change_0 : decode cX4_change 0 = .ok (.aload_n 0, 1) := by decide +kernel
theorem dX4_change_1 : decode cX4_change 1 = .ok (.invokevirtual 48, 3) := by decide +kernel
theorem dX4_change_4 : decode cX4_change 4 = .ok (.istore_n 1, 1) := by decide +kernel
theorem dX4_change_5 : decode cX4_change 5 = .ok (.iconst 0, 1) := by decide +kernel
theorem dX4_change_6 : decode cX4_change 6 = .ok (.istore_n 2, 1) := by decide +kernel
theorem dX4_change_7 : decode cX4_change 7 = .ok (.iload_n 2, 1) := by decide +kernel
theorem dX4_change_8 : decode cX4_change 8 = .ok (.iload_n 1, 1) := by decide +kernel
theorem dX4_change_9 : decode cX4_change 9 = .ok (.iconst 3, 1) := by decide +kernel
theorem dX4_change_10 : decode cX4_change 10 = .ok (.iadd, 1) := by decide +kernel
theorem dX4_change_11 : decode cX4_change 11 = .ok (.iconst 4, 1) := by decide +kernel
theorem dX4_change_12 : decode cX4_change 12 = .ok (.idiv, 1) := by decide +kernel
theorem dX4_change_13 : decode cX4_change 13 = .ok (.iconst 1, 1) := by decide +kernel
theorem dX4_change_14 : decode cX4_change 14 = .ok (.iadd, 1) := by decide +kernel
theorem dX4_change_15 : decode cX4_change 15 = .ok (.if_icmp .ge 18, 3) := by decide +kernel
theorem dX4_change_18 : decode cX4_change 18 = .ok (.aload_n 0, 1) := by decide +kernel
theorem dX4_change_19 : decode cX4_change 19 = .ok (.invokevirtual 52, 3) := by decide +kernel
theorem dX4_change_22 : decode cX4_change 22 = .ok (.ifCond .ne 5, 3) := by decide +kernel
theorem dX4_change_25 : decode cX4_change 25 = .ok (.iconst 0, 1) := by decide +kernel
theorem dX4_change_26 : decode cX4_change 26 = .ok (.ireturn, 1) := by decide +kernel
theorem dX4_change_27 : decode cX4_change 27 = .ok (.iinc 2 1, 3) := by decide +kernel
theorem dX4_change_30 : decode cX4_change 30 = .ok (.goto (-23), 3) := by decide +kernel
theorem dX4_change_33 : decode cX4_change 33 = .ok (.iconst 0, 1) := by decide +kernel
theorem dX4_change_34 : decode cX4_change 34 = .ok (.istore_n 2, 1) := by decide +kernel
theorem dX4_change_35 : decode cX4_change 35 = .ok (.iload_n 2, 1) := by decide +kernel
theorem dX4_change_36 : decode cX4_change 36 = .ok (.bipush 48, 2) := by decide +kernel
theorem dX4_change_38 : decode cX4_change 38 = .ok (.if_icmp .ge 21, 3) := by decide +kernel
theorem dX4_change_41 : decode cX4_change 41 = .ok (.aload_n 0, 1) := by decide +kernel
theorem dX4_change_42 : decode cX4_change 42 = .ok (.getfield 21, 3) := by decide +kernel
theorem dX4_change_45 : decode cX4_change 45 = .ok (.iload_n 2, 1) := by decide +kernel
theorem dX4_change_46 : decode cX4_change 46 = .ok (.aload_n 0, 1) := by decide +kernel
theorem dX4_change_47 : decode cX4_change 47 = .ok (.getfield 24, 3) := by decide +kernel
theorem dX4_change_50 : decode cX4_change 50 = .ok (.iload_n 2, 1) := by decide +kernel
theorem dX4_change_51 : decode cX4_change 51 = .ok (.iaload, 1) := by decide +kernel
theorem dX4_change_52 : decode cX4_change 52 = .ok (.iastore, 1) := by decide +kernel
theorem dX4_change_53 : decode cX4_change 53 = .ok (.iinc 2 1, 3) := by decide +kernel
theorem dX4_change_56 : decode cX4_change 56 = .ok (.goto (-21), 3) := by decide +kernel
theorem dX4_change_59 : decode cX4_change 59 = .ok (.iconst 1, 1) := by decide +kernel
theorem dX4_change_60 : decode cX4_change 60 = .ok (.ireturn, 1) := by decide +kernel
theorem dX4_lay_0 : decode cX4_lay 0 = .ok (.iconst 0, 1) := by decide +kernel
theorem dX4_lay_1 : decode cX4_lay 1 = .ok (.istore_n 1, 1) := by decide +kernel
theorem dX4_lay_2 : decode cX4_lay 2 = .ok (.iload_n 1, 1) := by decide +kernel
theorem dX4_lay_3 : decode cX4_lay 3 = .ok (.bipush 48, 2) := by decide +kernel
theorem dX4_lay_5 : decode cX4_lay 5 = .ok (.if_icmp .ge 21, 3) := by decide +kernel
theorem dX4_lay_8 : decode cX4_lay 8 = .ok (.aload_n 0, 1) := by decide +kernel
theorem dX4_lay_9 : decode cX4_lay 9 = .ok (.getfield 24, 3) := by decide +kernel
theorem dX4_lay_12 : decode cX4_lay 12 = .ok (.iload_n 1, 1) := by decide +kernel
theorem dX4_lay_13 : decode cX4_lay 13 = .ok (.aload_n 0, 1) := by decide +kernel
theorem dX4_lay_14 : decode cX4_lay 14 = .ok (.getfield 21, 3) := by decide +kernel
theorem dX4_lay_17 : decode cX4_lay 17 = .ok (.iload_n 1, 1) := by decide +kernel
theorem dX4_lay_18 : decode cX4_lay 18 = .ok (.iaload, 1) := by decide +kernel
theorem dX4_lay_19 : decode cX4_lay 19 = .ok (.iastore, 1) := by decide +kernel
theorem dX4_lay_20 : decode cX4_lay 20 = .ok (.iinc 1 1, 3) := by decide +kernel
theorem dX4_lay_23 : decode cX4_lay 23 = .ok (.goto (-21), 3) := by decide +kernel
theorem dX4_lay_26 : decode cX4_lay 26 = .ok (.return_, 1) := by decide +kernel
theorem dX4_giveUp_0 : decode cX4_giveUp 0 = .ok (.iconst 0, 1) := by decide +kernel
theorem dX4_giveUp_1 : decode cX4_giveUp 1 = .ok (.istore_n 3, 1) := by decide +kernel
theorem dX4_giveUp_2 : decode cX4_giveUp 2 = .ok (.iconst 0, 1) := by decide +kernel
theorem dX4_giveUp_3 : decode cX4_giveUp 3 = .ok (.istore 4, 2) := by decide +kernel
theorem dX4_giveUp_5 : decode cX4_giveUp 5 = .ok (.iload 4, 2) := by decide +kernel
theorem dX4_giveUp_7 : decode cX4_giveUp 7 = .ok (.bipush 48, 2) := by decide +kernel
theorem dX4_giveUp_9 : decode cX4_giveUp 9 = .ok (.if_icmp .ge 68, 3) := by decide +kernel
theorem dX4_giveUp_12 : decode cX4_giveUp 12 = .ok (.aload_n 0, 1) := by decide +kernel
theorem dX4_giveUp_13 : decode cX4_giveUp 13 = .ok (.getfield 21, 3) := by decide +kernel
theorem dX4_giveUp_16 : decode cX4_giveUp 16 = .ok (.iload 4, 2) := by decide +kernel
theorem dX4_giveUp_18 : decode cX4_giveUp 18 = .ok (.iaload, 1) := by decide +kernel
theorem dX4_giveUp_19 : decode cX4_giveUp 19 = .ok (.iload_n 1, 1) := by decide +kernel
theorem dX4_giveUp_20 : decode cX4_giveUp 20 = .ok (.if_icmp .ne 7, 3) := by decide +kernel
theorem dX4_giveUp_23 : decode cX4_giveUp 23 = .ok (.iconst 1, 1) := by decide +kernel
theorem dX4_giveUp_24 : decode cX4_giveUp 24 = .ok (.goto 4, 3) := by decide +kernel
theorem dX4_giveUp_27 : decode cX4_giveUp 27 = .ok (.iconst 0, 1) := by decide +kernel
theorem dX4_giveUp_28 : decode cX4_giveUp 28 = .ok (.istore 5, 2) := by decide +kernel
theorem dX4_giveUp_30 : decode cX4_giveUp 30 = .ok (.aload_n 0, 1) := by decide +kernel
theorem dX4_giveUp_31 : decode cX4_giveUp 31 = .ok (.getfield 24, 3) := by decide +kernel
theorem dX4_giveUp_34 : decode cX4_giveUp 34 = .ok (.iload 4, 2) := by decide +kernel
theorem dX4_giveUp_36 : decode cX4_giveUp 36 = .ok (.iload 5, 2) := by decide +kernel
theorem dX4_giveUp_38 : decode cX4_giveUp 38 = .ok (.ifCond .eq 12, 3) := by decide +kernel
theorem dX4_giveUp_41 : decode cX4_giveUp 41 = .ok (.iload_n 3, 1) := by decide +kernel
theorem dX4_giveUp_42 : decode cX4_giveUp 42 = .ok (.iload_n 2, 1) := by decide +kernel
theorem dX4_giveUp_43 : decode cX4_giveUp 43 = .ok (.if_icmp .lt 7, 3) := by decide +kernel
theorem dX4_giveUp_46 : decode cX4_giveUp 46 = .ok (.iconst 0, 1) := by decide +kernel
theorem dX4_giveUp_47 : decode cX4_giveUp 47 = .ok (.goto 10, 3) := by decide +kernel
theorem dX4_giveUp_50 : decode cX4_giveUp 50 = .ok (.aload_n 0, 1) := by decide +kernel
theorem dX4_giveUp_51 : decode cX4_giveUp 51 = .ok (.getfield 24, 3) := by decide +kernel
theorem dX4_giveUp_54 : decode cX4_giveUp 54 = .ok (.iload 4, 2) := by decide +kernel
theorem dX4_giveUp_56 : decode cX4_giveUp 56 = .ok (.iaload, 1) := by decide +kernel
theorem dX4_giveUp_57 : decode cX4_giveUp 57 = .ok (.iastore, 1) := by decide +kernel
theorem dX4_giveUp_58 : decode cX4_giveUp 58 = .ok (.iload_n 3, 1) := by decide +kernel
theorem dX4_giveUp_59 : decode cX4_giveUp 59 = .ok (.iload 5, 2) := by decide +kernel
theorem dX4_giveUp_61 : decode cX4_giveUp 61 = .ok (.ifCond .eq 7, 3) := by decide +kernel
theorem dX4_giveUp_64 : decode cX4_giveUp 64 = .ok (.iconst 1, 1) := by decide +kernel
theorem dX4_giveUp_65 : decode cX4_giveUp 65 = .ok (.goto 4, 3) := by decide +kernel
theorem dX4_giveUp_68 : decode cX4_giveUp 68 = .ok (.iconst 0, 1) := by decide +kernel
theorem dX4_giveUp_69 : decode cX4_giveUp 69 = .ok (.iadd, 1) := by decide +kernel
theorem dX4_giveUp_70 : decode cX4_giveUp 70 = .ok (.istore_n 3, 1) := by decide +kernel
theorem dX4_giveUp_71 : decode cX4_giveUp 71 = .ok (.iinc 4 1, 3) := by decide +kernel
theorem dX4_giveUp_74 : decode cX4_giveUp 74 = .ok (.goto (-69), 3) := by decide +kernel
theorem dX4_giveUp_77 : decode cX4_giveUp 77 = .ok (.return_, 1) := by decide +kernel
theorem dX4_lengthOf_0 : decode cX4_lengthOf 0 = .ok (.iconst 0, 1) := by decide +kernel
theorem dX4_lengthOf_1 : decode cX4_lengthOf 1 = .ok (.istore_n 2, 1) := by decide +kernel
theorem dX4_lengthOf_2 : decode cX4_lengthOf 2 = .ok (.iconst 0, 1) := by decide +kernel
theorem dX4_lengthOf_3 : decode cX4_lengthOf 3 = .ok (.istore_n 3, 1) := by decide +kernel
theorem dX4_lengthOf_4 : decode cX4_lengthOf 4 = .ok (.iload_n 3, 1) := by decide +kernel
theorem dX4_lengthOf_5 : decode cX4_lengthOf 5 = .ok (.bipush 48, 2) := by decide +kernel
theorem dX4_lengthOf_7 : decode cX4_lengthOf 7 = .ok (.if_icmp .ge 27, 3) := by decide +kernel
theorem dX4_lengthOf_10 : decode cX4_lengthOf 10 = .ok (.iload_n 2, 1) := by decide +kernel
theorem dX4_lengthOf_11 : decode cX4_lengthOf 11 = .ok (.aload_n 0, 1) := by decide +kernel
theorem dX4_lengthOf_12 : decode cX4_lengthOf 12 = .ok (.getfield 21, 3) := by decide +kernel
theorem dX4_lengthOf_15 : decode cX4_lengthOf 15 = .ok (.iload_n 3, 1) := by decide +kernel
theorem dX4_lengthOf_16 : decode cX4_lengthOf 16 = .ok (.iaload, 1) := by decide +kernel
theorem dX4_lengthOf_17 : decode cX4_lengthOf 17 = .ok (.iload_n 1, 1) := by decide +kernel
theorem dX4_lengthOf_18 : decode cX4_lengthOf 18 = .ok (.if_icmp .ne 7, 3) := by decide +kernel
theorem dX4_lengthOf_21 : decode cX4_lengthOf 21 = .ok (.iconst 1, 1) := by decide +kernel
theorem dX4_lengthOf_22 : decode cX4_lengthOf 22 = .ok (.goto 4, 3) := by decide +kernel
theorem dX4_lengthOf_25 : decode cX4_lengthOf 25 = .ok (.iconst 0, 1) := by decide +kernel
theorem dX4_lengthOf_26 : decode cX4_lengthOf 26 = .ok (.iadd, 1) := by decide +kernel
theorem dX4_lengthOf_27 : decode cX4_lengthOf 27 = .ok (.istore_n 2, 1) := by decide +kernel
theorem dX4_lengthOf_28 : decode cX4_lengthOf 28 = .ok (.iinc 3 1, 3) := by decide +kernel
theorem dX4_lengthOf_31 : decode cX4_lengthOf 31 = .ok (.goto (-27), 3) := by decide +kernel
theorem dX4_lengthOf_34 : decode cX4_lengthOf 34 = .ok (.iload_n 2, 1) := by decide +kernel
theorem dX4_lengthOf_35 : decode cX4_lengthOf 35 = .ok (.ireturn, 1) := by decide +kernel
theorem dX4_beginOf_0 : decode cX4_beginOf 0 = .ok (.iconst (-1), 1) := by decide +kernel
theorem dX4_beginOf_1 : decode cX4_beginOf 1 = .ok (.istore_n 2, 1) := by decide +kernel
theorem dX4_beginOf_2 : decode cX4_beginOf 2 = .ok (.bipush 47, 2) := by decide +kernel
theorem dX4_beginOf_4 : decode cX4_beginOf 4 = .ok (.istore_n 3, 1) := by decide +kernel
theorem dX4_beginOf_5 : decode cX4_beginOf 5 = .ok (.iload_n 3, 1) := by decide +kernel
theorem dX4_beginOf_6 : decode cX4_beginOf 6 = .ok (.ifCond .lt 25, 3) := by decide +kernel
theorem dX4_beginOf_9 : decode cX4_beginOf 9 = .ok (.aload_n 0, 1) := by decide +kernel
theorem dX4_beginOf_10 : decode cX4_beginOf 10 = .ok (.getfield 21, 3) := by decide +kernel
theorem dX4_beginOf_13 : decode cX4_beginOf 13 = .ok (.iload_n 3, 1) := by decide +kernel
theorem dX4_beginOf_14 : decode cX4_beginOf 14 = .ok (.iaload, 1) := by decide +kernel
theorem dX4_beginOf_15 : decode cX4_beginOf 15 = .ok (.iload_n 1, 1) := by decide +kernel
theorem dX4_beginOf_16 : decode cX4_beginOf 16 = .ok (.if_icmp .ne 7, 3) := by decide +kernel
theorem dX4_beginOf_19 : decode cX4_beginOf 19 = .ok (.iload_n 3, 1) := by decide +kernel
theorem dX4_beginOf_20 : decode cX4_beginOf 20 = .ok (.goto 4, 3) := by decide +kernel
theorem dX4_beginOf_23 : decode cX4_beginOf 23 = .ok (.iload_n 2, 1) := by decide +kernel
theorem dX4_beginOf_24 : decode cX4_beginOf 24 = .ok (.istore_n 2, 1) := by decide +kernel
theorem dX4_beginOf_25 : decode cX4_beginOf 25 = .ok (.iinc 3 (-1), 3) := by decide +kernel
theorem dX4_beginOf_28 : decode cX4_beginOf 28 = .ok (.goto (-23), 3) := by decide +kernel
theorem dX4_beginOf_31 : decode cX4_beginOf 31 = .ok (.iload_n 2, 1) := by decide +kernel
theorem dX4_beginOf_32 : decode cX4_beginOf 32 = .ok (.ireturn, 1) := by decide +kernel
theorem dX4_permanent_0 : decode cX4_permanent 0 = .ok (.iconst 0, 1) := by decide +kernel
theorem dX4_permanent_1 : decode cX4_permanent 1 = .ok (.istore_n 2, 1) := by decide +kernel
theorem dX4_permanent_2 : decode cX4_permanent 2 = .ok (.iconst 1, 1) := by decide +kernel
theorem dX4_permanent_3 : decode cX4_permanent 3 = .ok (.istore_n 3, 1) := by decide +kernel
theorem dX4_permanent_4 : decode cX4_permanent 4 = .ok (.iload_n 3, 1) := by decide +kernel
theorem dX4_permanent_5 : decode cX4_permanent 5 = .ok (.bipush 17, 2) := by decide +kernel
theorem dX4_permanent_7 : decode cX4_permanent 7 = .ok (.if_icmp .ge 35, 3) := by decide +kernel
theorem dX4_permanent_10 : decode cX4_permanent 10 = .ok (.aload_n 0, 1) := by decide +kernel
theorem dX4_permanent_11 : decode cX4_permanent 11 = .ok (.getfield 27, 3) := by decide +kernel
theorem dX4_permanent_14 : decode cX4_permanent 14 = .ok (.iload_n 3, 1) := by decide +kernel
theorem dX4_permanent_15 : decode cX4_permanent 15 = .ok (.iaload, 1) := by decide +kernel
theorem dX4_permanent_16 : decode cX4_permanent 16 = .ok (.iconst 2, 1) := by decide +kernel
theorem dX4_permanent_17 : decode cX4_permanent 17 = .ok (.if_icmp .ne 17, 3) := by decide +kernel
theorem dX4_permanent_20 : decode cX4_permanent 20 = .ok (.aload_n 0, 1) := by decide +kernel
theorem dX4_permanent_21 : decode cX4_permanent 21 = .ok (.getfield 30, 3) := by decide +kernel
theorem dX4_permanent_24 : decode cX4_permanent 24 = .ok (.iload_n 3, 1) := by decide +kernel
theorem dX4_permanent_25 : decode cX4_permanent 25 = .ok (.iaload, 1) := by decide +kernel
theorem dX4_permanent_26 : decode cX4_permanent 26 = .ok (.iload_n 1, 1) := by decide +kernel
theorem dX4_permanent_27 : decode cX4_permanent 27 = .ok (.if_icmp .ne 7, 3) := by decide +kernel
theorem dX4_permanent_30 : decode cX4_permanent 30 = .ok (.iload_n 3, 1) := by decide +kernel
theorem dX4_permanent_31 : decode cX4_permanent 31 = .ok (.goto 4, 3) := by decide +kernel
theorem dX4_permanent_34 : decode cX4_permanent 34 = .ok (.iload_n 2, 1) := by decide +kernel
theorem dX4_permanent_35 : decode cX4_permanent 35 = .ok (.istore_n 2, 1) := by decide +kernel
theorem dX4_permanent_36 : decode cX4_permanent 36 = .ok (.iinc 3 1, 3) := by decide +kernel
theorem dX4_permanent_39 : decode cX4_permanent 39 = .ok (.goto (-35), 3) := by decide +kernel
theorem dX4_permanent_42 : decode cX4_permanent 42 = .ok (.iload_n 2, 1) := by decide +kernel
theorem dX4_permanent_43 : decode cX4_permanent 43 = .ok (.ireturn, 1) := by decide +kernel
theorem dX4_byHandle_0 : decode cX4_byHandle 0 = .ok (.iconst 0, 1) := by decide +kernel
theorem dX4_byHandle_1 : decode cX4_byHandle 1 = .ok (.istore_n 2, 1) := by decide +kernel
theorem dX4_byHandle_2 : decode cX4_byHandle 2 = .ok (.iconst 1, 1) := by decide +kernel
theorem dX4_byHandle_3 : decode cX4_byHandle 3 = .ok (.istore_n 3, 1) := by decide +kernel
theorem dX4_byHandle_4 : decode cX4_byHandle 4 = .ok (.iload_n 3, 1) := by decide +kernel
theorem dX4_byHandle_5 : decode cX4_byHandle 5 = .ok (.bipush 17, 2) := by decide +kernel
theorem dX4_byHandle_7 : decode cX4_byHandle 7 = .ok (.if_icmp .ge 35, 3) := by decide +kernel
theorem dX4_byHandle_10 : decode cX4_byHandle 10 = .ok (.aload_n 0, 1) := by decide +kernel
theorem dX4_byHandle_11 : decode cX4_byHandle 11 = .ok (.getfield 27, 3) := by decide +kernel
theorem dX4_byHandle_14 : decode cX4_byHandle 14 = .ok (.iload_n 3, 1) := by decide +kernel
theorem dX4_byHandle_15 : decode cX4_byHandle 15 = .ok (.iaload, 1) := by decide +kernel
theorem dX4_byHandle_16 : decode cX4_byHandle 16 = .ok (.iconst 1, 1) := by decide +kernel
theorem dX4_byHandle_17 : decode cX4_byHandle 17 = .ok (.if_icmp .ne 17, 3) := by decide +kernel
theorem dX4_byHandle_20 : decode cX4_byHandle 20 = .ok (.aload_n 0, 1) := by decide +kernel
theorem dX4_byHandle_21 : decode cX4_byHandle 21 = .ok (.getfield 33, 3) := by decide +kernel
theorem dX4_byHandle_24 : decode cX4_byHandle 24 = .ok (.iload_n 3, 1) := by decide +kernel
theorem dX4_byHandle_25 : decode cX4_byHandle 25 = .ok (.iaload, 1) := by decide +kernel
theorem dX4_byHandle_26 : decode cX4_byHandle 26 = .ok (.iload_n 1, 1) := by decide +kernel
theorem dX4_byHandle_27 : decode cX4_byHandle 27 = .ok (.if_icmp .ne 7, 3) := by decide +kernel
theorem dX4_byHandle_30 : decode cX4_byHandle 30 = .ok (.iload_n 3, 1) := by decide +kernel
theorem dX4_byHandle_31 : decode cX4_byHandle 31 = .ok (.goto 4, 3) := by decide +kernel
theorem dX4_byHandle_34 : decode cX4_byHandle 34 = .ok (.iload_n 2, 1) := by decide +kernel
theorem dX4_byHandle_35 : decode cX4_byHandle 35 = .ok (.istore_n 2, 1) := by decide +kernel
theorem dX4_byHandle_36 : decode cX4_byHandle 36 = .ok (.iinc 3 1, 3) := by decide +kernel
theorem dX4_byHandle_39 : decode cX4_byHandle 39 = .ok (.goto (-35), 3) := by decide +kernel
theorem dX4_byHandle_42 : decode cX4_byHandle 42 = .ok (.iload_n 2, 1) := by decide +kernel
theorem dX4_byHandle_43 : decode cX4_byHandle 43 = .ok (.ireturn, 1) := by decide +kernel
theorem dX4_howMany_0 : decode cX4_howMany 0 = .ok (.iconst 0, 1) := by decide +kernel
theorem dX4_howMany_1 : decode cX4_howMany 1 = .ok (.istore_n 2, 1) := by decide +kernel
theorem dX4_howMany_2 : decode cX4_howMany 2 = .ok (.iconst 1, 1) := by decide +kernel
theorem dX4_howMany_3 : decode cX4_howMany 3 = .ok (.istore_n 3, 1) := by decide +kernel
theorem dX4_howMany_4 : decode cX4_howMany 4 = .ok (.iload_n 3, 1) := by decide +kernel
theorem dX4_howMany_5 : decode cX4_howMany 5 = .ok (.bipush 17, 2) := by decide +kernel
theorem dX4_howMany_7 : decode cX4_howMany 7 = .ok (.if_icmp .ge 27, 3) := by decide +kernel
theorem dX4_howMany_10 : decode cX4_howMany 10 = .ok (.iload_n 2, 1) := by decide +kernel
theorem dX4_howMany_11 : decode cX4_howMany 11 = .ok (.aload_n 0, 1) := by decide +kernel
theorem dX4_howMany_12 : decode cX4_howMany 12 = .ok (.getfield 27, 3) := by decide +kernel
theorem dX4_howMany_15 : decode cX4_howMany 15 = .ok (.iload_n 3, 1) := by decide +kernel
theorem dX4_howMany_16 : decode cX4_howMany 16 = .ok (.iaload, 1) := by decide +kernel
theorem dX4_howMany_17 : decode cX4_howMany 17 = .ok (.iload_n 1, 1) := by decide +kernel
theorem dX4_howMany_18 : decode cX4_howMany 18 = .ok (.if_icmp .ne 7, 3) := by decide +kernel
theorem dX4_howMany_21 : decode cX4_howMany 21 = .ok (.iconst 1, 1) := by decide +kernel
theorem dX4_howMany_22 : decode cX4_howMany 22 = .ok (.goto 4, 3) := by decide +kernel
theorem dX4_howMany_25 : decode cX4_howMany 25 = .ok (.iconst 0, 1) := by decide +kernel
theorem dX4_howMany_26 : decode cX4_howMany 26 = .ok (.iadd, 1) := by decide +kernel
theorem dX4_howMany_27 : decode cX4_howMany 27 = .ok (.istore_n 2, 1) := by decide +kernel
theorem dX4_howMany_28 : decode cX4_howMany 28 = .ok (.iinc 3 1, 3) := by decide +kernel
theorem dX4_howMany_31 : decode cX4_howMany 31 = .ok (.goto (-27), 3) := by decide +kernel
theorem dX4_howMany_34 : decode cX4_howMany 34 = .ok (.iload_n 2, 1) := by decide +kernel
theorem dX4_howMany_35 : decode cX4_howMany 35 = .ok (.ireturn, 1) := by decide +kernel
theorem dX4_isName_0 : decode cX4_isName 0 = .ok (.iload_n 0, 1) := by decide +kernel
theorem dX4_isName_1 : decode cX4_isName 1 = .ok (.iconst 1, 1) := by decide +kernel
theorem dX4_isName_2 : decode cX4_isName 2 = .ok (.if_icmp .lt 14, 3) := by decide +kernel
theorem dX4_isName_5 : decode cX4_isName 5 = .ok (.iload_n 0, 1) := by decide +kernel
theorem dX4_isName_6 : decode cX4_isName 6 = .ok (.sipush 999, 3) := by decide +kernel
theorem dX4_isName_9 : decode cX4_isName 9 = .ok (.if_icmp .gt 7, 3) := by decide +kernel
theorem dX4_isName_12 : decode cX4_isName 12 = .ok (.iconst 1, 1) := by decide +kernel
theorem dX4_isName_13 : decode cX4_isName 13 = .ok (.goto 4, 3) := by decide +kernel
theorem dX4_isName_16 : decode cX4_isName 16 = .ok (.iconst 0, 1) := by decide +kernel
theorem dX4_isName_17 : decode cX4_isName 17 = .ok (.ireturn, 1) := by decide +kernel
theorem dX4_runFrom_0 : decode cX4_runFrom 0 = .ok (.iconst 1, 1) := by decide +kernel
theorem dX4_runFrom_1 : decode cX4_runFrom 1 = .ok (.istore_n 2, 1) := by decide +kernel
theorem dX4_runFrom_2 : decode cX4_runFrom 2 = .ok (.iload_n 1, 1) := by decide +kernel
theorem dX4_runFrom_3 : decode cX4_runFrom 3 = .ok (.iload_n 2, 1) := by decide +kernel
theorem dX4_runFrom_4 : decode cX4_runFrom 4 = .ok (.iadd, 1) := by decide +kernel
theorem dX4_runFrom_5 : decode cX4_runFrom 5 = .ok (.bipush 48, 2) := by decide +kernel
theorem dX4_runFrom_7 : decode cX4_runFrom 7 = .ok (.if_icmp .ge 26, 3) := by decide +kernel
theorem dX4_runFrom_10 : decode cX4_runFrom 10 = .ok (.aload_n 0, 1) := by decide +kernel
theorem dX4_runFrom_11 : decode cX4_runFrom 11 = .ok (.getfield 21, 3) := by decide +kernel
theorem dX4_runFrom_14 : decode cX4_runFrom 14 = .ok (.iload_n 1, 1) := by decide +kernel
theorem dX4_runFrom_15 : decode cX4_runFrom 15 = .ok (.iload_n 2, 1) := by decide +kernel
theorem dX4_runFrom_16 : decode cX4_runFrom 16 = .ok (.iadd, 1) := by decide +kernel
theorem dX4_runFrom_17 : decode cX4_runFrom 17 = .ok (.iaload, 1) := by decide +kernel
theorem dX4_runFrom_18 : decode cX4_runFrom 18 = .ok (.aload_n 0, 1) := by decide +kernel
theorem dX4_runFrom_19 : decode cX4_runFrom 19 = .ok (.getfield 21, 3) := by decide +kernel
theorem dX4_runFrom_22 : decode cX4_runFrom 22 = .ok (.iload_n 1, 1) := by decide +kernel
theorem dX4_runFrom_23 : decode cX4_runFrom 23 = .ok (.iaload, 1) := by decide +kernel
theorem dX4_runFrom_24 : decode cX4_runFrom 24 = .ok (.if_icmp .ne 9, 3) := by decide +kernel
theorem dX4_runFrom_27 : decode cX4_runFrom 27 = .ok (.iinc 2 1, 3) := by decide +kernel
theorem dX4_runFrom_30 : decode cX4_runFrom 30 = .ok (.goto (-28), 3) := by decide +kernel
theorem dX4_runFrom_33 : decode cX4_runFrom 33 = .ok (.iload_n 2, 1) := by decide +kernel
theorem dX4_runFrom_34 : decode cX4_runFrom 34 = .ok (.ireturn, 1) := by decide +kernel
set_option maxRecDepth 20000 in
theorem ggX4_fit_X4_runFrom : GoodIn wsX4_fit wsX4_runFrom := goodIn_r _ [8, 2, 9, 10, 11, 12, 13, 14, 15, 16, 17, 18, 19, 20, 21, 22, 23, 24, 25, 26, 27, 28] (by decide +kernel) (by decide +kernel)
set_option maxRecDepth 20000 in
theorem gX4_fit_X4_runFrom : GoodIn wsX4_fit (wsV RX4 59 RX4 yX4_runFrom wsX4_runFrom) := goodIn_app (goodIn_of _ (by decide +kernel)) ggX4_fit_X4_runFrom
theorem dX4_fit_0 : decode cX4_fit 0 = .ok (.aload_n 0, 1) := by decide +kernel
theorem dX4_fit_1 : decode cX4_fit 1 = .ok (.bipush 99, 2) := by decide +kernel
theorem dX4_fit_3 : decode cX4_fit 3 = .ok (.putfield 56, 3) := by decide +kernel
theorem dX4_fit_6 : decode cX4_fit 6 = .ok (.iconst 0, 1) := by decide +kernel
theorem dX4_fit_7 : decode cX4_fit 7 = .ok (.istore_n 2, 1) := by decide +kernel
theorem dX4_fit_8 : decode cX4_fit 8 = .ok (.iload_n 2, 1) := by decide +kernel
theorem dX4_fit_9 : decode cX4_fit 9 = .ok (.bipush 48, 2) := by decide +kernel
theorem dX4_fit_11 : decode cX4_fit 11 = .ok (.if_icmp .ge 48, 3) := by decide +kernel
theorem dX4_fit_14 : decode cX4_fit 14 = .ok (.aload_n 0, 1) := by decide +kernel
theorem dX4_fit_15 : decode cX4_fit 15 = .ok (.iload_n 2, 1) := by decide +kernel
theorem dX4_fit_16 : decode cX4_fit 16 = .ok (.invokevirtual 59, 3) := by decide +kernel
theorem dX4_fit_19 : decode cX4_fit 19 = .ok (.istore_n 3, 1) := by decide +kernel
theorem dX4_fit_20 : decode cX4_fit 20 = .ok (.aload_n 0, 1) := by decide +kernel
theorem dX4_fit_21 : decode cX4_fit 21 = .ok (.getfield 21, 3) := by decide +kernel
theorem dX4_fit_24 : decode cX4_fit 24 = .ok (.iload_n 2, 1) := by decide +kernel
theorem dX4_fit_25 : decode cX4_fit 25 = .ok (.iaload, 1) := by decide +kernel
theorem dX4_fit_26 : decode cX4_fit 26 = .ok (.ifCond .ne 26, 3) := by decide +kernel
theorem dX4_fit_29 : decode cX4_fit 29 = .ok (.iload_n 3, 1) := by decide +kernel
theorem dX4_fit_30 : decode cX4_fit 30 = .ok (.iload_n 1, 1) := by decide +kernel
theorem dX4_fit_31 : decode cX4_fit 31 = .ok (.if_icmp .lt 21, 3) := by decide +kernel
theorem dX4_fit_34 : decode cX4_fit 34 = .ok (.iload_n 3, 1) := by decide +kernel
theorem dX4_fit_35 : decode cX4_fit 35 = .ok (.aload_n 0, 1) := by decide +kernel
theorem dX4_fit_36 : decode cX4_fit 36 = .ok (.getfield 56, 3) := by decide +kernel
theorem dX4_fit_39 : decode cX4_fit 39 = .ok (.if_icmp .ge 13, 3) := by decide +kernel
theorem dX4_fit_42 : decode cX4_fit 42 = .ok (.aload_n 0, 1) := by decide +kernel
theorem dX4_fit_43 : decode cX4_fit 43 = .ok (.iload_n 2, 1) := by decide +kernel
theorem dX4_fit_44 : decode cX4_fit 44 = .ok (.putfield 63, 3) := by decide +kernel
theorem dX4_fit_47 : decode cX4_fit 47 = .ok (.aload_n 0, 1) := by decide +kernel
theorem dX4_fit_48 : decode cX4_fit 48 = .ok (.iload_n 3, 1) := by decide +kernel
theorem dX4_fit_49 : decode cX4_fit 49 = .ok (.putfield 56, 3) := by decide +kernel
theorem dX4_fit_52 : decode cX4_fit 52 = .ok (.iload_n 2, 1) := by decide +kernel
theorem dX4_fit_53 : decode cX4_fit 53 = .ok (.iload_n 3, 1) := by decide +kernel
theorem dX4_fit_54 : decode cX4_fit 54 = .ok (.iadd, 1) := by decide +kernel
theorem dX4_fit_55 : decode cX4_fit 55 = .ok (.istore_n 2, 1) := by decide +kernel
theorem dX4_fit_56 : decode cX4_fit 56 = .ok (.goto (-48), 3) := by decide +kernel
theorem dX4_fit_59 : decode cX4_fit 59 = .ok (.aload_n 0, 1) := by decide +kernel
theorem dX4_fit_60 : decode cX4_fit 60 = .ok (.getfield 56, 3) := by decide +kernel
theorem dX4_fit_63 : decode cX4_fit 63 = .ok (.bipush 99, 2) := by decide +kernel
theorem dX4_fit_65 : decode cX4_fit 65 = .ok (.if_icmp .ge 7, 3) := by decide +kernel
theorem dX4_fit_68 : decode cX4_fit 68 = .ok (.iconst 1, 1) := by decide +kernel
theorem dX4_fit_69 : decode cX4_fit 69 = .ok (.goto 4, 3) := by decide +kernel
theorem dX4_fit_72 : decode cX4_fit 72 = .ok (.iconst 0, 1) := by decide +kernel
theorem dX4_fit_73 : decode cX4_fit 73 = .ok (.ireturn, 1) := by decide +kernel
set_option maxRecDepth 20000 in
theorem ggX4_longest_X4_runFrom : GoodIn wsX4_longest wsX4_runFrom := goodIn_r _ [6, 1, 7, 8, 9, 10, 11, 12, 13, 14, 15, 16, 17, 18, 19, 20, 21, 22, 23, 24, 25, 26] (by decide +kernel) (by decide +kernel)
set_option maxRecDepth 20000 in
theorem gX4_longest_X4_runFrom : GoodIn wsX4_longest (wsV RX4 59 RX4 yX4_runFrom wsX4_runFrom) := goodIn_app (goodIn_of _ (by decide +kernel)) ggX4_longest_X4_runFrom
theorem dX4_longest_0 : decode cX4_longest 0 = .ok (.iconst 0, 1) := by decide +kernel
theorem dX4_longest_1 : decode cX4_longest 1 = .ok (.istore_n 2, 1) := by decide +kernel
theorem dX4_longest_2 : decode cX4_longest 2 = .ok (.iconst 0, 1) := by decide +kernel
theorem dX4_longest_3 : decode cX4_longest 3 = .ok (.istore_n 3, 1) := by decide +kernel
theorem dX4_longest_4 : decode cX4_longest 4 = .ok (.iconst 0, 1) := by decide +kernel
theorem dX4_longest_5 : decode cX4_longest 5 = .ok (.istore 4, 2) := by decide +kernel
theorem dX4_longest_7 : decode cX4_longest 7 = .ok (.iload 4, 2) := by decide +kernel
theorem dX4_longest_9 : decode cX4_longest 9 = .ok (.bipush 48, 2) := by decide +kernel
theorem dX4_longest_11 : decode cX4_longest 11 = .ok (.if_icmp .ge 75, 3) := by decide +kernel
theorem dX4_longest_14 : decode cX4_longest 14 = .ok (.aload_n 0, 1) := by decide +kernel
theorem dX4_longest_15 : decode cX4_longest 15 = .ok (.getfield 21, 3) := by decide +kernel
theorem dX4_longest_18 : decode cX4_longest 18 = .ok (.iload 4, 2) := by decide +kernel
theorem dX4_longest_20 : decode cX4_longest 20 = .ok (.iaload, 1) := by decide +kernel
theorem dX4_longest_21 : decode cX4_longest 21 = .ok (.ifCond .ne 12, 3) := by decide +kernel
theorem dX4_longest_24 : decode cX4_longest 24 = .ok (.aload_n 0, 1) := by decide +kernel
theorem dX4_longest_25 : decode cX4_longest 25 = .ok (.iload 4, 2) := by decide +kernel
theorem dX4_longest_27 : decode cX4_longest 27 = .ok (.invokevirtual 59, 3) := by decide +kernel
theorem dX4_longest_30 : decode cX4_longest 30 = .ok (.goto 4, 3) := by decide +kernel
theorem dX4_longest_33 : decode cX4_longest 33 = .ok (.iconst 0, 1) := by decide +kernel
theorem dX4_longest_34 : decode cX4_longest 34 = .ok (.istore 5, 2) := by decide +kernel
theorem dX4_longest_36 : decode cX4_longest 36 = .ok (.iload 5, 2) := by decide +kernel
theorem dX4_longest_38 : decode cX4_longest 38 = .ok (.iload_n 2, 1) := by decide +kernel
theorem dX4_longest_39 : decode cX4_longest 39 = .ok (.if_icmp .le 7, 3) := by decide +kernel
theorem dX4_longest_42 : decode cX4_longest 42 = .ok (.iload_n 2, 1) := by decide +kernel
theorem dX4_longest_43 : decode cX4_longest 43 = .ok (.goto 15, 3) := by decide +kernel
end
section
theorem dX4_longest_46 : decode cX4_longest 46 = .ok (.iload 5, 2) := by decide +kernel
theorem dX4_longest_48 : decode cX4_longest 48 = .ok (.iload_n 3, 1) := by decide +kernel
theorem dX4_longest_49 : decode cX4_longest 49 = .ok (.if_icmp .le 8, 3) := by decide +kernel
theorem dX4_longest_52 : decode cX4_longest 52 = .ok (.iload 5, 2) := by decide +kernel
theorem dX4_longest_54 : decode cX4_longest 54 = .ok (.goto 4, 3) := by decide +kernel
theorem dX4_longest_57 : decode cX4_longest 57 = .ok (.iload_n 3, 1) := by decide +kernel
theorem dX4_longest_58 : decode cX4_longest 58 = .ok (.istore_n 3, 1) := by decide +kernel
theorem dX4_longest_59 : decode cX4_longest 59 = .ok (.iload 5, 2) := by decide +kernel
theorem dX4_longest_61 : decode cX4_longest 61 = .ok (.iload_n 2, 1) := by decide +kernel
theorem dX4_longest_62 : decode cX4_longest 62 = .ok (.if_icmp .le 8, 3) := by decide +kernel
theorem dX4_longest_65 : decode cX4_longest 65 = .ok (.iload 5, 2) := by decide +kernel
theorem dX4_longest_67 : decode cX4_longest 67 = .ok (.goto 4, 3) := by decide +kernel
theorem dX4_longest_70 : decode cX4_longest 70 = .ok (.iload_n 2, 1) := by decide +kernel
theorem dX4_longest_71 : decode cX4_longest 71 = .ok (.istore_n 2, 1) := by decide +kernel
theorem dX4_longest_72 : decode cX4_longest 72 = .ok (.iload 4, 2) := by decide +kernel
theorem dX4_longest_74 : decode cX4_longest 74 = .ok (.aload_n 0, 1) := by decide +kernel
theorem dX4_longest_75 : decode cX4_longest 75 = .ok (.iload 4, 2) := by decide +kernel
theorem dX4_longest_77 : decode cX4_longest 77 = .ok (.invokevirtual 59, 3) := by decide +kernel
theorem dX4_longest_80 : decode cX4_longest 80 = .ok (.iadd, 1) := by decide +kernel
theorem dX4_longest_81 : decode cX4_longest 81 = .ok (.istore 4, 2) := by decide +kernel
theorem dX4_longest_83 : decode cX4_longest 83 = .ok (.goto (-76), 3) := by decide +kernel
theorem dX4_longest_86 : decode cX4_longest 86 = .ok (.iload_n 1, 1) := by decide +kernel
theorem dX4_longest_87 : decode cX4_longest 87 = .ok (.ifCond .eq 7, 3) := by decide +kernel
theorem dX4_longest_90 : decode cX4_longest 90 = .ok (.iload_n 3, 1) := by decide +kernel
theorem dX4_longest_91 : decode cX4_longest 91 = .ok (.goto 4, 3) := by decide +kernel
theorem dX4_longest_94 : decode cX4_longest 94 = .ok (.iload_n 2, 1) := by decide +kernel
theorem dX4_longest_95 : decode cX4_longest 95 = .ok (.ireturn, 1) := by decide +kernel
set_option maxRecDepth 20000 in
theorem ggX4_enter_X4_isName : GoodIn wsX4_enter wsX4_isName := goodIn_r _ [11] (by decide +kernel) (by decide +kernel)
set_option maxRecDepth 20000 in
theorem gX4_enter_X4_isName : GoodIn wsX4_enter (va_wsS RX4 66 yX4_isName wsX4_isName) := goodIn_app (goodIn_of _ (by decide +kernel)) ggX4_enter_X4_isName
set_option maxRecDepth 20000 in
theorem ggX4_enter_X4_howMany : GoodIn wsX4_enter wsX4_howMany := goodIn_r _ [15, 3, 54, 55, 56, 57, 58, 59, 60, 61, 62, 63, 64, 65, 66, 67, 68, 69, 70, 71, 72, 73] (by decide +kernel) (by decide +kernel)
set_option maxRecDepth 20000 in
theorem gX4_enter_X4_howMany : GoodIn wsX4_enter (wsV RX4 70 RX4 yX4_howMany wsX4_howMany) := goodIn_app (goodIn_of _ (by decide +kernel)) ggX4_enter_X4_howMany
set_option maxRecDepth 20000 in
theorem ggX4_enter_X4_longest : GoodIn wsX4_enter wsX4_longest := goodIn_r _ [19, 20, 21, 22, 23, 10, 24, 54, 55, 56, 57, 58, 59, 60, 61, 62, 63, 64, 65, 66, 67, 68, 69, 70, 71, 72, 73] (by decide +kernel) (by decide +kernel)
set_option maxRecDepth 20000 in
theorem gX4_enter_X4_longest : GoodIn wsX4_enter (wsV RX4 73 RX4 yX4_longest wsX4_longest) := goodIn_app (goodIn_of _ (by decide +kernel)) ggX4_enter_X4_longest
set_option maxRecDepth 20000 in
theorem ggX4_enter_X4_fit : GoodIn wsX4_enter wsX4_fit := goodIn_r _ [28, 29, 20, 4, 21, 22, 23, 10, 24, 54, 55, 56, 57, 58, 59, 60, 61, 62, 63, 64, 65, 66, 67, 68, 69, 70, 71, 72, 73] (by decide +kernel) (by decide +kernel)
set_option maxRecDepth 20000 in
theorem gX4_enter_X4_fit : GoodIn wsX4_enter (wsV RX4 77 RX4 yX4_fit wsX4_fit) := goodIn_app (goodIn_of _ (by decide +kernel)) ggX4_enter_X4_fit
set_option maxRecDepth 20000 in
theorem ggX4_enter_X4_lay : GoodIn wsX4_enter wsX4_lay := goodIn_r _ [33, 5, 20, 54, 55, 56, 57, 58, 59, 60, 61, 62, 63, 64, 65, 66, 67, 68, 69, 70, 71, 72, 73] (by decide +kernel) (by decide +kernel)
set_option maxRecDepth 20000 in
theorem gX4_enter_X4_lay : GoodIn wsX4_enter (wsV RX4 80 RX4 yX4_lay wsX4_lay) := goodIn_app (goodIn_of _ (by decide +kernel)) ggX4_enter_X4_lay
set_option maxRecDepth 20000 in
theorem ggX4_enter_X4_runs : GoodIn wsX4_enter wsX4_runs := goodIn_r _ [37, 5, 54, 55, 56, 57, 58, 59, 60, 61, 62, 63, 64, 65, 66, 67, 68, 69, 70, 71, 72, 73] (by decide +kernel) (by decide +kernel)
set_option maxRecDepth 20000 in
theorem gX4_enter_X4_runs : GoodIn wsX4_enter (wsV RX4 48 RX4 yX4_runs wsX4_runs) := goodIn_app (goodIn_of _ (by decide +kernel)) ggX4_enter_X4_runs
set_option maxRecDepth 20000 in
theorem ggX4_enter_X4_change : GoodIn wsX4_enter wsX4_change := goodIn_r _ [41, 20, 5, 34, 35, 36, 10, 37, 42, 43, 44, 45, 46, 1, 47, 48, 49, 54, 55, 56, 57, 58, 59, 60, 61, 62, 63, 64, 65, 66, 67, 68, 69, 70, 71, 72, 73] (by decide +kernel) (by decide +kernel)
set_option maxRecDepth 20000 in
theorem gX4_enter_X4_change : GoodIn wsX4_enter (wsV RX4 83 RX4 yX4_change wsX4_change) := goodIn_app (goodIn_of _ (by decide +kernel)) ggX4_enter_X4_change
set_option maxRecDepth 20000 in
theorem ggX4_enter_X4_byHandle : GoodIn wsX4_enter wsX4_byHandle := goodIn_r _ [53, 3, 7, 54, 55, 56, 57, 58, 59, 60, 61, 62, 63, 64, 65, 66, 67, 68, 69, 70, 71, 72, 73] (by decide +kernel) (by decide +kernel)
set_option maxRecDepth 20000 in
theorem gX4_enter_X4_byHandle : GoodIn wsX4_enter (wsV RX4 86 RX4 yX4_byHandle wsX4_byHandle) := goodIn_app (goodIn_of _ (by decide +kernel)) ggX4_enter_X4_byHandle
theorem dX4_enter_0 : decode cX4_enter 0 = .ok (.aload_n 0, 1) := by decide +kernel
theorem dX4_enter_1 : decode cX4_enter 1 = .ok (.aload_n 0, 1) := by decide +kernel
theorem dX4_enter_2 : decode cX4_enter 2 = .ok (.getfield 7, 3) := by decide +kernel
theorem dX4_enter_5 : decode cX4_enter 5 = .ok (.ifCond .ne 7, 3) := by decide +kernel
theorem dX4_enter_8 : decode cX4_enter 8 = .ok (.iconst 1, 1) := by decide +kernel
theorem dX4_enter_9 : decode cX4_enter 9 = .ok (.goto 38, 3) := by decide +kernel
theorem dX4_enter_12 : decode cX4_enter 12 = .ok (.iload_n 1, 1) := by decide +kernel
theorem dX4_enter_13 : decode cX4_enter 13 = .ok (.invokestatic 66, 3) := by decide +kernel
theorem dX4_enter_16 : decode cX4_enter 16 = .ok (.ifCond .eq 13, 3) := by decide +kernel
theorem dX4_enter_19 : decode cX4_enter 19 = .ok (.iload_n 2, 1) := by decide +kernel
theorem dX4_enter_20 : decode cX4_enter 20 = .ok (.ifCond .lt 9, 3) := by decide +kernel
theorem dX4_enter_23 : decode cX4_enter 23 = .ok (.iload_n 2, 1) := by decide +kernel
theorem dX4_enter_24 : decode cX4_enter 24 = .ok (.bipush 48, 2) := by decide +kernel
theorem dX4_enter_26 : decode cX4_enter 26 = .ok (.if_icmp .le 7, 3) := by decide +kernel
theorem dX4_enter_29 : decode cX4_enter 29 = .ok (.iconst 2, 1) := by decide +kernel
theorem dX4_enter_30 : decode cX4_enter 30 = .ok (.goto 17, 3) := by decide +kernel
theorem dX4_enter_33 : decode cX4_enter 33 = .ok (.aload_n 0, 1) := by decide +kernel
theorem dX4_enter_34 : decode cX4_enter 34 = .ok (.iconst 1, 1) := by decide +kernel
theorem dX4_enter_35 : decode cX4_enter 35 = .ok (.invokevirtual 70, 3) := by decide +kernel
theorem dX4_enter_38 : decode cX4_enter 38 = .ok (.iconst 4, 1) := by decide +kernel
theorem dX4_enter_39 : decode cX4_enter 39 = .ok (.if_icmp .ne 7, 3) := by decide +kernel
theorem dX4_enter_42 : decode cX4_enter 42 = .ok (.iconst 1, 1) := by decide +kernel
theorem dX4_enter_43 : decode cX4_enter 43 = .ok (.goto 4, 3) := by decide +kernel
theorem dX4_enter_46 : decode cX4_enter 46 = .ok (.iconst 0, 1) := by decide +kernel
theorem dX4_enter_47 : decode cX4_enter 47 = .ok (.putfield 36, 3) := by decide +kernel
theorem dX4_enter_50 : decode cX4_enter 50 = .ok (.aload_n 0, 1) := by decide +kernel
theorem dX4_enter_51 : decode cX4_enter 51 = .ok (.getfield 36, 3) := by decide +kernel
theorem dX4_enter_54 : decode cX4_enter 54 = .ok (.ifCond .le 5, 3) := by decide +kernel
theorem dX4_enter_57 : decode cX4_enter 57 = .ok (.iconst 0, 1) := by decide +kernel
theorem dX4_enter_58 : decode cX4_enter 58 = .ok (.ireturn, 1) := by decide +kernel
theorem dX4_enter_59 : decode cX4_enter 59 = .ok (.aload_n 0, 1) := by decide +kernel
theorem dX4_enter_60 : decode cX4_enter 60 = .ok (.iconst 0, 1) := by decide +kernel
theorem dX4_enter_61 : decode cX4_enter 61 = .ok (.invokevirtual 73, 3) := by decide +kernel
theorem dX4_enter_64 : decode cX4_enter 64 = .ok (.iconst 2, 1) := by decide +kernel
theorem dX4_enter_65 : decode cX4_enter 65 = .ok (.idiv, 1) := by decide +kernel
theorem dX4_enter_66 : decode cX4_enter 66 = .ok (.istore_n 3, 1) := by decide +kernel
theorem dX4_enter_67 : decode cX4_enter 67 = .ok (.iload_n 2, 1) := by decide +kernel
theorem dX4_enter_68 : decode cX4_enter 68 = .ok (.ifCond .le 7, 3) := by decide +kernel
theorem dX4_enter_71 : decode cX4_enter 71 = .ok (.iload_n 2, 1) := by decide +kernel
theorem dX4_enter_72 : decode cX4_enter 72 = .ok (.goto 21, 3) := by decide +kernel
theorem dX4_enter_75 : decode cX4_enter 75 = .ok (.iload_n 3, 1) := by decide +kernel
theorem dX4_enter_76 : decode cX4_enter 76 = .ok (.aload_n 0, 1) := by decide +kernel
theorem dX4_enter_77 : decode cX4_enter 77 = .ok (.iconst 1, 1) := by decide +kernel
theorem dX4_enter_78 : decode cX4_enter 78 = .ok (.invokevirtual 73, 3) := by decide +kernel
theorem dX4_enter_81 : decode cX4_enter 81 = .ok (.if_icmp .le 7, 3) := by decide +kernel
theorem dX4_enter_84 : decode cX4_enter 84 = .ok (.iload_n 3, 1) := by decide +kernel
theorem dX4_enter_85 : decode cX4_enter 85 = .ok (.goto 8, 3) := by decide +kernel
theorem dX4_enter_88 : decode cX4_enter 88 = .ok (.aload_n 0, 1) := by decide +kernel
theorem dX4_enter_89 : decode cX4_enter 89 = .ok (.iconst 1, 1) := by decide +kernel
theorem dX4_enter_90 : decode cX4_enter 90 = .ok (.invokevirtual 73, 3) := by decide +kernel
theorem dX4_enter_93 : decode cX4_enter 93 = .ok (.istore 4, 2) := by decide +kernel
theorem dX4_enter_95 : decode cX4_enter 95 = .ok (.aload_n 0, 1) := by decide +kernel
theorem dX4_enter_96 : decode cX4_enter 96 = .ok (.iload 4, 2) := by decide +kernel
theorem dX4_enter_98 : decode cX4_enter 98 = .ok (.ifCond .eq 12, 3) := by decide +kernel
theorem dX4_enter_101 : decode cX4_enter 101 = .ok (.aload_n 0, 1) := by decide +kernel
theorem dX4_enter_102 : decode cX4_enter 102 = .ok (.iload 4, 2) := by decide +kernel
theorem dX4_enter_104 : decode cX4_enter 104 = .ok (.invokevirtual 77, 3) := by decide +kernel
theorem dX4_enter_107 : decode cX4_enter 107 = .ok (.ifCond .ne 7, 3) := by decide +kernel
theorem dX4_enter_110 : decode cX4_enter 110 = .ok (.iconst 3, 1) := by decide +kernel
theorem dX4_enter_111 : decode cX4_enter 111 = .ok (.goto 4, 3) := by decide +kernel
theorem dX4_enter_114 : decode cX4_enter 114 = .ok (.iconst 0, 1) := by decide +kernel
theorem dX4_enter_115 : decode cX4_enter 115 = .ok (.putfield 36, 3) := by decide +kernel
theorem dX4_enter_118 : decode cX4_enter 118 = .ok (.aload_n 0, 1) := by decide +kernel
theorem dX4_enter_119 : decode cX4_enter 119 = .ok (.getfield 36, 3) := by decide +kernel
theorem dX4_enter_122 : decode cX4_enter 122 = .ok (.ifCond .le 5, 3) := by decide +kernel
theorem dX4_enter_125 : decode cX4_enter 125 = .ok (.iconst 0, 1) := by decide +kernel
theorem dX4_enter_126 : decode cX4_enter 126 = .ok (.ireturn, 1) := by decide +kernel
theorem dX4_enter_127 : decode cX4_enter 127 = .ok (.iconst 1, 1) := by decide +kernel
theorem dX4_enter_128 : decode cX4_enter 128 = .ok (.istore 5, 2) := by decide +kernel
theorem dX4_enter_130 : decode cX4_enter 130 = .ok (.iload 5, 2) := by decide +kernel
theorem dX4_enter_132 : decode cX4_enter 132 = .ok (.bipush 17, 2) := by decide +kernel
theorem dX4_enter_134 : decode cX4_enter 134 = .ok (.if_icmp .ge 19, 3) := by decide +kernel
theorem dX4_enter_137 : decode cX4_enter 137 = .ok (.aload_n 0, 1) := by decide +kernel
theorem dX4_enter_138 : decode cX4_enter 138 = .ok (.getfield 27, 3) := by decide +kernel
theorem dX4_enter_141 : decode cX4_enter 141 = .ok (.iload 5, 2) := by decide +kernel
theorem dX4_enter_143 : decode cX4_enter 143 = .ok (.iaload, 1) := by decide +kernel
theorem dX4_enter_144 : decode cX4_enter 144 = .ok (.ifCond .eq 9, 3) := by decide +kernel
theorem dX4_enter_147 : decode cX4_enter 147 = .ok (.iinc 5 1, 3) := by decide +kernel
theorem dX4_enter_150 : decode cX4_enter 150 = .ok (.goto (-20), 3) := by decide +kernel
theorem dX4_enter_153 : decode cX4_enter 153 = .ok (.aload_n 0, 1) := by decide +kernel
theorem dX4_enter_154 : decode cX4_enter 154 = .ok (.invokevirtual 80, 3) := by decide +kernel
theorem dX4_enter_157 : decode cX4_enter 157 = .ok (.aload_n 0, 1) := by decide +kernel
theorem dX4_enter_158 : decode cX4_enter 158 = .ok (.getfield 63, 3) := by decide +kernel
theorem dX4_enter_161 : decode cX4_enter 161 = .ok (.istore 6, 2) := by decide +kernel
theorem dX4_enter_163 : decode cX4_enter 163 = .ok (.iload 6, 2) := by decide +kernel
theorem dX4_enter_165 : decode cX4_enter 165 = .ok (.aload_n 0, 1) := by decide +kernel
theorem dX4_enter_166 : decode cX4_enter 166 = .ok (.getfield 63, 3) := by decide +kernel
theorem dX4_enter_169 : decode cX4_enter 169 = .ok (.iload 4, 2) := by decide +kernel
theorem dX4_enter_171 : decode cX4_enter 171 = .ok (.iadd, 1) := by decide +kernel
theorem dX4_enter_172 : decode cX4_enter 172 = .ok (.if_icmp .ge 18, 3) := by decide +kernel
theorem dX4_enter_175 : decode cX4_enter 175 = .ok (.aload_n 0, 1) := by decide +kernel
theorem dX4_enter_176 : decode cX4_enter 176 = .ok (.getfield 24, 3) := by decide +kernel
theorem dX4_enter_179 : decode cX4_enter 179 = .ok (.iload 6, 2) := by decide +kernel
theorem dX4_enter_181 : decode cX4_enter 181 = .ok (.iload 5, 2) := by decide +kernel
theorem dX4_enter_183 : decode cX4_enter 183 = .ok (.iastore, 1) := by decide +kernel
theorem dX4_enter_184 : decode cX4_enter 184 = .ok (.iinc 6 1, 3) := by decide +kernel
theorem dX4_enter_187 : decode cX4_enter 187 = .ok (.goto (-24), 3) := by decide +kernel
theorem dX4_enter_190 : decode cX4_enter 190 = .ok (.aload_n 0, 1) := by decide +kernel
theorem dX4_enter_191 : decode cX4_enter 191 = .ok (.aload_n 0, 1) := by decide +kernel
theorem dX4_enter_192 : decode cX4_enter 192 = .ok (.invokevirtual 48, 3) := by decide +kernel
theorem dX4_enter_195 : decode cX4_enter 195 = .ok (.bipush 16, 2) := by decide +kernel
theorem dX4_enter_197 : decode cX4_enter 197 = .ok (.if_icmp .le 7, 3) := by decide +kernel
theorem dX4_enter_200 : decode cX4_enter 200 = .ok (.iconst 3, 1) := by decide +kernel
theorem dX4_enter_201 : decode cX4_enter 201 = .ok (.goto 4, 3) := by decide +kernel
theorem dX4_enter_204 : decode cX4_enter 204 = .ok (.iconst 0, 1) := by decide +kernel
theorem dX4_enter_205 : decode cX4_enter 205 = .ok (.putfield 36, 3) := by decide +kernel
theorem dX4_enter_208 : decode cX4_enter 208 = .ok (.aload_n 0, 1) := by decide +kernel
theorem dX4_enter_209 : decode cX4_enter 209 = .ok (.getfield 36, 3) := by decide +kernel
theorem dX4_enter_212 : decode cX4_enter 212 = .ok (.ifCond .le 5, 3) := by decide +kernel
theorem dX4_enter_215 : decode cX4_enter 215 = .ok (.iconst 0, 1) := by decide +kernel
theorem dX4_enter_216 : decode cX4_enter 216 = .ok (.ireturn, 1) := by decide +kernel
theorem dX4_enter_217 : decode cX4_enter 217 = .ok (.aload_n 0, 1) := by decide +kernel
theorem dX4_enter_218 : decode cX4_enter 218 = .ok (.invokevirtual 83, 3) := by decide +kernel
theorem dX4_enter_221 : decode cX4_enter 221 = .ok (.ifCond .ne 5, 3) := by decide +kernel
theorem dX4_enter_224 : decode cX4_enter 224 = .ok (.iconst (-1), 1) := by decide +kernel
theorem dX4_enter_225 : decode cX4_enter 225 = .ok (.ireturn, 1) := by decide +kernel
theorem dX4_enter_226 : decode cX4_enter 226 = .ok (.iconst 0, 1) := by decide +kernel
theorem dX4_enter_227 : decode cX4_enter 227 = .ok (.istore 6, 2) := by decide +kernel
theorem dX4_enter_229 : decode cX4_enter 229 = .ok (.aload_n 0, 1) := by decide +kernel
theorem dX4_enter_230 : decode cX4_enter 230 = .ok (.iload 6, 2) := by decide +kernel
theorem dX4_enter_232 : decode cX4_enter 232 = .ok (.invokevirtual 86, 3) := by decide +kernel
theorem dX4_enter_235 : decode cX4_enter 235 = .ok (.ifCond .le 9, 3) := by decide +kernel
theorem dX4_enter_238 : decode cX4_enter 238 = .ok (.iinc 6 1, 3) := by decide +kernel
theorem dX4_enter_241 : decode cX4_enter 241 = .ok (.goto (-12), 3) := by decide +kernel
theorem dX4_enter_244 : decode cX4_enter 244 = .ok (.aload_n 0, 1) := by decide +kernel
theorem dX4_enter_245 : decode cX4_enter 245 = .ok (.getfield 27, 3) := by decide +kernel
theorem dX4_enter_248 : decode cX4_enter 248 = .ok (.iload 5, 2) := by decide +kernel
theorem dX4_enter_250 : decode cX4_enter 250 = .ok (.iconst 1, 1) := by decide +kernel
theorem dX4_enter_251 : decode cX4_enter 251 = .ok (.iastore, 1) := by decide +kernel
theorem dX4_enter_252 : decode cX4_enter 252 = .ok (.aload_n 0, 1) := by decide +kernel
theorem dX4_enter_253 : decode cX4_enter 253 = .ok (.getfield 30, 3) := by decide +kernel
theorem dX4_enter_256 : decode cX4_enter 256 = .ok (.iload 5, 2) := by decide +kernel
theorem dX4_enter_258 : decode cX4_enter 258 = .ok (.iload_n 1, 1) := by decide +kernel
theorem dX4_enter_259 : decode cX4_enter 259 = .ok (.iastore, 1) := by decide +kernel
theorem dX4_enter_260 : decode cX4_enter 260 = .ok (.aload_n 0, 1) := by decide +kernel
theorem dX4_enter_261 : decode cX4_enter 261 = .ok (.getfield 33, 3) := by decide +kernel
theorem dX4_enter_264 : decode cX4_enter 264 = .ok (.iload 5, 2) := by decide +kernel
theorem dX4_enter_266 : decode cX4_enter 266 = .ok (.iload 6, 2) := by decide +kernel
theorem dX4_enter_268 : decode cX4_enter 268 = .ok (.iastore, 1) := by decide +kernel
theorem dX4_enter_269 : decode cX4_enter 269 = .ok (.iload 6, 2) := by decide +kernel
theorem dX4_enter_271 : decode cX4_enter 271 = .ok (.ireturn, 1) := by decide +kernel
set_option maxRecDepth 20000 in
theorem ggX4_put_X4_byHandle : GoodIn wsX4_put wsX4_byHandle := goodIn_r _ [8, 9, 10, 28, 29, 30, 31, 32, 33, 34, 35, 36, 37, 38, 39, 40, 41, 42, 43, 44, 45, 46, 47] (by decide +kernel) (by decide +kernel)
set_option maxRecDepth 20000 in
theorem gX4_put_X4_byHandle : GoodIn wsX4_put (wsV RX4 86 RX4 yX4_byHandle wsX4_byHandle) := goodIn_app (goodIn_of _ (by decide +kernel)) ggX4_put_X4_byHandle
set_option maxRecDepth 20000 in
theorem ggX4_put_X4_lengthOf : GoodIn wsX4_put wsX4_lengthOf := goodIn_r _ [14, 15, 28, 29, 30, 31, 32, 33, 34, 35, 36, 37, 38, 39, 40, 41, 42, 43, 44, 45, 46, 47] (by decide +kernel) (by decide +kernel)
set_option maxRecDepth 20000 in
theorem gX4_put_X4_lengthOf : GoodIn wsX4_put (wsV RX4 89 RX4 yX4_lengthOf wsX4_lengthOf) := goodIn_app (goodIn_of _ (by decide +kernel)) ggX4_put_X4_lengthOf
set_option maxRecDepth 20000 in
theorem ggX4_put_X4_write : GoodIn wsX4_put wsX4_write := goodIn_r _ [19, 20, 1, 21, 22, 23, 28, 29, 30, 31, 32, 33, 34, 35, 36, 37, 38, 39, 40, 41, 42, 43, 44, 45, 46, 47] (by decide +kernel) (by decide +kernel)
set_option maxRecDepth 20000 in
theorem gX4_put_X4_write : GoodIn wsX4_put (wsV RX4 52 RX4 yX4_write wsX4_write) := goodIn_app (goodIn_of _ (by decide +kernel)) ggX4_put_X4_write
set_option maxRecDepth 20000 in
theorem ggX4_put_X4_beginOf : GoodIn wsX4_put wsX4_beginOf := goodIn_r _ [27, 15, 28, 29, 30, 31, 32, 33, 34, 35, 36, 37, 38, 39, 40, 41, 42, 43, 44, 45, 46, 47] (by decide +kernel) (by decide +kernel)
set_option maxRecDepth 20000 in
theorem gX4_put_X4_beginOf : GoodIn wsX4_put (wsV RX4 92 RX4 yX4_beginOf wsX4_beginOf) := goodIn_app (goodIn_of _ (by decide +kernel)) ggX4_put_X4_beginOf
theorem dX4_put_0 : decode cX4_put 0 = .ok (.aload_n 0, 1) := by decide +kernel
theorem dX4_put_1 : decode cX4_put 1 = .ok (.getfield 7, 3) := by decide +kernel
theorem dX4_put_4 : decode cX4_put 4 = .ok (.ifCond .eq 11, 3) := by decide +kernel
theorem dX4_put_7 : decode cX4_put 7 = .ok (.aload_n 0, 1) := by decide +kernel
theorem dX4_put_8 : decode cX4_put 8 = .ok (.iload_n 1, 1) := by decide +kernel
theorem dX4_put_9 : decode cX4_put 9 = .ok (.invokevirtual 86, 3) := by decide +kernel
theorem dX4_put_12 : decode cX4_put 12 = .ok (.goto 4, 3) := by decide +kernel
theorem dX4_put_15 : decode cX4_put 15 = .ok (.iconst 0, 1) := by decide +kernel
theorem dX4_put_16 : decode cX4_put 16 = .ok (.istore 4, 2) := by decide +kernel
theorem dX4_put_18 : decode cX4_put 18 = .ok (.aload_n 0, 1) := by decide +kernel
theorem dX4_put_19 : decode cX4_put 19 = .ok (.aload_n 0, 1) := by decide +kernel
theorem dX4_put_20 : decode cX4_put 20 = .ok (.getfield 7, 3) := by decide +kernel
theorem dX4_put_23 : decode cX4_put 23 = .ok (.ifCond .ne 7, 3) := by decide +kernel
theorem dX4_put_26 : decode cX4_put 26 = .ok (.iconst 1, 1) := by decide +kernel
theorem dX4_put_27 : decode cX4_put 27 = .ok (.goto 31, 3) := by decide +kernel
theorem dX4_put_30 : decode cX4_put 30 = .ok (.iload 4, 2) := by decide +kernel
theorem dX4_put_32 : decode cX4_put 32 = .ok (.ifCond .ne 7, 3) := by decide +kernel
theorem dX4_put_35 : decode cX4_put 35 = .ok (.iconst 2, 1) := by decide +kernel
theorem dX4_put_36 : decode cX4_put 36 = .ok (.goto 22, 3) := by decide +kernel
theorem dX4_put_39 : decode cX4_put 39 = .ok (.iload_n 2, 1) := by decide +kernel
theorem dX4_put_40 : decode cX4_put 40 = .ok (.ifCond .lt 13, 3) := by decide +kernel
theorem dX4_put_43 : decode cX4_put 43 = .ok (.iload_n 2, 1) := by decide +kernel
theorem dX4_put_44 : decode cX4_put 44 = .ok (.aload_n 0, 1) := by decide +kernel
theorem dX4_put_45 : decode cX4_put 45 = .ok (.iload 4, 2) := by decide +kernel
theorem dX4_put_47 : decode cX4_put 47 = .ok (.invokevirtual 89, 3) := by decide +kernel
theorem dX4_put_50 : decode cX4_put 50 = .ok (.if_icmp .lt 7, 3) := by decide +kernel
theorem dX4_put_53 : decode cX4_put 53 = .ok (.iconst 3, 1) := by decide +kernel
theorem dX4_put_54 : decode cX4_put 54 = .ok (.goto 4, 3) := by decide +kernel
theorem dX4_put_57 : decode cX4_put 57 = .ok (.iconst 0, 1) := by decide +kernel
theorem dX4_put_58 : decode cX4_put 58 = .ok (.putfield 36, 3) := by decide +kernel
theorem dX4_put_61 : decode cX4_put 61 = .ok (.aload_n 0, 1) := by decide +kernel
theorem dX4_put_62 : decode cX4_put 62 = .ok (.getfield 36, 3) := by decide +kernel
theorem dX4_put_65 : decode cX4_put 65 = .ok (.ifCond .le 5, 3) := by decide +kernel
theorem dX4_put_68 : decode cX4_put 68 = .ok (.iconst 0, 1) := by decide +kernel
theorem dX4_put_69 : decode cX4_put 69 = .ok (.ireturn, 1) := by decide +kernel
theorem dX4_put_70 : decode cX4_put 70 = .ok (.aload_n 0, 1) := by decide +kernel
theorem dX4_put_71 : decode cX4_put 71 = .ok (.invokevirtual 52, 3) := by decide +kernel
theorem dX4_put_74 : decode cX4_put 74 = .ok (.ifCond .ne 5, 3) := by decide +kernel
theorem dX4_put_77 : decode cX4_put 77 = .ok (.iconst (-1), 1) := by decide +kernel
theorem dX4_put_78 : decode cX4_put 78 = .ok (.ireturn, 1) := by decide +kernel
theorem dX4_put_79 : decode cX4_put 79 = .ok (.aload_n 0, 1) := by decide +kernel
theorem dX4_put_80 : decode cX4_put 80 = .ok (.getfield 17, 3) := by decide +kernel
theorem dX4_put_83 : decode cX4_put 83 = .ok (.aload_n 0, 1) := by decide +kernel
theorem dX4_put_84 : decode cX4_put 84 = .ok (.iload 4, 2) := by decide +kernel
theorem dX4_put_86 : decode cX4_put 86 = .ok (.invokevirtual 92, 3) := by decide +kernel
theorem dX4_put_89 : decode cX4_put 89 = .ok (.iload_n 2, 1) := by decide +kernel
theorem dX4_put_90 : decode cX4_put 90 = .ok (.iadd, 1) := by decide +kernel
theorem dX4_put_91 : decode cX4_put 91 = .ok (.iload_n 3, 1) := by decide +kernel
theorem dX4_put_92 : decode cX4_put 92 = .ok (.iastore, 1) := by decide +kernel
theorem dX4_put_93 : decode cX4_put 93 = .ok (.iconst 0, 1) := by decide +kernel
theorem dX4_put_94 : decode cX4_put 94 = .ok (.ireturn, 1) := by decide +kernel
set_option maxRecDepth 20000 in
theorem ggX4_close_X4_byHandle : GoodIn wsX4_close wsX4_byHandle := goodIn_r _ [9, 4, 10, 45, 46, 47, 48, 49, 50, 51, 52, 53, 54, 55, 56, 57, 58, 59, 60, 61, 62, 63, 64] (by decide +kernel) (by decide +kernel)
set_option maxRecDepth 20000 in
theorem gX4_close_X4_byHandle : GoodIn wsX4_close (wsV RX4 86 RX4 yX4_byHandle wsX4_byHandle) := goodIn_app (goodIn_of _ (by decide +kernel)) ggX4_close_X4_byHandle
set_option maxRecDepth 20000 in
theorem ggX4_close_X4_lengthOf : GoodIn wsX4_close wsX4_lengthOf := goodIn_r _ [14, 15, 45, 46, 47, 48, 49, 50, 51, 52, 53, 54, 55, 56, 57, 58, 59, 60, 61, 62, 63, 64] (by decide +kernel) (by decide +kernel)
set_option maxRecDepth 20000 in
theorem gX4_close_X4_lengthOf : GoodIn wsX4_close (wsV RX4 89 RX4 yX4_lengthOf wsX4_lengthOf) := goodIn_app (goodIn_of _ (by decide +kernel)) ggX4_close_X4_lengthOf
set_option maxRecDepth 20000 in
theorem ggX4_close_X4_permanent : GoodIn wsX4_close wsX4_permanent := goodIn_r _ [19, 4, 3, 45, 46, 47, 48, 49, 50, 51, 52, 53, 54, 55, 56, 57, 58, 59, 60, 61, 62, 63, 64] (by decide +kernel) (by decide +kernel)
set_option maxRecDepth 20000 in
theorem gX4_close_X4_permanent : GoodIn wsX4_close (wsV RX4 95 RX4 yX4_permanent wsX4_permanent) := goodIn_app (goodIn_of _ (by decide +kernel)) ggX4_close_X4_permanent
set_option maxRecDepth 20000 in
theorem ggX4_close_X4_lay : GoodIn wsX4_close wsX4_lay := goodIn_r _ [23, 24, 15, 45, 46, 47, 48, 49, 50, 51, 52, 53, 54, 55, 56, 57, 58, 59, 60, 61, 62, 63, 64] (by decide +kernel) (by decide +kernel)
set_option maxRecDepth 20000 in
theorem gX4_close_X4_lay : GoodIn wsX4_close (wsV RX4 80 RX4 yX4_lay wsX4_lay) := goodIn_app (goodIn_of _ (by decide +kernel)) ggX4_close_X4_lay
set_option maxRecDepth 20000 in
theorem ggX4_close_X4_giveUp : GoodIn wsX4_close wsX4_giveUp := goodIn_r _ [28, 15, 24, 45, 46, 47, 48, 49, 50, 51, 52, 53, 54, 55, 56, 57, 58, 59, 60, 61, 62, 63, 64] (by decide +kernel) (by decide +kernel)
set_option maxRecDepth 20000 in
theorem gX4_close_X4_giveUp : GoodIn wsX4_close (wsV RX4 98 RX4 yX4_giveUp wsX4_giveUp) := goodIn_app (goodIn_of _ (by decide +kernel)) ggX4_close_X4_giveUp
set_option maxRecDepth 20000 in
theorem ggX4_close_X4_runs : GoodIn wsX4_close wsX4_runs := goodIn_r _ [32, 24, 45, 46, 47, 48, 49, 50, 51, 52, 53, 54, 55, 56, 57, 58, 59, 60, 61, 62, 63, 64] (by decide +kernel) (by decide +kernel)
set_option maxRecDepth 20000 in
theorem gX4_close_X4_runs : GoodIn wsX4_close (wsV RX4 48 RX4 yX4_runs wsX4_runs) := goodIn_app (goodIn_of _ (by decide +kernel)) ggX4_close_X4_runs
set_option maxRecDepth 20000 in
theorem ggX4_close_X4_change : GoodIn wsX4_close wsX4_change := goodIn_r _ [36, 15, 24, 29, 30, 31, 8, 32, 37, 38, 39, 40, 41, 1, 42, 43, 44, 45, 46, 47, 48, 49, 50, 51, 52, 53, 54, 55, 56, 57, 58, 59, 60, 61, 62, 63, 64] (by decide +kernel) (by decide +kernel)
set_option maxRecDepth 20000 in
theorem gX4_close_X4_change : GoodIn wsX4_close (wsV RX4 83 RX4 yX4_change wsX4_change) := goodIn_app (goodIn_of _ (by decide +kernel)) ggX4_close_X4_change
theorem dX4_close_0 : decode cX4_close 0 = .ok (.aload_n 0, 1) := by decide +kernel
theorem dX4_close_1 : decode cX4_close 1 = .ok (.getfield 7, 3) := by decide +kernel
theorem dX4_close_4 : decode cX4_close 4 = .ok (.ifCond .eq 11, 3) := by decide +kernel
theorem dX4_close_7 : decode cX4_close 7 = .ok (.aload_n 0, 1) := by decide +kernel
theorem dX4_close_8 : decode cX4_close 8 = .ok (.iload_n 1, 1) := by decide +kernel
theorem dX4_close_9 : decode cX4_close 9 = .ok (.invokevirtual 86, 3) := by decide +kernel
theorem dX4_close_12 : decode cX4_close 12 = .ok (.goto 4, 3) := by decide +kernel
theorem dX4_close_15 : decode cX4_close 15 = .ok (.iconst 0, 1) := by decide +kernel
theorem dX4_close_16 : decode cX4_close 16 = .ok (.istore_n 3, 1) := by decide +kernel
theorem dX4_close_17 : decode cX4_close 17 = .ok (.aload_n 0, 1) := by decide +kernel
theorem dX4_close_18 : decode cX4_close 18 = .ok (.aload_n 0, 1) := by decide +kernel
theorem dX4_close_19 : decode cX4_close 19 = .ok (.getfield 7, 3) := by decide +kernel
theorem dX4_close_22 : decode cX4_close 22 = .ok (.ifCond .ne 7, 3) := by decide +kernel
theorem dX4_close_25 : decode cX4_close 25 = .ok (.iconst 1, 1) := by decide +kernel
theorem dX4_close_26 : decode cX4_close 26 = .ok (.goto 30, 3) := by decide +kernel
theorem dX4_close_29 : decode cX4_close 29 = .ok (.iload_n 3, 1) := by decide +kernel
theorem dX4_close_30 : decode cX4_close 30 = .ok (.ifCond .ne 7, 3) := by decide +kernel
theorem dX4_close_33 : decode cX4_close 33 = .ok (.iconst 2, 1) := by decide +kernel
theorem dX4_close_34 : decode cX4_close 34 = .ok (.goto 22, 3) := by decide +kernel
theorem dX4_close_37 : decode cX4_close 37 = .ok (.iload_n 2, 1) := by decide +kernel
theorem dX4_close_38 : decode cX4_close 38 = .ok (.iconst 1, 1) := by decide +kernel
theorem dX4_close_39 : decode cX4_close 39 = .ok (.if_icmp .lt 12, 3) := by decide +kernel
theorem dX4_close_42 : decode cX4_close 42 = .ok (.iload_n 2, 1) := by decide +kernel
theorem dX4_close_43 : decode cX4_close 43 = .ok (.aload_n 0, 1) := by decide +kernel
theorem dX4_close_44 : decode cX4_close 44 = .ok (.iload_n 3, 1) := by decide +kernel
theorem dX4_close_45 : decode cX4_close 45 = .ok (.invokevirtual 89, 3) := by decide +kernel
theorem dX4_close_48 : decode cX4_close 48 = .ok (.if_icmp .le 7, 3) := by decide +kernel
theorem dX4_close_51 : decode cX4_close 51 = .ok (.iconst 3, 1) := by decide +kernel
theorem dX4_close_52 : decode cX4_close 52 = .ok (.goto 4, 3) := by decide +kernel
theorem dX4_close_55 : decode cX4_close 55 = .ok (.iconst 0, 1) := by decide +kernel
theorem dX4_close_56 : decode cX4_close 56 = .ok (.putfield 36, 3) := by decide +kernel
theorem dX4_close_59 : decode cX4_close 59 = .ok (.aload_n 0, 1) := by decide +kernel
theorem dX4_close_60 : decode cX4_close 60 = .ok (.getfield 36, 3) := by decide +kernel
theorem dX4_close_63 : decode cX4_close 63 = .ok (.ifCond .le 5, 3) := by decide +kernel
theorem dX4_close_66 : decode cX4_close 66 = .ok (.iconst 0, 1) := by decide +kernel
theorem dX4_close_67 : decode cX4_close 67 = .ok (.ireturn, 1) := by decide +kernel
theorem dX4_close_68 : decode cX4_close 68 = .ok (.aload_n 0, 1) := by decide +kernel
theorem dX4_close_69 : decode cX4_close 69 = .ok (.aload_n 0, 1) := by decide +kernel
theorem dX4_close_70 : decode cX4_close 70 = .ok (.getfield 30, 3) := by decide +kernel
theorem dX4_close_73 : decode cX4_close 73 = .ok (.iload_n 3, 1) := by decide +kernel
theorem dX4_close_74 : decode cX4_close 74 = .ok (.iaload, 1) := by decide +kernel
theorem dX4_close_75 : decode cX4_close 75 = .ok (.invokevirtual 95, 3) := by decide +kernel
theorem dX4_close_78 : decode cX4_close 78 = .ok (.istore 4, 2) := by decide +kernel
theorem dX4_close_80 : decode cX4_close 80 = .ok (.aload_n 0, 1) := by decide +kernel
theorem dX4_close_81 : decode cX4_close 81 = .ok (.invokevirtual 80, 3) := by decide +kernel
theorem dX4_close_84 : decode cX4_close 84 = .ok (.aload_n 0, 1) := by decide +kernel
theorem dX4_close_85 : decode cX4_close 85 = .ok (.iload_n 3, 1) := by decide +kernel
theorem dX4_close_86 : decode cX4_close 86 = .ok (.iload_n 2, 1) := by decide +kernel
theorem dX4_close_87 : decode cX4_close 87 = .ok (.invokevirtual 98, 3) := by decide +kernel
theorem dX4_close_90 : decode cX4_close 90 = .ok (.aload_n 0, 1) := by decide +kernel
theorem dX4_close_91 : decode cX4_close 91 = .ok (.iload_n 3, 1) := by decide +kernel
theorem dX4_close_92 : decode cX4_close 92 = .ok (.invokevirtual 89, 3) := by decide +kernel
theorem dX4_close_95 : decode cX4_close 95 = .ok (.iload_n 2, 1) := by decide +kernel
theorem dX4_close_96 : decode cX4_close 96 = .ok (.isub, 1) := by decide +kernel
theorem dX4_close_97 : decode cX4_close 97 = .ok (.istore 5, 2) := by decide +kernel
theorem dX4_close_99 : decode cX4_close 99 = .ok (.iload 4, 2) := by decide +kernel
theorem dX4_close_101 : decode cX4_close 101 = .ok (.ifCond .le 21, 3) := by decide +kernel
theorem dX4_close_104 : decode cX4_close 104 = .ok (.aload_n 0, 1) := by decide +kernel
theorem dX4_close_105 : decode cX4_close 105 = .ok (.iload 4, 2) := by decide +kernel
theorem dX4_close_107 : decode cX4_close 107 = .ok (.iconst 0, 1) := by decide +kernel
theorem dX4_close_108 : decode cX4_close 108 = .ok (.invokevirtual 98, 3) := by decide +kernel
theorem dX4_close_111 : decode cX4_close 111 = .ok (.iload 5, 2) := by decide +kernel
theorem dX4_close_113 : decode cX4_close 113 = .ok (.aload_n 0, 1) := by decide +kernel
theorem dX4_close_114 : decode cX4_close 114 = .ok (.iload 4, 2) := by decide +kernel
theorem dX4_close_116 : decode cX4_close 116 = .ok (.invokevirtual 89, 3) := by decide +kernel
theorem dX4_close_119 : decode cX4_close 119 = .ok (.iadd, 1) := by decide +kernel
theorem dX4_close_120 : decode cX4_close 120 = .ok (.istore 5, 2) := by decide +kernel
theorem dX4_close_122 : decode cX4_close 122 = .ok (.aload_n 0, 1) := by decide +kernel
theorem dX4_close_123 : decode cX4_close 123 = .ok (.aload_n 0, 1) := by decide +kernel
theorem dX4_close_124 : decode cX4_close 124 = .ok (.invokevirtual 48, 3) := by decide +kernel
theorem dX4_close_127 : decode cX4_close 127 = .ok (.bipush 16, 2) := by decide +kernel
theorem dX4_close_129 : decode cX4_close 129 = .ok (.if_icmp .le 7, 3) := by decide +kernel
theorem dX4_close_132 : decode cX4_close 132 = .ok (.iconst 4, 1) := by decide +kernel
theorem dX4_close_133 : decode cX4_close 133 = .ok (.goto 4, 3) := by decide +kernel
theorem dX4_close_136 : decode cX4_close 136 = .ok (.iconst 0, 1) := by decide +kernel
theorem dX4_close_137 : decode cX4_close 137 = .ok (.putfield 36, 3) := by decide +kernel
theorem dX4_close_140 : decode cX4_close 140 = .ok (.aload_n 0, 1) := by decide +kernel
theorem dX4_close_141 : decode cX4_close 141 = .ok (.getfield 36, 3) := by decide +kernel
theorem dX4_close_144 : decode cX4_close 144 = .ok (.ifCond .le 5, 3) := by decide +kernel
theorem dX4_close_147 : decode cX4_close 147 = .ok (.iconst 0, 1) := by decide +kernel
theorem dX4_close_148 : decode cX4_close 148 = .ok (.ireturn, 1) := by decide +kernel
theorem dX4_close_149 : decode cX4_close 149 = .ok (.aload_n 0, 1) := by decide +kernel
theorem dX4_close_150 : decode cX4_close 150 = .ok (.invokevirtual 83, 3) := by decide +kernel
theorem dX4_close_153 : decode cX4_close 153 = .ok (.ifCond .ne 5, 3) := by decide +kernel
theorem dX4_close_156 : decode cX4_close 156 = .ok (.iconst (-1), 1) := by decide +kernel
theorem dX4_close_157 : decode cX4_close 157 = .ok (.ireturn, 1) := by decide +kernel
theorem dX4_close_158 : decode cX4_close 158 = .ok (.iload 4, 2) := by decide +kernel
theorem dX4_close_160 : decode cX4_close 160 = .ok (.ifCond .le 11, 3) := by decide +kernel
theorem dX4_close_163 : decode cX4_close 163 = .ok (.aload_n 0, 1) := by decide +kernel
theorem dX4_close_164 : decode cX4_close 164 = .ok (.getfield 27, 3) := by decide +kernel
theorem dX4_close_167 : decode cX4_close 167 = .ok (.iload 4, 2) := by decide +kernel
theorem dX4_close_169 : decode cX4_close 169 = .ok (.iconst 0, 1) := by decide +kernel
theorem dX4_close_170 : decode cX4_close 170 = .ok (.iastore, 1) := by decide +kernel
theorem dX4_close_171 : decode cX4_close 171 = .ok (.aload_n 0, 1) := by decide +kernel
theorem dX4_close_172 : decode cX4_close 172 = .ok (.getfield 27, 3) := by decide +kernel
theorem dX4_close_175 : decode cX4_close 175 = .ok (.iload_n 3, 1) := by decide +kernel
theorem dX4_close_176 : decode cX4_close 176 = .ok (.iconst 2, 1) := by decide +kernel
theorem dX4_close_177 : decode cX4_close 177 = .ok (.iastore, 1) := by decide +kernel
theorem dX4_close_178 : decode cX4_close 178 = .ok (.iload 5, 2) := by decide +kernel
theorem dX4_close_180 : decode cX4_close 180 = .ok (.ireturn, 1) := by decide +kernel
set_option maxRecDepth 20000 in
theorem ggX4_vanish_X4_lengthOf : GoodIn wsX4_vanish wsX4_lengthOf := goodIn_r _ [6, 7, 34, 35, 36, 37, 38, 39, 40, 41, 42, 43, 44, 45, 46, 47, 48, 49, 50, 51, 52, 53] (by decide +kernel) (by decide +kernel)
set_option maxRecDepth 20000 in
theorem gX4_vanish_X4_lengthOf : GoodIn wsX4_vanish (wsV RX4 89 RX4 yX4_lengthOf wsX4_lengthOf) := goodIn_app (goodIn_of _ (by decide +kernel)) ggX4_vanish_X4_lengthOf
set_option maxRecDepth 20000 in
theorem ggX4_vanish_X4_lay : GoodIn wsX4_vanish wsX4_lay := goodIn_r _ [11, 12, 7, 34, 35, 36, 37, 38, 39, 40, 41, 42, 43, 44, 45, 46, 47, 48, 49, 50, 51, 52, 53] (by decide +kernel) (by decide +kernel)
set_option maxRecDepth 20000 in
theorem gX4_vanish_X4_lay : GoodIn wsX4_vanish (wsV RX4 80 RX4 yX4_lay wsX4_lay) := goodIn_app (goodIn_of _ (by decide +kernel)) ggX4_vanish_X4_lay
set_option maxRecDepth 20000 in
theorem ggX4_vanish_X4_giveUp : GoodIn wsX4_vanish wsX4_giveUp := goodIn_r _ [16, 7, 12, 34, 35, 36, 37, 38, 39, 40, 41, 42, 43, 44, 45, 46, 47, 48, 49, 50, 51, 52, 53] (by decide +kernel) (by decide +kernel)
set_option maxRecDepth 20000 in
theorem gX4_vanish_X4_giveUp : GoodIn wsX4_vanish (wsV RX4 98 RX4 yX4_giveUp wsX4_giveUp) := goodIn_app (goodIn_of _ (by decide +kernel)) ggX4_vanish_X4_giveUp
set_option maxRecDepth 20000 in
theorem ggX4_vanish_X4_change : GoodIn wsX4_vanish wsX4_change := goodIn_r _ [20, 7, 12, 21, 22, 23, 5, 24, 25, 26, 27, 28, 29, 30, 31, 32, 33, 34, 35, 36, 37, 38, 39, 40, 41, 42, 43, 44, 45, 46, 47, 48, 49, 50, 51, 52, 53] (by decide +kernel) (by decide +kernel)
set_option maxRecDepth 20000 in
theorem gX4_vanish_X4_change : GoodIn wsX4_vanish (wsV RX4 83 RX4 yX4_change wsX4_change) := goodIn_app (goodIn_of _ (by decide +kernel)) ggX4_vanish_X4_change
theorem dX4_vanish_0 : decode cX4_vanish 0 = .ok (.aload_n 0, 1) := by decide +kernel
theorem dX4_vanish_1 : decode cX4_vanish 1 = .ok (.iload_n 1, 1) := by decide +kernel
theorem dX4_vanish_2 : decode cX4_vanish 2 = .ok (.invokevirtual 89, 3) := by decide +kernel
theorem dX4_vanish_5 : decode cX4_vanish 5 = .ok (.istore_n 2, 1) := by decide +kernel
theorem dX4_vanish_6 : decode cX4_vanish 6 = .ok (.aload_n 0, 1) := by decide +kernel
theorem dX4_vanish_7 : decode cX4_vanish 7 = .ok (.invokevirtual 80, 3) := by decide +kernel
theorem dX4_vanish_10 : decode cX4_vanish 10 = .ok (.aload_n 0, 1) := by decide +kernel
theorem dX4_vanish_11 : decode cX4_vanish 11 = .ok (.iload_n 1, 1) := by decide +kernel
theorem dX4_vanish_12 : decode cX4_vanish 12 = .ok (.iconst 0, 1) := by decide +kernel
theorem dX4_vanish_13 : decode cX4_vanish 13 = .ok (.invokevirtual 98, 3) := by decide +kernel
theorem dX4_vanish_16 : decode cX4_vanish 16 = .ok (.aload_n 0, 1) := by decide +kernel
theorem dX4_vanish_17 : decode cX4_vanish 17 = .ok (.invokevirtual 83, 3) := by decide +kernel
theorem dX4_vanish_20 : decode cX4_vanish 20 = .ok (.ifCond .ne 5, 3) := by decide +kernel
theorem dX4_vanish_23 : decode cX4_vanish 23 = .ok (.iconst (-1), 1) := by decide +kernel
theorem dX4_vanish_24 : decode cX4_vanish 24 = .ok (.ireturn, 1) := by decide +kernel
theorem dX4_vanish_25 : decode cX4_vanish 25 = .ok (.aload_n 0, 1) := by decide +kernel
theorem dX4_vanish_26 : decode cX4_vanish 26 = .ok (.getfield 27, 3) := by decide +kernel
theorem dX4_vanish_29 : decode cX4_vanish 29 = .ok (.iload_n 1, 1) := by decide +kernel
theorem dX4_vanish_30 : decode cX4_vanish 30 = .ok (.iconst 0, 1) := by decide +kernel
theorem dX4_vanish_31 : decode cX4_vanish 31 = .ok (.iastore, 1) := by decide +kernel
theorem dX4_vanish_32 : decode cX4_vanish 32 = .ok (.iload_n 2, 1) := by decide +kernel
theorem dX4_vanish_33 : decode cX4_vanish 33 = .ok (.ireturn, 1) := by decide +kernel
set_option maxRecDepth 20000 in
theorem ggX4_purge_X4_byHandle : GoodIn wsX4_purge wsX4_byHandle := goodIn_r _ [7, 8, 9, 44, 45, 46, 47, 48, 49, 50, 51, 52, 53, 54, 55, 56, 57, 58, 59, 60, 61, 62, 63] (by decide +kernel) (by decide +kernel)
set_option maxRecDepth 20000 in
theorem gX4_purge_X4_byHandle : GoodIn wsX4_purge (wsV RX4 86 RX4 yX4_byHandle wsX4_byHandle) := goodIn_app (goodIn_of _ (by decide +kernel)) ggX4_purge_X4_byHandle
set_option maxRecDepth 20000 in
theorem ggX4_purge_X4_vanish : GoodIn wsX4_purge wsX4_vanish := goodIn_r _ [13, 8, 14, 15, 16, 6, 17, 18, 19, 20, 21, 22, 23, 24, 25, 26, 27, 28, 29, 30, 31, 32, 33, 34, 35, 36, 37, 38, 39, 40, 1, 41, 42, 43, 44, 45, 46, 47, 48, 49, 50, 51, 52, 53, 54, 55, 56, 57, 58, 59, 60, 61, 62, 63] (by decide +kernel) (by decide +kernel)
set_option maxRecDepth 20000 in
theorem gX4_purge_X4_vanish : GoodIn wsX4_purge (wsV RX4 102 RX4 yX4_vanish wsX4_vanish) := goodIn_app (goodIn_of _ (by decide +kernel)) ggX4_purge_X4_vanish
theorem dX4_purge_0 : decode cX4_purge 0 = .ok (.aload_n 0, 1) := by decide +kernel
theorem dX4_purge_1 : decode cX4_purge 1 = .ok (.getfield 7, 3) := by decide +kernel
theorem dX4_purge_4 : decode cX4_purge 4 = .ok (.ifCond .eq 11, 3) := by decide +kernel
theorem dX4_purge_7 : decode cX4_purge 7 = .ok (.aload_n 0, 1) := by decide +kernel
theorem dX4_purge_8 : decode cX4_purge 8 = .ok (.iload_n 1, 1) := by decide +kernel
theorem dX4_purge_9 : decode cX4_purge 9 = .ok (.invokevirtual 86, 3) := by decide +kernel
theorem dX4_purge_12 : decode cX4_purge 12 = .ok (.goto 4, 3) := by decide +kernel
theorem dX4_purge_15 : decode cX4_purge 15 = .ok (.iconst 0, 1) := by decide +kernel
theorem dX4_purge_16 : decode cX4_purge 16 = .ok (.istore_n 2, 1) := by decide +kernel
theorem dX4_purge_17 : decode cX4_purge 17 = .ok (.aload_n 0, 1) := by decide +kernel
theorem dX4_purge_18 : decode cX4_purge 18 = .ok (.aload_n 0, 1) := by decide +kernel
theorem dX4_purge_19 : decode cX4_purge 19 = .ok (.getfield 7, 3) := by decide +kernel
theorem dX4_purge_22 : decode cX4_purge 22 = .ok (.ifCond .ne 7, 3) := by decide +kernel
theorem dX4_purge_25 : decode cX4_purge 25 = .ok (.iconst 1, 1) := by decide +kernel
theorem dX4_purge_26 : decode cX4_purge 26 = .ok (.goto 12, 3) := by decide +kernel
theorem dX4_purge_29 : decode cX4_purge 29 = .ok (.iload_n 2, 1) := by decide +kernel
theorem dX4_purge_30 : decode cX4_purge 30 = .ok (.ifCond .ne 7, 3) := by decide +kernel
theorem dX4_purge_33 : decode cX4_purge 33 = .ok (.iconst 2, 1) := by decide +kernel
theorem dX4_purge_34 : decode cX4_purge 34 = .ok (.goto 4, 3) := by decide +kernel
theorem dX4_purge_37 : decode cX4_purge 37 = .ok (.iconst 0, 1) := by decide +kernel
theorem dX4_purge_38 : decode cX4_purge 38 = .ok (.putfield 36, 3) := by decide +kernel
theorem dX4_purge_41 : decode cX4_purge 41 = .ok (.aload_n 0, 1) := by decide +kernel
theorem dX4_purge_42 : decode cX4_purge 42 = .ok (.getfield 36, 3) := by decide +kernel
theorem dX4_purge_45 : decode cX4_purge 45 = .ok (.ifCond .le 7, 3) := by decide +kernel
theorem dX4_purge_48 : decode cX4_purge 48 = .ok (.iconst 0, 1) := by decide +kernel
theorem dX4_purge_49 : decode cX4_purge 49 = .ok (.goto 8, 3) := by decide +kernel
theorem dX4_purge_52 : decode cX4_purge 52 = .ok (.aload_n 0, 1) := by decide +kernel
theorem dX4_purge_53 : decode cX4_purge 53 = .ok (.iload_n 2, 1) := by decide +kernel
theorem dX4_purge_54 : decode cX4_purge 54 = .ok (.invokevirtual 102, 3) := by decide +kernel
theorem dX4_purge_57 : decode cX4_purge 57 = .ok (.ireturn, 1) := by decide +kernel
set_option maxRecDepth 20000 in
theorem ggX4_delete_X4_permanent : GoodIn wsX4_delete wsX4_permanent := goodIn_r _ [7, 8, 9, 44, 45, 46, 47, 48, 49, 50, 51, 52, 53, 54, 55, 56, 57, 58, 59, 60, 61, 62, 63] (by decide +kernel) (by decide +kernel)
set_option maxRecDepth 20000 in
theorem gX4_delete_X4_permanent : GoodIn wsX4_delete (wsV RX4 95 RX4 yX4_permanent wsX4_permanent) := goodIn_app (goodIn_of _ (by decide +kernel)) ggX4_delete_X4_permanent
set_option maxRecDepth 20000 in
theorem ggX4_delete_X4_vanish : GoodIn wsX4_delete wsX4_vanish := goodIn_r _ [13, 8, 14, 15, 16, 6, 17, 18, 19, 20, 21, 22, 23, 24, 25, 26, 27, 28, 29, 30, 31, 32, 33, 34, 35, 36, 37, 38, 39, 40, 1, 41, 42, 43, 44, 45, 46, 47, 48, 49, 50, 51, 52, 53, 54, 55, 56, 57, 58, 59, 60, 61, 62, 63] (by decide +kernel) (by decide +kernel)
set_option maxRecDepth 20000 in
theorem gX4_delete_X4_vanish : GoodIn wsX4_delete (wsV RX4 102 RX4 yX4_vanish wsX4_vanish) := goodIn_app (goodIn_of _ (by decide +kernel)) ggX4_delete_X4_vanish
theorem dX4_delete_0 : decode cX4_delete 0 = .ok (.aload_n 0, 1) := by decide +kernel
theorem dX4_delete_1 : decode cX4_delete 1 = .ok (.getfield 7, 3) := by decide +kernel
theorem dX4_delete_4 : decode cX4_delete 4 = .ok (.ifCond .eq 11, 3) := by decide +kernel
theorem dX4_delete_7 : decode cX4_delete 7 = .ok (.aload_n 0, 1) := by decide +kernel
theorem dX4_delete_8 : decode cX4_delete 8 = .ok (.iload_n 1, 1) := by decide +kernel
theorem dX4_delete_9 : decode cX4_delete 9 = .ok (.invokevirtual 95, 3) := by decide +kernel
theorem dX4_delete_12 : decode cX4_delete 12 = .ok (.goto 4, 3) := by decide +kernel
theorem dX4_delete_15 : decode cX4_delete 15 = .ok (.iconst 0, 1) := by decide +kernel
theorem dX4_delete_16 : decode cX4_delete 16 = .ok (.istore_n 2, 1) := by decide +kernel
theorem dX4_delete_17 : decode cX4_delete 17 = .ok (.aload_n 0, 1) := by decide +kernel
theorem dX4_delete_18 : decode cX4_delete 18 = .ok (.aload_n 0, 1) := by decide +kernel
theorem dX4_delete_19 : decode cX4_delete 19 = .ok (.getfield 7, 3) := by decide +kernel
theorem dX4_delete_22 : decode cX4_delete 22 = .ok (.ifCond .ne 7, 3) := by decide +kernel
theorem dX4_delete_25 : decode cX4_delete 25 = .ok (.iconst 1, 1) := by decide +kernel
theorem dX4_delete_26 : decode cX4_delete 26 = .ok (.goto 12, 3) := by decide +kernel
theorem dX4_delete_29 : decode cX4_delete 29 = .ok (.iload_n 2, 1) := by decide +kernel
theorem dX4_delete_30 : decode cX4_delete 30 = .ok (.ifCond .ne 7, 3) := by decide +kernel
theorem dX4_delete_33 : decode cX4_delete 33 = .ok (.iconst 2, 1) := by decide +kernel
theorem dX4_delete_34 : decode cX4_delete 34 = .ok (.goto 4, 3) := by decide +kernel
theorem dX4_delete_37 : decode cX4_delete 37 = .ok (.iconst 0, 1) := by decide +kernel
theorem dX4_delete_38 : decode cX4_delete 38 = .ok (.putfield 36, 3) := by decide +kernel
theorem dX4_delete_41 : decode cX4_delete 41 = .ok (.aload_n 0, 1) := by decide +kernel
theorem dX4_delete_42 : decode cX4_delete 42 = .ok (.getfield 36, 3) := by decide +kernel
theorem dX4_delete_45 : decode cX4_delete 45 = .ok (.ifCond .le 7, 3) := by decide +kernel
theorem dX4_delete_48 : decode cX4_delete 48 = .ok (.iconst 0, 1) := by decide +kernel
theorem dX4_delete_49 : decode cX4_delete 49 = .ok (.goto 8, 3) := by decide +kernel
theorem dX4_delete_52 : decode cX4_delete 52 = .ok (.aload_n 0, 1) := by decide +kernel
theorem dX4_delete_53 : decode cX4_delete 53 = .ok (.iload_n 2, 1) := by decide +kernel
theorem dX4_delete_54 : decode cX4_delete 54 = .ok (.invokevirtual 102, 3) := by decide +kernel
theorem dX4_delete_57 : decode cX4_delete 57 = .ok (.ireturn, 1) := by decide +kernel
set_option maxRecDepth 20000 in
theorem ggX4_rename_X4_isName : GoodIn wsX4_rename wsX4_isName := goodIn_r _ [7] (by decide +kernel) (by decide +kernel)
set_option maxRecDepth 20000 in
theorem gX4_rename_X4_isName : GoodIn wsX4_rename (va_wsS RX4 66 yX4_isName wsX4_isName) := goodIn_app (goodIn_of _ (by decide +kernel)) ggX4_rename_X4_isName
set_option maxRecDepth 20000 in
theorem ggX4_rename_X4_permanent : GoodIn wsX4_rename wsX4_permanent := goodIn_r _ [11, 12, 3, 35, 36, 37, 38, 39, 40, 41, 42, 43, 44, 45, 46, 47, 48, 49, 50, 51, 52, 53, 54] (by decide +kernel) (by decide +kernel)
set_option maxRecDepth 20000 in
theorem gX4_rename_X4_permanent : GoodIn wsX4_rename (wsV RX4 95 RX4 yX4_permanent wsX4_permanent) := goodIn_app (goodIn_of _ (by decide +kernel)) ggX4_rename_X4_permanent
set_option maxRecDepth 20000 in
theorem ggX4_rename_X4_lay : GoodIn wsX4_rename wsX4_lay := goodIn_r _ [16, 17, 18, 35, 36, 37, 38, 39, 40, 41, 42, 43, 44, 45, 46, 47, 48, 49, 50, 51, 52, 53, 54] (by decide +kernel) (by decide +kernel)
set_option maxRecDepth 20000 in
theorem gX4_rename_X4_lay : GoodIn wsX4_rename (wsV RX4 80 RX4 yX4_lay wsX4_lay) := goodIn_app (goodIn_of _ (by decide +kernel)) ggX4_rename_X4_lay
set_option maxRecDepth 20000 in
theorem ggX4_rename_X4_change : GoodIn wsX4_rename wsX4_change := goodIn_r _ [22, 18, 17, 23, 24, 25, 6, 26, 27, 28, 29, 30, 31, 1, 32, 33, 34, 35, 36, 37, 38, 39, 40, 41, 42, 43, 44, 45, 46, 47, 48, 49, 50, 51, 52, 53, 54] (by decide +kernel) (by decide +kernel)
set_option maxRecDepth 20000 in
theorem gX4_rename_X4_change : GoodIn wsX4_rename (wsV RX4 83 RX4 yX4_change wsX4_change) := goodIn_app (goodIn_of _ (by decide +kernel)) ggX4_rename_X4_change
theorem dX4_rename_0 : decode cX4_rename 0 = .ok (.aload_n 0, 1) := by decide +kernel
theorem dX4_rename_1 : decode cX4_rename 1 = .ok (.aload_n 0, 1) := by decide +kernel
theorem dX4_rename_2 : decode cX4_rename 2 = .ok (.getfield 7, 3) := by decide +kernel
theorem dX4_rename_5 : decode cX4_rename 5 = .ok (.ifCond .ne 7, 3) := by decide +kernel
theorem dX4_rename_8 : decode cX4_rename 8 = .ok (.iconst 1, 1) := by decide +kernel
theorem dX4_rename_9 : decode cX4_rename 9 = .ok (.goto 39, 3) := by decide +kernel
theorem dX4_rename_12 : decode cX4_rename 12 = .ok (.iload_n 2, 1) := by decide +kernel
theorem dX4_rename_13 : decode cX4_rename 13 = .ok (.invokestatic 66, 3) := by decide +kernel
theorem dX4_rename_16 : decode cX4_rename 16 = .ok (.ifCond .ne 7, 3) := by decide +kernel
theorem dX4_rename_19 : decode cX4_rename 19 = .ok (.iconst 2, 1) := by decide +kernel
theorem dX4_rename_20 : decode cX4_rename 20 = .ok (.goto 28, 3) := by decide +kernel
theorem dX4_rename_23 : decode cX4_rename 23 = .ok (.aload_n 0, 1) := by decide +kernel
theorem dX4_rename_24 : decode cX4_rename 24 = .ok (.iload_n 1, 1) := by decide +kernel
theorem dX4_rename_25 : decode cX4_rename 25 = .ok (.invokevirtual 95, 3) := by decide +kernel
theorem dX4_rename_28 : decode cX4_rename 28 = .ok (.ifCond .ne 7, 3) := by decide +kernel
theorem dX4_rename_31 : decode cX4_rename 31 = .ok (.iconst 3, 1) := by decide +kernel
theorem dX4_rename_32 : decode cX4_rename 32 = .ok (.goto 16, 3) := by decide +kernel
theorem dX4_rename_35 : decode cX4_rename 35 = .ok (.aload_n 0, 1) := by decide +kernel
theorem dX4_rename_36 : decode cX4_rename 36 = .ok (.iload_n 2, 1) := by decide +kernel
theorem dX4_rename_37 : decode cX4_rename 37 = .ok (.invokevirtual 95, 3) := by decide +kernel
theorem dX4_rename_40 : decode cX4_rename 40 = .ok (.ifCond .le 7, 3) := by decide +kernel
theorem dX4_rename_43 : decode cX4_rename 43 = .ok (.iconst 4, 1) := by decide +kernel
theorem dX4_rename_44 : decode cX4_rename 44 = .ok (.goto 4, 3) := by decide +kernel
theorem dX4_rename_47 : decode cX4_rename 47 = .ok (.iconst 0, 1) := by decide +kernel
theorem dX4_rename_48 : decode cX4_rename 48 = .ok (.putfield 36, 3) := by decide +kernel
theorem dX4_rename_51 : decode cX4_rename 51 = .ok (.aload_n 0, 1) := by decide +kernel
theorem dX4_rename_52 : decode cX4_rename 52 = .ok (.getfield 36, 3) := by decide +kernel
theorem dX4_rename_55 : decode cX4_rename 55 = .ok (.ifCond .le 5, 3) := by decide +kernel
theorem dX4_rename_58 : decode cX4_rename 58 = .ok (.iconst 0, 1) := by decide +kernel
theorem dX4_rename_59 : decode cX4_rename 59 = .ok (.ireturn, 1) := by decide +kernel
theorem dX4_rename_60 : decode cX4_rename 60 = .ok (.aload_n 0, 1) := by decide +kernel
theorem dX4_rename_61 : decode cX4_rename 61 = .ok (.iload_n 1, 1) := by decide +kernel
theorem dX4_rename_62 : decode cX4_rename 62 = .ok (.invokevirtual 95, 3) := by decide +kernel
theorem dX4_rename_65 : decode cX4_rename 65 = .ok (.istore_n 3, 1) := by decide +kernel
theorem dX4_rename_66 : decode cX4_rename 66 = .ok (.aload_n 0, 1) := by decide +kernel
theorem dX4_rename_67 : decode cX4_rename 67 = .ok (.invokevirtual 80, 3) := by decide +kernel
theorem dX4_rename_70 : decode cX4_rename 70 = .ok (.aload_n 0, 1) := by decide +kernel
theorem dX4_rename_71 : decode cX4_rename 71 = .ok (.invokevirtual 83, 3) := by decide +kernel
theorem dX4_rename_74 : decode cX4_rename 74 = .ok (.ifCond .ne 5, 3) := by decide +kernel
theorem dX4_rename_77 : decode cX4_rename 77 = .ok (.iconst (-1), 1) := by decide +kernel
theorem dX4_rename_78 : decode cX4_rename 78 = .ok (.ireturn, 1) := by decide +kernel
theorem dX4_rename_79 : decode cX4_rename 79 = .ok (.aload_n 0, 1) := by decide +kernel
theorem dX4_rename_80 : decode cX4_rename 80 = .ok (.getfield 30, 3) := by decide +kernel
theorem dX4_rename_83 : decode cX4_rename 83 = .ok (.iload_n 3, 1) := by decide +kernel
theorem dX4_rename_84 : decode cX4_rename 84 = .ok (.iload_n 2, 1) := by decide +kernel
theorem dX4_rename_85 : decode cX4_rename 85 = .ok (.iastore, 1) := by decide +kernel
theorem dX4_rename_86 : decode cX4_rename 86 = .ok (.iconst 0, 1) := by decide +kernel
theorem dX4_rename_87 : decode cX4_rename 87 = .ok (.ireturn, 1) := by decide +kernel
set_option maxRecDepth 20000 in
theorem ggX4_read_X4_permanent : GoodIn wsX4_read wsX4_permanent := goodIn_r _ [8, 9, 10, 20, 21, 22, 23, 24, 25, 26, 27, 28, 29, 30, 31, 32, 33, 34, 35, 36, 37, 38, 39] (by decide +kernel) (by decide +kernel)
set_option maxRecDepth 20000 in
theorem gX4_read_X4_permanent : GoodIn wsX4_read (wsV RX4 95 RX4 yX4_permanent wsX4_permanent) := goodIn_app (goodIn_of _ (by decide +kernel)) ggX4_read_X4_permanent
set_option maxRecDepth 20000 in
theorem ggX4_read_X4_lengthOf : GoodIn wsX4_read wsX4_lengthOf := goodIn_r _ [14, 15, 20, 21, 22, 23, 24, 25, 26, 27, 28, 29, 30, 31, 32, 33, 34, 35, 36, 37, 38, 39] (by decide +kernel) (by decide +kernel)
set_option maxRecDepth 20000 in
theorem gX4_read_X4_lengthOf : GoodIn wsX4_read (wsV RX4 89 RX4 yX4_lengthOf wsX4_lengthOf) := goodIn_app (goodIn_of _ (by decide +kernel)) ggX4_read_X4_lengthOf
set_option maxRecDepth 20000 in
theorem ggX4_read_X4_beginOf : GoodIn wsX4_read wsX4_beginOf := goodIn_r _ [19, 15, 20, 21, 22, 23, 24, 25, 26, 27, 28, 29, 30, 31, 32, 33, 34, 35, 36, 37, 38, 39] (by decide +kernel) (by decide +kernel)
set_option maxRecDepth 20000 in
theorem gX4_read_X4_beginOf : GoodIn wsX4_read (wsV RX4 92 RX4 yX4_beginOf wsX4_beginOf) := goodIn_app (goodIn_of _ (by decide +kernel)) ggX4_read_X4_beginOf
theorem dX4_read_0 : decode cX4_read 0 = .ok (.aload_n 0, 1) := by decide +kernel
theorem dX4_read_1 : decode cX4_read 1 = .ok (.getfield 7, 3) := by decide +kernel
theorem dX4_read_4 : decode cX4_read 4 = .ok (.ifCond .eq 11, 3) := by decide +kernel
theorem dX4_read_7 : decode cX4_read 7 = .ok (.aload_n 0, 1) := by decide +kernel
theorem dX4_read_8 : decode cX4_read 8 = .ok (.iload_n 1, 1) := by decide +kernel
theorem dX4_read_9 : decode cX4_read 9 = .ok (.invokevirtual 95, 3) := by decide +kernel
theorem dX4_read_12 : decode cX4_read 12 = .ok (.goto 4, 3) := by decide +kernel
theorem dX4_read_15 : decode cX4_read 15 = .ok (.iconst 0, 1) := by decide +kernel
theorem dX4_read_16 : decode cX4_read 16 = .ok (.istore_n 3, 1) := by decide +kernel
theorem dX4_read_17 : decode cX4_read 17 = .ok (.aload_n 0, 1) := by decide +kernel
theorem dX4_read_18 : decode cX4_read 18 = .ok (.aload_n 0, 1) := by decide +kernel
theorem dX4_read_19 : decode cX4_read 19 = .ok (.getfield 7, 3) := by decide +kernel
theorem dX4_read_22 : decode cX4_read 22 = .ok (.ifCond .ne 7, 3) := by decide +kernel
theorem dX4_read_25 : decode cX4_read 25 = .ok (.iconst 1, 1) := by decide +kernel
theorem dX4_read_26 : decode cX4_read 26 = .ok (.goto 29, 3) := by decide +kernel
theorem dX4_read_29 : decode cX4_read 29 = .ok (.iload_n 3, 1) := by decide +kernel
theorem dX4_read_30 : decode cX4_read 30 = .ok (.ifCond .ne 7, 3) := by decide +kernel
theorem dX4_read_33 : decode cX4_read 33 = .ok (.iconst 2, 1) := by decide +kernel
theorem dX4_read_34 : decode cX4_read 34 = .ok (.goto 21, 3) := by decide +kernel
theorem dX4_read_37 : decode cX4_read 37 = .ok (.iload_n 2, 1) := by decide +kernel
theorem dX4_read_38 : decode cX4_read 38 = .ok (.ifCond .lt 12, 3) := by decide +kernel
theorem dX4_read_41 : decode cX4_read 41 = .ok (.iload_n 2, 1) := by decide +kernel
theorem dX4_read_42 : decode cX4_read 42 = .ok (.aload_n 0, 1) := by decide +kernel
theorem dX4_read_43 : decode cX4_read 43 = .ok (.iload_n 3, 1) := by decide +kernel
theorem dX4_read_44 : decode cX4_read 44 = .ok (.invokevirtual 89, 3) := by decide +kernel
theorem dX4_read_47 : decode cX4_read 47 = .ok (.if_icmp .lt 7, 3) := by decide +kernel
theorem dX4_read_50 : decode cX4_read 50 = .ok (.iconst 3, 1) := by decide +kernel
theorem dX4_read_51 : decode cX4_read 51 = .ok (.goto 4, 3) := by decide +kernel
theorem dX4_read_54 : decode cX4_read 54 = .ok (.iconst 0, 1) := by decide +kernel
theorem dX4_read_55 : decode cX4_read 55 = .ok (.putfield 36, 3) := by decide +kernel
theorem dX4_read_58 : decode cX4_read 58 = .ok (.aload_n 0, 1) := by decide +kernel
theorem dX4_read_59 : decode cX4_read 59 = .ok (.getfield 36, 3) := by decide +kernel
theorem dX4_read_62 : decode cX4_read 62 = .ok (.ifCond .le 7, 3) := by decide +kernel
theorem dX4_read_65 : decode cX4_read 65 = .ok (.iconst 0, 1) := by decide +kernel
theorem dX4_read_66 : decode cX4_read 66 = .ok (.goto 15, 3) := by decide +kernel
theorem dX4_read_69 : decode cX4_read 69 = .ok (.aload_n 0, 1) := by decide +kernel
theorem dX4_read_70 : decode cX4_read 70 = .ok (.getfield 17, 3) := by decide +kernel
theorem dX4_read_73 : decode cX4_read 73 = .ok (.aload_n 0, 1) := by decide +kernel
theorem dX4_read_74 : decode cX4_read 74 = .ok (.iload_n 3, 1) := by decide +kernel
theorem dX4_read_75 : decode cX4_read 75 = .ok (.invokevirtual 92, 3) := by decide +kernel
theorem dX4_read_78 : decode cX4_read 78 = .ok (.iload_n 2, 1) := by decide +kernel
theorem dX4_read_79 : decode cX4_read 79 = .ok (.iadd, 1) := by decide +kernel
theorem dX4_read_80 : decode cX4_read 80 = .ok (.iaload, 1) := by decide +kernel
theorem dX4_read_81 : decode cX4_read 81 = .ok (.ireturn, 1) := by decide +kernel
set_option maxRecDepth 20000 in
theorem ggX4_findMover_X4_runFrom : GoodIn wsX4_findMover wsX4_runFrom := goodIn_r _ [9, 2, 10, 11, 12, 13, 14, 15, 16, 17, 18, 19, 20, 21, 22, 23, 24, 25, 26, 27, 28, 29] (by decide +kernel) (by decide +kernel)
set_option maxRecDepth 20000 in
theorem gX4_findMover_X4_runFrom : GoodIn wsX4_findMover (wsV RX4 59 RX4 yX4_runFrom wsX4_runFrom) := goodIn_app (goodIn_of _ (by decide +kernel)) ggX4_findMover_X4_runFrom
theorem dX4_findMover_0 : decode cX4_findMover 0 = .ok (.aload_n 0, 1) := by decide +kernel
theorem dX4_findMover_1 : decode cX4_findMover 1 = .ok (.iconst 0, 1) := by decide +kernel
theorem dX4_findMover_2 : decode cX4_findMover 2 = .ok (.putfield 105, 3) := by decide +kernel
theorem dX4_findMover_5 : decode cX4_findMover 5 = .ok (.iconst 0, 1) := by decide +kernel
theorem dX4_findMover_6 : decode cX4_findMover 6 = .ok (.istore_n 1, 1) := by decide +kernel
theorem dX4_findMover_7 : decode cX4_findMover 7 = .ok (.iload_n 1, 1) := by decide +kernel
theorem dX4_findMover_8 : decode cX4_findMover 8 = .ok (.bipush 48, 2) := by decide +kernel
theorem dX4_findMover_10 : decode cX4_findMover 10 = .ok (.if_icmp .ge 64, 3) := by decide +kernel
theorem dX4_findMover_13 : decode cX4_findMover 13 = .ok (.aload_n 0, 1) := by decide +kernel
theorem dX4_findMover_14 : decode cX4_findMover 14 = .ok (.getfield 105, 3) := by decide +kernel
theorem dX4_findMover_17 : decode cX4_findMover 17 = .ok (.ifCond .ne 57, 3) := by decide +kernel
theorem dX4_findMover_20 : decode cX4_findMover 20 = .ok (.aload_n 0, 1) := by decide +kernel
theorem dX4_findMover_21 : decode cX4_findMover 21 = .ok (.iload_n 1, 1) := by decide +kernel
theorem dX4_findMover_22 : decode cX4_findMover 22 = .ok (.invokevirtual 59, 3) := by decide +kernel
theorem dX4_findMover_25 : decode cX4_findMover 25 = .ok (.istore_n 2, 1) := by decide +kernel
theorem dX4_findMover_26 : decode cX4_findMover 26 = .ok (.aload_n 0, 1) := by decide +kernel
theorem dX4_findMover_27 : decode cX4_findMover 27 = .ok (.getfield 21, 3) := by decide +kernel
theorem dX4_findMover_30 : decode cX4_findMover 30 = .ok (.iload_n 1, 1) := by decide +kernel
theorem dX4_findMover_31 : decode cX4_findMover 31 = .ok (.iaload, 1) := by decide +kernel
theorem dX4_findMover_32 : decode cX4_findMover 32 = .ok (.ifCond .ne 35, 3) := by decide +kernel
theorem dX4_findMover_35 : decode cX4_findMover 35 = .ok (.iload_n 1, 1) := by decide +kernel
theorem dX4_findMover_36 : decode cX4_findMover 36 = .ok (.iload_n 2, 1) := by decide +kernel
theorem dX4_findMover_37 : decode cX4_findMover 37 = .ok (.iadd, 1) := by decide +kernel
theorem dX4_findMover_38 : decode cX4_findMover 38 = .ok (.bipush 48, 2) := by decide +kernel
theorem dX4_findMover_40 : decode cX4_findMover 40 = .ok (.if_icmp .ge 27, 3) := by decide +kernel
theorem dX4_findMover_43 : decode cX4_findMover 43 = .ok (.aload_n 0, 1) := by decide +kernel
theorem dX4_findMover_44 : decode cX4_findMover 44 = .ok (.aload_n 0, 1) := by decide +kernel
theorem dX4_findMover_45 : decode cX4_findMover 45 = .ok (.getfield 21, 3) := by decide +kernel
theorem dX4_findMover_48 : decode cX4_findMover 48 = .ok (.iload_n 1, 1) := by decide +kernel
theorem dX4_findMover_49 : decode cX4_findMover 49 = .ok (.iload_n 2, 1) := by decide +kernel
theorem dX4_findMover_50 : decode cX4_findMover 50 = .ok (.iadd, 1) := by decide +kernel
theorem dX4_findMover_51 : decode cX4_findMover 51 = .ok (.iaload, 1) := by decide +kernel
theorem dX4_findMover_52 : decode cX4_findMover 52 = .ok (.putfield 105, 3) := by decide +kernel
theorem dX4_findMover_55 : decode cX4_findMover 55 = .ok (.aload_n 0, 1) := by decide +kernel
theorem dX4_findMover_56 : decode cX4_findMover 56 = .ok (.iload_n 1, 1) := by decide +kernel
theorem dX4_findMover_57 : decode cX4_findMover 57 = .ok (.iload_n 2, 1) := by decide +kernel
theorem dX4_findMover_58 : decode cX4_findMover 58 = .ok (.iadd, 1) := by decide +kernel
theorem dX4_findMover_59 : decode cX4_findMover 59 = .ok (.putfield 108, 3) := by decide +kernel
theorem dX4_findMover_62 : decode cX4_findMover 62 = .ok (.aload_n 0, 1) := by decide +kernel
theorem dX4_findMover_63 : decode cX4_findMover 63 = .ok (.iload_n 2, 1) := by decide +kernel
theorem dX4_findMover_64 : decode cX4_findMover 64 = .ok (.putfield 111, 3) := by decide +kernel
theorem dX4_findMover_67 : decode cX4_findMover 67 = .ok (.iload_n 1, 1) := by decide +kernel
theorem dX4_findMover_68 : decode cX4_findMover 68 = .ok (.iload_n 2, 1) := by decide +kernel
theorem dX4_findMover_69 : decode cX4_findMover 69 = .ok (.iadd, 1) := by decide +kernel
theorem dX4_findMover_70 : decode cX4_findMover 70 = .ok (.istore_n 1, 1) := by decide +kernel
theorem dX4_findMover_71 : decode cX4_findMover 71 = .ok (.goto (-64), 3) := by decide +kernel
theorem dX4_findMover_74 : decode cX4_findMover 74 = .ok (.aload_n 0, 1) := by decide +kernel
theorem dX4_findMover_75 : decode cX4_findMover 75 = .ok (.getfield 105, 3) := by decide +kernel
theorem dX4_findMover_78 : decode cX4_findMover 78 = .ok (.ifCond .le 7, 3) := by decide +kernel
theorem dX4_findMover_81 : decode cX4_findMover 81 = .ok (.iconst 1, 1) := by decide +kernel
theorem dX4_findMover_82 : decode cX4_findMover 82 = .ok (.goto 4, 3) := by decide +kernel
theorem dX4_findMover_85 : decode cX4_findMover 85 = .ok (.iconst 0, 1) := by decide +kernel
theorem dX4_findMover_86 : decode cX4_findMover 86 = .ok (.ireturn, 1) := by decide +kernel
set_option maxRecDepth 20000 in
theorem ggX4_move_X4_lengthOf : GoodIn wsX4_move wsX4_lengthOf := goodIn_r _ [13, 14, 36, 37, 38, 39, 40, 41, 42, 43, 44, 45, 46, 47, 48, 49, 50, 51, 52, 53, 54, 55] (by decide +kernel) (by decide +kernel)
set_option maxRecDepth 20000 in
theorem gX4_move_X4_lengthOf : GoodIn wsX4_move (wsV RX4 89 RX4 yX4_lengthOf wsX4_lengthOf) := goodIn_app (goodIn_of _ (by decide +kernel)) ggX4_move_X4_lengthOf
set_option maxRecDepth 20000 in
theorem ggX4_move_X4_write : GoodIn wsX4_move wsX4_write := goodIn_r _ [18, 19, 20, 21, 22, 23, 36, 37, 38, 39, 40, 41, 42, 43, 44, 45, 46, 47, 48, 49, 50, 51, 52, 53, 54, 55] (by decide +kernel) (by decide +kernel)
set_option maxRecDepth 20000 in
theorem gX4_move_X4_write : GoodIn wsX4_move (wsV RX4 52 RX4 yX4_write wsX4_write) := goodIn_app (goodIn_of _ (by decide +kernel)) ggX4_move_X4_write
set_option maxRecDepth 20000 in
theorem ggX4_move_X4_lay : GoodIn wsX4_move wsX4_lay := goodIn_r _ [27, 8, 14, 36, 37, 38, 39, 40, 41, 42, 43, 44, 45, 46, 47, 48, 49, 50, 51, 52, 53, 54, 55] (by decide +kernel) (by decide +kernel)
set_option maxRecDepth 20000 in
theorem gX4_move_X4_lay : GoodIn wsX4_move (wsV RX4 80 RX4 yX4_lay wsX4_lay) := goodIn_app (goodIn_of _ (by decide +kernel)) ggX4_move_X4_lay
set_option maxRecDepth 20000 in
theorem ggX4_move_X4_change : GoodIn wsX4_move wsX4_change := goodIn_r _ [31, 14, 8, 32, 33, 34, 12, 35, 15, 16, 17, 18, 19, 20, 21, 22, 23, 36, 37, 38, 39, 40, 41, 42, 43, 44, 45, 46, 47, 48, 49, 50, 51, 52, 53, 54, 55] (by decide +kernel) (by decide +kernel)
set_option maxRecDepth 20000 in
theorem gX4_move_X4_change : GoodIn wsX4_move (wsV RX4 83 RX4 yX4_change wsX4_change) := goodIn_app (goodIn_of _ (by decide +kernel)) ggX4_move_X4_change
theorem dX4_move_0 : decode cX4_move 0 = .ok (.aload_n 0, 1) := by decide +kernel
theorem dX4_move_1 : decode cX4_move 1 = .ok (.aload_n 0, 1) := by decide +kernel
theorem dX4_move_2 : decode cX4_move 2 = .ok (.getfield 105, 3) := by decide +kernel
theorem dX4_move_5 : decode cX4_move 5 = .ok (.invokevirtual 89, 3) := by decide +kernel
theorem dX4_move_8 : decode cX4_move 8 = .ok (.istore_n 3, 1) := by decide +kernel
theorem dX4_move_9 : decode cX4_move 9 = .ok (.aload_n 0, 1) := by decide +kernel
theorem dX4_move_10 : decode cX4_move 10 = .ok (.getfield 111, 3) := by decide +kernel
theorem dX4_move_13 : decode cX4_move 13 = .ok (.bipush 8, 2) := by decide +kernel
theorem dX4_move_15 : decode cX4_move 15 = .ok (.if_icmp .ge 10, 3) := by decide +kernel
theorem dX4_move_18 : decode cX4_move 18 = .ok (.aload_n 0, 1) := by decide +kernel
theorem dX4_move_19 : decode cX4_move 19 = .ok (.getfield 111, 3) := by decide +kernel
theorem dX4_move_22 : decode cX4_move 22 = .ok (.goto 5, 3) := by decide +kernel
theorem dX4_move_25 : decode cX4_move 25 = .ok (.bipush 8, 2) := by decide +kernel
theorem dX4_move_27 : decode cX4_move 27 = .ok (.istore 4, 2) := by decide +kernel
theorem dX4_move_29 : decode cX4_move 29 = .ok (.iload_n 1, 1) := by decide +kernel
theorem dX4_move_30 : decode cX4_move 30 = .ok (.istore 5, 2) := by decide +kernel
theorem dX4_move_32 : decode cX4_move 32 = .ok (.iload 5, 2) := by decide +kernel
theorem dX4_move_34 : decode cX4_move 34 = .ok (.iload_n 3, 1) := by decide +kernel
theorem dX4_move_35 : decode cX4_move 35 = .ok (.if_icmp .ge 117, 3) := by decide +kernel
theorem dX4_move_38 : decode cX4_move 38 = .ok (.iload 5, 2) := by decide +kernel
theorem dX4_move_40 : decode cX4_move 40 = .ok (.iload_n 1, 1) := by decide +kernel
theorem dX4_move_41 : decode cX4_move 41 = .ok (.if_icmp .gt 7, 3) := by decide +kernel
theorem dX4_move_44 : decode cX4_move 44 = .ok (.iload_n 2, 1) := by decide +kernel
theorem dX4_move_45 : decode cX4_move 45 = .ok (.ifCond .ne 23, 3) := by decide +kernel
theorem dX4_move_48 : decode cX4_move 48 = .ok (.aload_n 0, 1) := by decide +kernel
theorem dX4_move_49 : decode cX4_move 49 = .ok (.invokevirtual 52, 3) := by decide +kernel
theorem dX4_move_52 : decode cX4_move 52 = .ok (.ifCond .ne 5, 3) := by decide +kernel
theorem dX4_move_55 : decode cX4_move 55 = .ok (.iconst 0, 1) := by decide +kernel
theorem dX4_move_56 : decode cX4_move 56 = .ok (.ireturn, 1) := by decide +kernel
theorem dX4_move_57 : decode cX4_move 57 = .ok (.aload_n 0, 1) := by decide +kernel
theorem dX4_move_58 : decode cX4_move 58 = .ok (.iconst 1, 1) := by decide +kernel
theorem dX4_move_59 : decode cX4_move 59 = .ok (.putfield 114, 3) := by decide +kernel
theorem dX4_move_62 : decode cX4_move 62 = .ok (.aload_n 0, 1) := by decide +kernel
theorem dX4_move_63 : decode cX4_move 63 = .ok (.iload 5, 2) := by decide +kernel
theorem dX4_move_65 : decode cX4_move 65 = .ok (.putfield 117, 3) := by decide +kernel
theorem dX4_move_68 : decode cX4_move 68 = .ok (.iload 5, 2) := by decide +kernel
theorem dX4_move_70 : decode cX4_move 70 = .ok (.istore 6, 2) := by decide +kernel
theorem dX4_move_72 : decode cX4_move 72 = .ok (.iload 6, 2) := by decide +kernel
theorem dX4_move_74 : decode cX4_move 74 = .ok (.iload 5, 2) := by decide +kernel
theorem dX4_move_76 : decode cX4_move 76 = .ok (.iload 4, 2) := by decide +kernel
theorem dX4_move_78 : decode cX4_move 78 = .ok (.iadd, 1) := by decide +kernel
theorem dX4_move_79 : decode cX4_move 79 = .ok (.if_icmp .ge 63, 3) := by decide +kernel
theorem dX4_move_82 : decode cX4_move 82 = .ok (.iload 6, 2) := by decide +kernel
theorem dX4_move_84 : decode cX4_move 84 = .ok (.iload_n 3, 1) := by decide +kernel
theorem dX4_move_85 : decode cX4_move 85 = .ok (.if_icmp .ge 57, 3) := by decide +kernel
theorem dX4_move_88 : decode cX4_move 88 = .ok (.aload_n 0, 1) := by decide +kernel
theorem dX4_move_89 : decode cX4_move 89 = .ok (.invokevirtual 52, 3) := by decide +kernel
theorem dX4_move_92 : decode cX4_move 92 = .ok (.ifCond .ne 5, 3) := by decide +kernel
theorem dX4_move_95 : decode cX4_move 95 = .ok (.iconst 0, 1) := by decide +kernel
theorem dX4_move_96 : decode cX4_move 96 = .ok (.ireturn, 1) := by decide +kernel
theorem dX4_move_97 : decode cX4_move 97 = .ok (.aload_n 0, 1) := by decide +kernel
theorem dX4_move_98 : decode cX4_move 98 = .ok (.getfield 17, 3) := by decide +kernel
theorem dX4_move_101 : decode cX4_move 101 = .ok (.aload_n 0, 1) := by decide +kernel
theorem dX4_move_102 : decode cX4_move 102 = .ok (.getfield 108, 3) := by decide +kernel
theorem dX4_move_105 : decode cX4_move 105 = .ok (.iload 6, 2) := by decide +kernel
theorem dX4_move_107 : decode cX4_move 107 = .ok (.iadd, 1) := by decide +kernel
theorem dX4_move_108 : decode cX4_move 108 = .ok (.aload_n 0, 1) := by decide +kernel
theorem dX4_move_109 : decode cX4_move 109 = .ok (.getfield 111, 3) := by decide +kernel
theorem dX4_move_112 : decode cX4_move 112 = .ok (.isub, 1) := by decide +kernel
theorem dX4_move_113 : decode cX4_move 113 = .ok (.aload_n 0, 1) := by decide +kernel
theorem dX4_move_114 : decode cX4_move 114 = .ok (.getfield 17, 3) := by decide +kernel
theorem dX4_move_117 : decode cX4_move 117 = .ok (.aload_n 0, 1) := by decide +kernel
theorem dX4_move_118 : decode cX4_move 118 = .ok (.getfield 108, 3) := by decide +kernel
theorem dX4_move_121 : decode cX4_move 121 = .ok (.iload 6, 2) := by decide +kernel
theorem dX4_move_123 : decode cX4_move 123 = .ok (.iadd, 1) := by decide +kernel
theorem dX4_move_124 : decode cX4_move 124 = .ok (.iaload, 1) := by decide +kernel
theorem dX4_move_125 : decode cX4_move 125 = .ok (.iastore, 1) := by decide +kernel
theorem dX4_move_126 : decode cX4_move 126 = .ok (.aload_n 0, 1) := by decide +kernel
theorem dX4_move_127 : decode cX4_move 127 = .ok (.dup, 1) := by decide +kernel
theorem dX4_move_128 : decode cX4_move 128 = .ok (.getfield 120, 3) := by decide +kernel
theorem dX4_move_131 : decode cX4_move 131 = .ok (.iconst 1, 1) := by decide +kernel
theorem dX4_move_132 : decode cX4_move 132 = .ok (.iadd, 1) := by decide +kernel
theorem dX4_move_133 : decode cX4_move 133 = .ok (.putfield 120, 3) := by decide +kernel
theorem dX4_move_136 : decode cX4_move 136 = .ok (.iinc 6 1, 3) := by decide +kernel
theorem dX4_move_139 : decode cX4_move 139 = .ok (.goto (-67), 3) := by decide +kernel
theorem dX4_move_142 : decode cX4_move 142 = .ok (.iload 5, 2) := by decide +kernel
theorem dX4_move_144 : decode cX4_move 144 = .ok (.iload 4, 2) := by decide +kernel
theorem dX4_move_146 : decode cX4_move 146 = .ok (.iadd, 1) := by decide +kernel
theorem dX4_move_147 : decode cX4_move 147 = .ok (.istore 5, 2) := by decide +kernel
theorem dX4_move_149 : decode cX4_move 149 = .ok (.goto (-117), 3) := by decide +kernel
theorem dX4_move_152 : decode cX4_move 152 = .ok (.aload_n 0, 1) := by decide +kernel
theorem dX4_move_153 : decode cX4_move 153 = .ok (.invokevirtual 80, 3) := by decide +kernel
theorem dX4_move_156 : decode cX4_move 156 = .ok (.aload_n 0, 1) := by decide +kernel
theorem dX4_move_157 : decode cX4_move 157 = .ok (.getfield 108, 3) := by decide +kernel
theorem dX4_move_160 : decode cX4_move 160 = .ok (.aload_n 0, 1) := by decide +kernel
theorem dX4_move_161 : decode cX4_move 161 = .ok (.getfield 111, 3) := by decide +kernel
theorem dX4_move_164 : decode cX4_move 164 = .ok (.isub, 1) := by decide +kernel
theorem dX4_move_165 : decode cX4_move 165 = .ok (.istore 5, 2) := by decide +kernel
theorem dX4_move_167 : decode cX4_move 167 = .ok (.iload 5, 2) := by decide +kernel
theorem dX4_move_169 : decode cX4_move 169 = .ok (.aload_n 0, 1) := by decide +kernel
theorem dX4_move_170 : decode cX4_move 170 = .ok (.getfield 108, 3) := by decide +kernel
theorem dX4_move_173 : decode cX4_move 173 = .ok (.iload_n 3, 1) := by decide +kernel
theorem dX4_move_174 : decode cX4_move 174 = .ok (.iadd, 1) := by decide +kernel
theorem dX4_move_175 : decode cX4_move 175 = .ok (.if_icmp .ge 40, 3) := by decide +kernel
theorem dX4_move_178 : decode cX4_move 178 = .ok (.aload_n 0, 1) := by decide +kernel
theorem dX4_move_179 : decode cX4_move 179 = .ok (.getfield 24, 3) := by decide +kernel
theorem dX4_move_182 : decode cX4_move 182 = .ok (.iload 5, 2) := by decide +kernel
theorem dX4_move_184 : decode cX4_move 184 = .ok (.iload 5, 2) := by decide +kernel
theorem dX4_move_186 : decode cX4_move 186 = .ok (.aload_n 0, 1) := by decide +kernel
theorem dX4_move_187 : decode cX4_move 187 = .ok (.getfield 108, 3) := by decide +kernel
theorem dX4_move_190 : decode cX4_move 190 = .ok (.aload_n 0, 1) := by decide +kernel
theorem dX4_move_191 : decode cX4_move 191 = .ok (.getfield 111, 3) := by decide +kernel
theorem dX4_move_194 : decode cX4_move 194 = .ok (.isub, 1) := by decide +kernel
theorem dX4_move_195 : decode cX4_move 195 = .ok (.iload_n 3, 1) := by decide +kernel
theorem dX4_move_196 : decode cX4_move 196 = .ok (.iadd, 1) := by decide +kernel
theorem dX4_move_197 : decode cX4_move 197 = .ok (.if_icmp .ge 10, 3) := by decide +kernel
theorem dX4_move_200 : decode cX4_move 200 = .ok (.aload_n 0, 1) := by decide +kernel
theorem dX4_move_201 : decode cX4_move 201 = .ok (.getfield 105, 3) := by decide +kernel
theorem dX4_move_204 : decode cX4_move 204 = .ok (.goto 4, 3) := by decide +kernel
theorem dX4_move_207 : decode cX4_move 207 = .ok (.iconst 0, 1) := by decide +kernel
theorem dX4_move_208 : decode cX4_move 208 = .ok (.iastore, 1) := by decide +kernel
theorem dX4_move_209 : decode cX4_move 209 = .ok (.iinc 5 1, 3) := by decide +kernel
theorem dX4_move_212 : decode cX4_move 212 = .ok (.goto (-45), 3) := by decide +kernel
theorem dX4_move_215 : decode cX4_move 215 = .ok (.aload_n 0, 1) := by decide +kernel
theorem dX4_move_216 : decode cX4_move 216 = .ok (.invokevirtual 83, 3) := by decide +kernel
theorem dX4_move_219 : decode cX4_move 219 = .ok (.ifCond .ne 5, 3) := by decide +kernel
theorem dX4_move_222 : decode cX4_move 222 = .ok (.iconst 0, 1) := by decide +kernel
theorem dX4_move_223 : decode cX4_move 223 = .ok (.ireturn, 1) := by decide +kernel
theorem dX4_move_224 : decode cX4_move 224 = .ok (.aload_n 0, 1) := by decide +kernel
theorem dX4_move_225 : decode cX4_move 225 = .ok (.iconst 0, 1) := by decide +kernel
theorem dX4_move_226 : decode cX4_move 226 = .ok (.putfield 114, 3) := by decide +kernel
theorem dX4_move_229 : decode cX4_move 229 = .ok (.iconst 1, 1) := by decide +kernel
theorem dX4_move_230 : decode cX4_move 230 = .ok (.ireturn, 1) := by decide +kernel
set_option maxRecDepth 20000 in
theorem ggX4_moveAll_X4_findMover : GoodIn wsX4_moveAll wsX4_findMover := goodIn_r _ [5, 6, 7, 8, 9, 10, 11, 12, 4, 13, 48, 49, 50, 51, 52, 53, 54, 55, 56, 57, 58, 59, 60, 61, 62, 63, 64, 65, 66, 67] (by decide +kernel) (by decide +kernel)
set_option maxRecDepth 20000 in
theorem gX4_moveAll_X4_findMover : GoodIn wsX4_moveAll (wsV RX4 123 RX4 yX4_findMover wsX4_findMover) := goodIn_app (goodIn_of _ (by decide +kernel)) ggX4_moveAll_X4_findMover
set_option maxRecDepth 20000 in
theorem ggX4_moveAll_X4_move : GoodIn wsX4_moveAll wsX4_move := goodIn_r _ [17, 6, 9, 18, 19, 20, 8, 21, 22, 23, 24, 25, 4, 26, 7, 27, 28, 29, 30, 31, 32, 33, 34, 35, 36, 37, 38, 39, 40, 41, 42, 43, 44, 45, 46, 47, 48, 49, 50, 51, 52, 53, 54, 55, 56, 57, 58, 59, 60, 61, 62, 63, 64, 65, 66, 67] (by decide +kernel) (by decide +kernel)
set_option maxRecDepth 20000 in
theorem gX4_moveAll_X4_move : GoodIn wsX4_moveAll (wsV RX4 126 RX4 yX4_move wsX4_move) := goodIn_app (goodIn_of _ (by decide +kernel)) ggX4_moveAll_X4_move
theorem dX4_moveAll_0 : decode cX4_moveAll 0 = .ok (.aload_n 0, 1) := by decide +kernel
theorem dX4_moveAll_1 : decode cX4_moveAll 1 = .ok (.invokevirtual 123, 3) := by decide +kernel
theorem dX4_moveAll_4 : decode cX4_moveAll 4 = .ok (.ifCond .eq 14, 3) := by decide +kernel
theorem dX4_moveAll_7 : decode cX4_moveAll 7 = .ok (.aload_n 0, 1) := by decide +kernel
theorem dX4_moveAll_8 : decode cX4_moveAll 8 = .ok (.iconst 0, 1) := by decide +kernel
theorem dX4_moveAll_9 : decode cX4_moveAll 9 = .ok (.iconst 0, 1) := by decide +kernel
theorem dX4_moveAll_10 : decode cX4_moveAll 10 = .ok (.invokevirtual 126, 3) := by decide +kernel
theorem dX4_moveAll_13 : decode cX4_moveAll 13 = .ok (.ifCond .ne (-13), 3) := by decide +kernel
theorem dX4_moveAll_16 : decode cX4_moveAll 16 = .ok (.iconst 0, 1) := by decide +kernel
theorem dX4_moveAll_17 : decode cX4_moveAll 17 = .ok (.ireturn, 1) := by decide +kernel
theorem dX4_moveAll_18 : decode cX4_moveAll 18 = .ok (.iconst 1, 1) := by decide +kernel
theorem dX4_moveAll_19 : decode cX4_moveAll 19 = .ok (.ireturn, 1) := by decide +kernel
set_option maxRecDepth 20000 in
theorem ggX4_squeeze_X4_howMany : GoodIn wsX4_squeeze wsX4_howMany := goodIn_r _ [10, 11, 58, 59, 60, 61, 62, 63, 64, 65, 66, 67, 68, 69, 70, 71, 72, 73, 74, 75, 76, 77] (by decide +kernel) (by decide +kernel)
set_option maxRecDepth 20000 in
theorem gX4_squeeze_X4_howMany : GoodIn wsX4_squeeze (wsV RX4 70 RX4 yX4_howMany wsX4_howMany) := goodIn_app (goodIn_of _ (by decide +kernel)) ggX4_squeeze_X4_howMany
set_option maxRecDepth 20000 in
theorem ggX4_squeeze_X4_moveAll : GoodIn wsX4_squeeze wsX4_moveAll := goodIn_r _ [15, 16, 17, 18, 9, 19, 20, 21, 22, 23, 24, 25, 26, 27, 28, 29, 30, 31, 32, 33, 34, 3, 35, 36, 37, 38, 39, 40, 41, 42, 43, 44, 1, 45, 5, 4, 46, 47, 48, 49, 50, 51, 52, 53, 54, 55, 56, 57, 58, 59, 60, 61, 62, 63, 64, 65, 66, 67, 68, 69, 70, 71, 72, 73, 74, 75, 76, 77] (by decide +kernel) (by decide +kernel)
set_option maxRecDepth 20000 in
theorem gX4_squeeze_X4_moveAll : GoodIn wsX4_squeeze (wsV RX4 130 RX4 yX4_moveAll wsX4_moveAll) := goodIn_app (goodIn_of _ (by decide +kernel)) ggX4_squeeze_X4_moveAll
theorem dX4_squeeze_0 : decode cX4_squeeze 0 = .ok (.aload_n 0, 1) := by decide +kernel
theorem dX4_squeeze_1 : decode cX4_squeeze 1 = .ok (.aload_n 0, 1) := by decide +kernel
theorem dX4_squeeze_2 : decode cX4_squeeze 2 = .ok (.getfield 7, 3) := by decide +kernel
theorem dX4_squeeze_5 : decode cX4_squeeze 5 = .ok (.ifCond .eq 11, 3) := by decide +kernel
theorem dX4_squeeze_8 : decode cX4_squeeze 8 = .ok (.aload_n 0, 1) := by decide +kernel
theorem dX4_squeeze_9 : decode cX4_squeeze 9 = .ok (.iconst 1, 1) := by decide +kernel
theorem dX4_squeeze_10 : decode cX4_squeeze 10 = .ok (.invokevirtual 70, 3) := by decide +kernel
theorem dX4_squeeze_13 : decode cX4_squeeze 13 = .ok (.ifCond .le 7, 3) := by decide +kernel
theorem dX4_squeeze_16 : decode cX4_squeeze 16 = .ok (.iconst 1, 1) := by decide +kernel
theorem dX4_squeeze_17 : decode cX4_squeeze 17 = .ok (.goto 4, 3) := by decide +kernel
theorem dX4_squeeze_20 : decode cX4_squeeze 20 = .ok (.iconst 0, 1) := by decide +kernel
theorem dX4_squeeze_21 : decode cX4_squeeze 21 = .ok (.putfield 36, 3) := by decide +kernel
theorem dX4_squeeze_24 : decode cX4_squeeze 24 = .ok (.aload_n 0, 1) := by decide +kernel
theorem dX4_squeeze_25 : decode cX4_squeeze 25 = .ok (.getfield 36, 3) := by decide +kernel
theorem dX4_squeeze_28 : decode cX4_squeeze 28 = .ok (.ifCond .le 5, 3) := by decide +kernel
theorem dX4_squeeze_31 : decode cX4_squeeze 31 = .ok (.iconst 0, 1) := by decide +kernel
theorem dX4_squeeze_32 : decode cX4_squeeze 32 = .ok (.ireturn, 1) := by decide +kernel
theorem dX4_squeeze_33 : decode cX4_squeeze 33 = .ok (.aload_n 0, 1) := by decide +kernel
theorem dX4_squeeze_34 : decode cX4_squeeze 34 = .ok (.iconst 0, 1) := by decide +kernel
theorem dX4_squeeze_35 : decode cX4_squeeze 35 = .ok (.putfield 120, 3) := by decide +kernel
theorem dX4_squeeze_38 : decode cX4_squeeze 38 = .ok (.aload_n 0, 1) := by decide +kernel
theorem dX4_squeeze_39 : decode cX4_squeeze 39 = .ok (.iconst 1, 1) := by decide +kernel
theorem dX4_squeeze_40 : decode cX4_squeeze 40 = .ok (.putfield 45, 3) := by decide +kernel
theorem dX4_squeeze_43 : decode cX4_squeeze 43 = .ok (.aload_n 0, 1) := by decide +kernel
theorem dX4_squeeze_44 : decode cX4_squeeze 44 = .ok (.invokevirtual 130, 3) := by decide +kernel
theorem dX4_squeeze_47 : decode cX4_squeeze 47 = .ok (.istore_n 1, 1) := by decide +kernel
theorem dX4_squeeze_48 : decode cX4_squeeze 48 = .ok (.aload_n 0, 1) := by decide +kernel
theorem dX4_squeeze_49 : decode cX4_squeeze 49 = .ok (.iconst 0, 1) := by decide +kernel
theorem dX4_squeeze_50 : decode cX4_squeeze 50 = .ok (.putfield 45, 3) := by decide +kernel
theorem dX4_squeeze_53 : decode cX4_squeeze 53 = .ok (.aload_n 0, 1) := by decide +kernel
theorem dX4_squeeze_54 : decode cX4_squeeze 54 = .ok (.aload_n 0, 1) := by decide +kernel
theorem dX4_squeeze_55 : decode cX4_squeeze 55 = .ok (.getfield 42, 3) := by decide +kernel
theorem dX4_squeeze_58 : decode cX4_squeeze 58 = .ok (.ifCond .eq 11, 3) := by decide +kernel
theorem dX4_squeeze_61 : decode cX4_squeeze 61 = .ok (.iload_n 1, 1) := by decide +kernel
theorem dX4_squeeze_62 : decode cX4_squeeze 62 = .ok (.ifCond .ne 7, 3) := by decide +kernel
theorem dX4_squeeze_65 : decode cX4_squeeze 65 = .ok (.iconst 1, 1) := by decide +kernel
theorem dX4_squeeze_66 : decode cX4_squeeze 66 = .ok (.goto 4, 3) := by decide +kernel
theorem dX4_squeeze_69 : decode cX4_squeeze 69 = .ok (.iconst 0, 1) := by decide +kernel
theorem dX4_squeeze_70 : decode cX4_squeeze 70 = .ok (.putfield 42, 3) := by decide +kernel
theorem dX4_squeeze_73 : decode cX4_squeeze 73 = .ok (.iload_n 1, 1) := by decide +kernel
theorem dX4_squeeze_74 : decode cX4_squeeze 74 = .ok (.ifCond .eq 10, 3) := by decide +kernel
theorem dX4_squeeze_77 : decode cX4_squeeze 77 = .ok (.aload_n 0, 1) := by decide +kernel
theorem dX4_squeeze_78 : decode cX4_squeeze 78 = .ok (.getfield 120, 3) := by decide +kernel
theorem dX4_squeeze_81 : decode cX4_squeeze 81 = .ok (.goto 4, 3) := by decide +kernel
theorem dX4_squeeze_84 : decode cX4_squeeze 84 = .ok (.iconst (-1), 1) := by decide +kernel
theorem dX4_squeeze_85 : decode cX4_squeeze 85 = .ok (.ireturn, 1) := by decide +kernel
set_option maxRecDepth 20000 in
theorem ggX4_mount_X4_move : GoodIn wsX4_mount wsX4_move := goodIn_r _ [12, 13, 14, 4, 5, 15, 16, 17, 18, 19, 20, 21, 11, 22, 23, 24, 25, 26, 27, 3, 1, 28, 6, 29, 30, 31, 32, 33, 34, 35, 36, 37, 38, 39, 40, 41, 62, 63, 64, 65, 66, 67, 68, 69, 70, 71, 72, 73, 74, 75, 76, 77, 78, 79, 80, 81] (by decide +kernel) (by decide +kernel)
set_option maxRecDepth 20000 in
theorem gX4_mount_X4_move : GoodIn wsX4_mount (wsV RX4 126 RX4 yX4_move wsX4_move) := goodIn_app (goodIn_of _ (by decide +kernel)) ggX4_mount_X4_move
set_option maxRecDepth 20000 in
theorem ggX4_mount_X4_moveAll : GoodIn wsX4_mount wsX4_moveAll := goodIn_r _ [45, 46, 47, 48, 11, 49, 13, 23, 16, 14, 50, 51, 52, 53, 8, 9, 10, 12, 4, 5, 15, 17, 18, 19, 20, 21, 22, 24, 25, 26, 27, 3, 1, 28, 6, 29, 30, 31, 32, 33, 34, 35, 36, 37, 38, 39, 40, 41, 62, 63, 64, 65, 66, 67, 68, 69, 70, 71, 72, 73, 74, 75, 76, 77, 78, 79, 80, 81] (by decide +kernel) (by decide +kernel)
set_option maxRecDepth 20000 in
theorem gX4_mount_X4_moveAll : GoodIn wsX4_mount (wsV RX4 130 RX4 yX4_moveAll wsX4_moveAll) := goodIn_app (goodIn_of _ (by decide +kernel)) ggX4_mount_X4_moveAll
set_option maxRecDepth 20000 in
theorem ggX4_mount_X4_howMany : GoodIn wsX4_mount wsX4_howMany := goodIn_r _ [57, 7, 62, 63, 64, 65, 66, 67, 68, 69, 70, 71, 72, 73, 74, 75, 76, 77, 78, 79, 80, 81] (by decide +kernel) (by decide +kernel)
set_option maxRecDepth 20000 in
theorem gX4_mount_X4_howMany : GoodIn wsX4_mount (wsV RX4 70 RX4 yX4_howMany wsX4_howMany) := goodIn_app (goodIn_of _ (by decide +kernel)) ggX4_mount_X4_howMany
set_option maxRecDepth 20000 in
theorem ggX4_mount_X4_lay : GoodIn wsX4_mount wsX4_lay := goodIn_r _ [33, 18, 23, 62, 63, 64, 65, 66, 67, 68, 69, 70, 71, 72, 73, 74, 75, 76, 77, 78, 79, 80, 81] (by decide +kernel) (by decide +kernel)
set_option maxRecDepth 20000 in
theorem gX4_mount_X4_lay : GoodIn wsX4_mount (wsV RX4 80 RX4 yX4_lay wsX4_lay) := goodIn_app (goodIn_of _ (by decide +kernel)) ggX4_mount_X4_lay
set_option maxRecDepth 20000 in
theorem ggX4_mount_X4_giveUp : GoodIn wsX4_mount wsX4_giveUp := goodIn_r _ [61, 23, 18, 62, 63, 64, 65, 66, 67, 68, 69, 70, 71, 72, 73, 74, 75, 76, 77, 78, 79, 80, 81] (by decide +kernel) (by decide +kernel)
set_option maxRecDepth 20000 in
theorem gX4_mount_X4_giveUp : GoodIn wsX4_mount (wsV RX4 98 RX4 yX4_giveUp wsX4_giveUp) := goodIn_app (goodIn_of _ (by decide +kernel)) ggX4_mount_X4_giveUp
set_option maxRecDepth 20000 in
theorem ggX4_mount_X4_change : GoodIn wsX4_mount wsX4_change := goodIn_r _ [37, 23, 18, 38, 39, 40, 11, 41, 24, 25, 26, 27, 3, 1, 28, 6, 29, 62, 63, 64, 65, 66, 67, 68, 69, 70, 71, 72, 73, 74, 75, 76, 77, 78, 79, 80, 81] (by decide +kernel) (by decide +kernel)
set_option maxRecDepth 20000 in
theorem gX4_mount_X4_change : GoodIn wsX4_mount (wsV RX4 83 RX4 yX4_change wsX4_change) := goodIn_app (goodIn_of _ (by decide +kernel)) ggX4_mount_X4_change
theorem dX4_mount_0 : decode cX4_mount 0 = .ok (.aload_n 0, 1) := by decide +kernel
theorem dX4_mount_1 : decode cX4_mount 1 = .ok (.aload_n 0, 1) := by decide +kernel
theorem dX4_mount_2 : decode cX4_mount 2 = .ok (.getfield 7, 3) := by decide +kernel
theorem dX4_mount_5 : decode cX4_mount 5 = .ok (.ifCond .eq 7, 3) := by decide +kernel
theorem dX4_mount_8 : decode cX4_mount 8 = .ok (.iconst 1, 1) := by decide +kernel
theorem dX4_mount_9 : decode cX4_mount 9 = .ok (.goto 4, 3) := by decide +kernel
theorem dX4_mount_12 : decode cX4_mount 12 = .ok (.iconst 0, 1) := by decide +kernel
theorem dX4_mount_13 : decode cX4_mount 13 = .ok (.putfield 36, 3) := by decide +kernel
theorem dX4_mount_16 : decode cX4_mount 16 = .ok (.aload_n 0, 1) := by decide +kernel
theorem dX4_mount_17 : decode cX4_mount 17 = .ok (.getfield 36, 3) := by decide +kernel
theorem dX4_mount_20 : decode cX4_mount 20 = .ok (.ifCond .le 5, 3) := by decide +kernel
theorem dX4_mount_23 : decode cX4_mount 23 = .ok (.iconst 0, 1) := by decide +kernel
theorem dX4_mount_24 : decode cX4_mount 24 = .ok (.ireturn, 1) := by decide +kernel
theorem dX4_mount_25 : decode cX4_mount 25 = .ok (.aload_n 0, 1) := by decide +kernel
theorem dX4_mount_26 : decode cX4_mount 26 = .ok (.iconst 1, 1) := by decide +kernel
theorem dX4_mount_27 : decode cX4_mount 27 = .ok (.putfield 7, 3) := by decide +kernel
theorem dX4_mount_30 : decode cX4_mount 30 = .ok (.aload_n 0, 1) := by decide +kernel
theorem dX4_mount_31 : decode cX4_mount 31 = .ok (.iconst (-1), 1) := by decide +kernel
theorem dX4_mount_32 : decode cX4_mount 32 = .ok (.putfield 13, 3) := by decide +kernel
theorem dX4_mount_35 : decode cX4_mount 35 = .ok (.aload_n 0, 1) := by decide +kernel
theorem dX4_mount_36 : decode cX4_mount 36 = .ok (.getfield 114, 3) := by decide +kernel
theorem dX4_mount_39 : decode cX4_mount 39 = .ok (.ifCond .eq 13, 3) := by decide +kernel
theorem dX4_mount_42 : decode cX4_mount 42 = .ok (.aload_n 0, 1) := by decide +kernel
theorem dX4_mount_43 : decode cX4_mount 43 = .ok (.aload_n 0, 1) := by decide +kernel
theorem dX4_mount_44 : decode cX4_mount 44 = .ok (.getfield 117, 3) := by decide +kernel
theorem dX4_mount_47 : decode cX4_mount 47 = .ok (.iconst 1, 1) := by decide +kernel
theorem dX4_mount_48 : decode cX4_mount 48 = .ok (.invokevirtual 126, 3) := by decide +kernel
theorem dX4_mount_51 : decode cX4_mount 51 = .ok (.istore_n 1, 1) := by decide +kernel
theorem dX4_mount_52 : decode cX4_mount 52 = .ok (.aload_n 0, 1) := by decide +kernel
theorem dX4_mount_53 : decode cX4_mount 53 = .ok (.getfield 42, 3) := by decide +kernel
theorem dX4_mount_56 : decode cX4_mount 56 = .ok (.ifCond .eq 8, 3) := by decide +kernel
theorem dX4_mount_59 : decode cX4_mount 59 = .ok (.aload_n 0, 1) := by decide +kernel
theorem dX4_mount_60 : decode cX4_mount 60 = .ok (.invokevirtual 130, 3) := by decide +kernel
theorem dX4_mount_63 : decode cX4_mount 63 = .ok (.istore_n 1, 1) := by decide +kernel
theorem dX4_mount_64 : decode cX4_mount 64 = .ok (.aload_n 0, 1) := by decide +kernel
theorem dX4_mount_65 : decode cX4_mount 65 = .ok (.iconst 0, 1) := by decide +kernel
theorem dX4_mount_66 : decode cX4_mount 66 = .ok (.putfield 42, 3) := by decide +kernel
theorem dX4_mount_69 : decode cX4_mount 69 = .ok (.aload_n 0, 1) := by decide +kernel
theorem dX4_mount_70 : decode cX4_mount 70 = .ok (.iconst 1, 1) := by decide +kernel
theorem dX4_mount_71 : decode cX4_mount 71 = .ok (.invokevirtual 70, 3) := by decide +kernel
theorem dX4_mount_74 : decode cX4_mount 74 = .ok (.ifCond .le 82, 3) := by decide +kernel
theorem dX4_mount_77 : decode cX4_mount 77 = .ok (.aload_n 0, 1) := by decide +kernel
theorem dX4_mount_78 : decode cX4_mount 78 = .ok (.invokevirtual 80, 3) := by decide +kernel
theorem dX4_mount_81 : decode cX4_mount 81 = .ok (.iconst 1, 1) := by decide +kernel
theorem dX4_mount_82 : decode cX4_mount 82 = .ok (.istore_n 1, 1) := by decide +kernel
theorem dX4_mount_83 : decode cX4_mount 83 = .ok (.iload_n 1, 1) := by decide +kernel
theorem dX4_mount_84 : decode cX4_mount 84 = .ok (.bipush 17, 2) := by decide +kernel
theorem dX4_mount_86 : decode cX4_mount 86 = .ok (.if_icmp .ge 25, 3) := by decide +kernel
theorem dX4_mount_89 : decode cX4_mount 89 = .ok (.aload_n 0, 1) := by decide +kernel
theorem dX4_mount_90 : decode cX4_mount 90 = .ok (.getfield 27, 3) := by decide +kernel
theorem dX4_mount_93 : decode cX4_mount 93 = .ok (.iload_n 1, 1) := by decide +kernel
theorem dX4_mount_94 : decode cX4_mount 94 = .ok (.iaload, 1) := by decide +kernel
theorem dX4_mount_95 : decode cX4_mount 95 = .ok (.iconst 1, 1) := by decide +kernel
theorem dX4_mount_96 : decode cX4_mount 96 = .ok (.if_icmp .ne 9, 3) := by decide +kernel
theorem dX4_mount_99 : decode cX4_mount 99 = .ok (.aload_n 0, 1) := by decide +kernel
theorem dX4_mount_100 : decode cX4_mount 100 = .ok (.iload_n 1, 1) := by decide +kernel
theorem dX4_mount_101 : decode cX4_mount 101 = .ok (.iconst 0, 1) := by decide +kernel
theorem dX4_mount_102 : decode cX4_mount 102 = .ok (.invokevirtual 98, 3) := by decide +kernel
theorem dX4_mount_105 : decode cX4_mount 105 = .ok (.iinc 1 1, 3) := by decide +kernel
theorem dX4_mount_108 : decode cX4_mount 108 = .ok (.goto (-25), 3) := by decide +kernel
theorem dX4_mount_111 : decode cX4_mount 111 = .ok (.aload_n 0, 1) := by decide +kernel
theorem dX4_mount_112 : decode cX4_mount 112 = .ok (.invokevirtual 83, 3) := by decide +kernel
theorem dX4_mount_115 : decode cX4_mount 115 = .ok (.istore_n 1, 1) := by decide +kernel
theorem dX4_mount_116 : decode cX4_mount 116 = .ok (.iconst 1, 1) := by decide +kernel
theorem dX4_mount_117 : decode cX4_mount 117 = .ok (.istore_n 2, 1) := by decide +kernel
theorem dX4_mount_118 : decode cX4_mount 118 = .ok (.iload_n 2, 1) := by decide +kernel
theorem dX4_mount_119 : decode cX4_mount 119 = .ok (.bipush 17, 2) := by decide +kernel
theorem dX4_mount_121 : decode cX4_mount 121 = .ok (.if_icmp .ge 35, 3) := by decide +kernel
theorem dX4_mount_124 : decode cX4_mount 124 = .ok (.aload_n 0, 1) := by decide +kernel
theorem dX4_mount_125 : decode cX4_mount 125 = .ok (.getfield 27, 3) := by decide +kernel
theorem dX4_mount_128 : decode cX4_mount 128 = .ok (.iload_n 2, 1) := by decide +kernel
theorem dX4_mount_129 : decode cX4_mount 129 = .ok (.aload_n 0, 1) := by decide +kernel
theorem dX4_mount_130 : decode cX4_mount 130 = .ok (.getfield 27, 3) := by decide +kernel
theorem dX4_mount_133 : decode cX4_mount 133 = .ok (.iload_n 2, 1) := by decide +kernel
theorem dX4_mount_134 : decode cX4_mount 134 = .ok (.iaload, 1) := by decide +kernel
theorem dX4_mount_135 : decode cX4_mount 135 = .ok (.iconst 1, 1) := by decide +kernel
theorem dX4_mount_136 : decode cX4_mount 136 = .ok (.if_icmp .ne 7, 3) := by decide +kernel
theorem dX4_mount_139 : decode cX4_mount 139 = .ok (.iconst 0, 1) := by decide +kernel
theorem dX4_mount_140 : decode cX4_mount 140 = .ok (.goto 9, 3) := by decide +kernel
theorem dX4_mount_143 : decode cX4_mount 143 = .ok (.aload_n 0, 1) := by decide +kernel
theorem dX4_mount_144 : decode cX4_mount 144 = .ok (.getfield 27, 3) := by decide +kernel
theorem dX4_mount_147 : decode cX4_mount 147 = .ok (.iload_n 2, 1) := by decide +kernel
theorem dX4_mount_148 : decode cX4_mount 148 = .ok (.iaload, 1) := by decide +kernel
theorem dX4_mount_149 : decode cX4_mount 149 = .ok (.iastore, 1) := by decide +kernel
theorem dX4_mount_150 : decode cX4_mount 150 = .ok (.iinc 2 1, 3) := by decide +kernel
theorem dX4_mount_153 : decode cX4_mount 153 = .ok (.goto (-35), 3) := by decide +kernel
theorem dX4_mount_156 : decode cX4_mount 156 = .ok (.aload_n 0, 1) := by decide +kernel
theorem dX4_mount_157 : decode cX4_mount 157 = .ok (.iconst 2, 1) := by decide +kernel
theorem dX4_mount_158 : decode cX4_mount 158 = .ok (.invokevirtual 70, 3) := by decide +kernel
theorem dX4_mount_161 : decode cX4_mount 161 = .ok (.ireturn, 1) := by decide +kernel
theorem dX4_cutAfter_0 : decode cX4_cutAfter 0 = .ok (.aload_n 0, 1) := by decide +kernel
theorem dX4_cutAfter_1 : decode cX4_cutAfter 1 = .ok (.aload_n 0, 1) := by decide +kernel
theorem dX4_cutAfter_2 : decode cX4_cutAfter 2 = .ok (.getfield 7, 3) := by decide +kernel
theorem dX4_cutAfter_5 : decode cX4_cutAfter 5 = .ok (.ifCond .ne 7, 3) := by decide +kernel
theorem dX4_cutAfter_8 : decode cX4_cutAfter 8 = .ok (.iconst 1, 1) := by decide +kernel
theorem dX4_cutAfter_9 : decode cX4_cutAfter 9 = .ok (.goto 13, 3) := by decide +kernel
theorem dX4_cutAfter_12 : decode cX4_cutAfter 12 = .ok (.iload_n 1, 1) := by decide +kernel
theorem dX4_cutAfter_13 : decode cX4_cutAfter 13 = .ok (.iconst (-1), 1) := by decide +kernel
theorem dX4_cutAfter_14 : decode cX4_cutAfter 14 = .ok (.if_icmp .ge 7, 3) := by decide +kernel
theorem dX4_cutAfter_17 : decode cX4_cutAfter 17 = .ok (.iconst 2, 1) := by decide +kernel
theorem dX4_cutAfter_18 : decode cX4_cutAfter 18 = .ok (.goto 4, 3) := by decide +kernel
theorem dX4_cutAfter_21 : decode cX4_cutAfter 21 = .ok (.iconst 0, 1) := by decide +kernel
theorem dX4_cutAfter_22 : decode cX4_cutAfter 22 = .ok (.putfield 36, 3) := by decide +kernel
theorem dX4_cutAfter_25 : decode cX4_cutAfter 25 = .ok (.aload_n 0, 1) := by decide +kernel
theorem dX4_cutAfter_26 : decode cX4_cutAfter 26 = .ok (.getfield 36, 3) := by decide +kernel
theorem dX4_cutAfter_29 : decode cX4_cutAfter 29 = .ok (.ifCond .ne 8, 3) := by decide +kernel
theorem dX4_cutAfter_32 : decode cX4_cutAfter 32 = .ok (.aload_n 0, 1) := by decide +kernel
theorem dX4_cutAfter_33 : decode cX4_cutAfter 33 = .ok (.iload_n 1, 1) := by decide +kernel
theorem dX4_cutAfter_34 : decode cX4_cutAfter 34 = .ok (.putfield 13, 3) := by decide +kernel
theorem dX4_cutAfter_37 : decode cX4_cutAfter 37 = .ok (.return_, 1) := by decide +kernel
set_option maxRecDepth 20000 in
theorem ggX4_run_X4_runFrom : GoodIn wsX4_run wsX4_runFrom := goodIn_r _ [7, 8, 9, 10, 11, 12, 13, 14, 15, 16, 17, 18, 19, 20, 21, 22, 23, 24, 25, 26, 27, 28] (by decide +kernel) (by decide +kernel)
set_option maxRecDepth 20000 in
theorem gX4_run_X4_runFrom : GoodIn wsX4_run (wsV RX4 59 RX4 yX4_runFrom wsX4_runFrom) := goodIn_app (goodIn_of _ (by decide +kernel)) ggX4_run_X4_runFrom
theorem dX4_run_0 : decode cX4_run 0 = .ok (.iconst 0, 1) := by decide +kernel
theorem dX4_run_1 : decode cX4_run 1 = .ok (.istore_n 2, 1) := by decide +kernel
theorem dX4_run_2 : decode cX4_run 2 = .ok (.iconst 0, 1) := by decide +kernel
theorem dX4_run_3 : decode cX4_run 3 = .ok (.istore_n 3, 1) := by decide +kernel
theorem dX4_run_4 : decode cX4_run 4 = .ok (.iload_n 3, 1) := by decide +kernel
theorem dX4_run_5 : decode cX4_run 5 = .ok (.iload_n 1, 1) := by decide +kernel
theorem dX4_run_6 : decode cX4_run 6 = .ok (.if_icmp .ge 23, 3) := by decide +kernel
theorem dX4_run_9 : decode cX4_run 9 = .ok (.iload_n 2, 1) := by decide +kernel
theorem dX4_run_10 : decode cX4_run 10 = .ok (.bipush 48, 2) := by decide +kernel
theorem dX4_run_12 : decode cX4_run 12 = .ok (.if_icmp .ge 17, 3) := by decide +kernel
theorem dX4_run_15 : decode cX4_run 15 = .ok (.iload_n 2, 1) := by decide +kernel
theorem dX4_run_16 : decode cX4_run 16 = .ok (.aload_n 0, 1) := by decide +kernel
theorem dX4_run_17 : decode cX4_run 17 = .ok (.iload_n 2, 1) := by decide +kernel
theorem dX4_run_18 : decode cX4_run 18 = .ok (.invokevirtual 59, 3) := by decide +kernel
theorem dX4_run_21 : decode cX4_run 21 = .ok (.iadd, 1) := by decide +kernel
theorem dX4_run_22 : decode cX4_run 22 = .ok (.istore_n 2, 1) := by decide +kernel
theorem dX4_run_23 : decode cX4_run 23 = .ok (.iinc 3 1, 3) := by decide +kernel
theorem dX4_run_26 : decode cX4_run 26 = .ok (.goto (-22), 3) := by decide +kernel
theorem dX4_run_29 : decode cX4_run 29 = .ok (.aload_n 0, 1) := by decide +kernel
theorem dX4_run_30 : decode cX4_run 30 = .ok (.iload_n 2, 1) := by decide +kernel
theorem dX4_run_31 : decode cX4_run 31 = .ok (.putfield 63, 3) := by decide +kernel
theorem dX4_run_34 : decode cX4_run 34 = .ok (.aload_n 0, 1) := by decide +kernel
theorem dX4_run_35 : decode cX4_run 35 = .ok (.iload_n 2, 1) := by decide +kernel
theorem dX4_run_36 : decode cX4_run 36 = .ok (.bipush 48, 2) := by decide +kernel
theorem dX4_run_38 : decode cX4_run 38 = .ok (.if_icmp .ge 11, 3) := by decide +kernel
theorem dX4_run_41 : decode cX4_run 41 = .ok (.aload_n 0, 1) := by decide +kernel
theorem dX4_run_42 : decode cX4_run 42 = .ok (.iload_n 2, 1) := by decide +kernel
theorem dX4_run_43 : decode cX4_run 43 = .ok (.invokevirtual 59, 3) := by decide +kernel
theorem dX4_run_46 : decode cX4_run 46 = .ok (.goto 4, 3) := by decide +kernel
theorem dX4_run_49 : decode cX4_run 49 = .ok (.iconst 0, 1) := by decide +kernel
theorem dX4_run_50 : decode cX4_run 50 = .ok (.putfield 56, 3) := by decide +kernel
theorem dX4_run_53 : decode cX4_run 53 = .ok (.iload_n 2, 1) := by decide +kernel
theorem dX4_run_54 : decode cX4_run 54 = .ok (.bipush 48, 2) := by decide +kernel
theorem dX4_run_56 : decode cX4_run 56 = .ok (.if_icmp .ge 7, 3) := by decide +kernel
theorem dX4_run_59 : decode cX4_run 59 = .ok (.iconst 1, 1) := by decide +kernel
theorem dX4_run_60 : decode cX4_run 60 = .ok (.goto 4, 3) := by decide +kernel
theorem dX4_run_63 : decode cX4_run 63 = .ok (.iconst 0, 1) := by decide +kernel
theorem dX4_run_64 : decode cX4_run 64 = .ok (.ireturn, 1) := by decide +kernel
set_option maxRecDepth 20000 in
theorem ggX4_entry_X4_run : GoodIn wsX4_entry wsX4_run := goodIn_r _ [12, 4, 6, 13, 14, 15, 11, 16, 3, 17, 18, 19, 20, 21, 22, 23, 24, 25, 26, 27, 28, 29, 30, 31, 32, 33, 34, 35, 36] (by decide +kernel) (by decide +kernel)
set_option maxRecDepth 20000 in
theorem gX4_entry_X4_run : GoodIn wsX4_entry (wsV RX4 133 RX4 yX4_run wsX4_run) := goodIn_app (goodIn_of _ (by decide +kernel)) ggX4_entry_X4_run
theorem dX4_entry_0 : decode cX4_entry 0 = .ok (.aload_n 0, 1) := by decide +kernel
theorem dX4_entry_1 : decode cX4_entry 1 = .ok (.aload_n 0, 1) := by decide +kernel
theorem dX4_entry_2 : decode cX4_entry 2 = .ok (.getfield 7, 3) := by decide +kernel
theorem dX4_entry_5 : decode cX4_entry 5 = .ok (.ifCond .ne 7, 3) := by decide +kernel
theorem dX4_entry_8 : decode cX4_entry 8 = .ok (.iconst 1, 1) := by decide +kernel
theorem dX4_entry_9 : decode cX4_entry 9 = .ok (.goto 39, 3) := by decide +kernel
theorem dX4_entry_12 : decode cX4_entry 12 = .ok (.iload_n 2, 1) := by decide +kernel
theorem dX4_entry_13 : decode cX4_entry 13 = .ok (.ifCond .lt 8, 3) := by decide +kernel
theorem dX4_entry_16 : decode cX4_entry 16 = .ok (.iload_n 2, 1) := by decide +kernel
theorem dX4_entry_17 : decode cX4_entry 17 = .ok (.iconst 3, 1) := by decide +kernel
theorem dX4_entry_18 : decode cX4_entry 18 = .ok (.if_icmp .le 7, 3) := by decide +kernel
theorem dX4_entry_21 : decode cX4_entry 21 = .ok (.iconst 2, 1) := by decide +kernel
theorem dX4_entry_22 : decode cX4_entry 22 = .ok (.goto 26, 3) := by decide +kernel
theorem dX4_entry_25 : decode cX4_entry 25 = .ok (.iload_n 1, 1) := by decide +kernel
theorem dX4_entry_26 : decode cX4_entry 26 = .ok (.ifCond .lt 17, 3) := by decide +kernel
theorem dX4_entry_29 : decode cX4_entry 29 = .ok (.iload_n 1, 1) := by decide +kernel
theorem dX4_entry_30 : decode cX4_entry 30 = .ok (.bipush 48, 2) := by decide +kernel
theorem dX4_entry_32 : decode cX4_entry 32 = .ok (.if_icmp .gt 11, 3) := by decide +kernel
theorem dX4_entry_35 : decode cX4_entry 35 = .ok (.aload_n 0, 1) := by decide +kernel
theorem dX4_entry_36 : decode cX4_entry 36 = .ok (.iload_n 1, 1) := by decide +kernel
theorem dX4_entry_37 : decode cX4_entry 37 = .ok (.invokevirtual 133, 3) := by decide +kernel
theorem dX4_entry_40 : decode cX4_entry 40 = .ok (.ifCond .ne 7, 3) := by decide +kernel
theorem dX4_entry_43 : decode cX4_entry 43 = .ok (.iconst 3, 1) := by decide +kernel
theorem dX4_entry_44 : decode cX4_entry 44 = .ok (.goto 4, 3) := by decide +kernel
theorem dX4_entry_47 : decode cX4_entry 47 = .ok (.iconst 0, 1) := by decide +kernel
theorem dX4_entry_48 : decode cX4_entry 48 = .ok (.putfield 36, 3) := by decide +kernel
theorem dX4_entry_51 : decode cX4_entry 51 = .ok (.aload_n 0, 1) := by decide +kernel
theorem dX4_entry_52 : decode cX4_entry 52 = .ok (.getfield 36, 3) := by decide +kernel
theorem dX4_entry_55 : decode cX4_entry 55 = .ok (.ifCond .le 5, 3) := by decide +kernel
theorem dX4_entry_58 : decode cX4_entry 58 = .ok (.iconst 0, 1) := by decide +kernel
theorem dX4_entry_59 : decode cX4_entry 59 = .ok (.ireturn, 1) := by decide +kernel
theorem dX4_entry_60 : decode cX4_entry 60 = .ok (.aload_n 0, 1) := by decide +kernel
theorem dX4_entry_61 : decode cX4_entry 61 = .ok (.getfield 21, 3) := by decide +kernel
theorem dX4_entry_64 : decode cX4_entry 64 = .ok (.aload_n 0, 1) := by decide +kernel
theorem dX4_entry_65 : decode cX4_entry 65 = .ok (.getfield 63, 3) := by decide +kernel
theorem dX4_entry_68 : decode cX4_entry 68 = .ok (.iaload, 1) := by decide +kernel
theorem dX4_entry_69 : decode cX4_entry 69 = .ok (.istore_n 3, 1) := by decide +kernel
theorem dX4_entry_70 : decode cX4_entry 70 = .ok (.iload_n 2, 1) := by decide +kernel
theorem dX4_entry_71 : decode cX4_entry 71 = .ok (.tableswitch 50 0 2 #[25, 40, 45], 25) := by decide +kernel
theorem dX4_entry_96 : decode cX4_entry 96 = .ok (.iload_n 3, 1) := by decide +kernel
theorem dX4_entry_97 : decode cX4_entry 97 = .ok (.ifCond .ne 7, 3) := by decide +kernel
theorem dX4_entry_100 : decode cX4_entry 100 = .ok (.iconst 0, 1) := by decide +kernel
theorem dX4_entry_101 : decode cX4_entry 101 = .ok (.goto 9, 3) := by decide +kernel
theorem dX4_entry_104 : decode cX4_entry 104 = .ok (.aload_n 0, 1) := by decide +kernel
theorem dX4_entry_105 : decode cX4_entry 105 = .ok (.getfield 27, 3) := by decide +kernel
theorem dX4_entry_108 : decode cX4_entry 108 = .ok (.iload_n 3, 1) := by decide +kernel
theorem dX4_entry_109 : decode cX4_entry 109 = .ok (.iaload, 1) := by decide +kernel
theorem dX4_entry_110 : decode cX4_entry 110 = .ok (.ireturn, 1) := by decide +kernel
theorem dX4_entry_111 : decode cX4_entry 111 = .ok (.aload_n 0, 1) := by decide +kernel
theorem dX4_entry_112 : decode cX4_entry 112 = .ok (.getfield 63, 3) := by decide +kernel
theorem dX4_entry_115 : decode cX4_entry 115 = .ok (.ireturn, 1) := by decide +kernel
theorem dX4_entry_116 : decode cX4_entry 116 = .ok (.aload_n 0, 1) := by decide +kernel
theorem dX4_entry_117 : decode cX4_entry 117 = .ok (.getfield 56, 3) := by decide +kernel
theorem dX4_entry_120 : decode cX4_entry 120 = .ok (.ireturn, 1) := by decide +kernel
theorem dX4_entry_121 : decode cX4_entry 121 = .ok (.iload_n 3, 1) := by decide +kernel
theorem dX4_entry_122 : decode cX4_entry 122 = .ok (.ifCond .ne 7, 3) := by decide +kernel
theorem dX4_entry_125 : decode cX4_entry 125 = .ok (.iconst 0, 1) := by decide +kernel
theorem dX4_entry_126 : decode cX4_entry 126 = .ok (.goto 9, 3) := by decide +kernel
theorem dX4_entry_129 : decode cX4_entry 129 = .ok (.aload_n 0, 1) := by decide +kernel
theorem dX4_entry_130 : decode cX4_entry 130 = .ok (.getfield 30, 3) := by decide +kernel
theorem dX4_entry_133 : decode cX4_entry 133 = .ok (.iload_n 3, 1) := by decide +kernel
theorem dX4_entry_134 : decode cX4_entry 134 = .ok (.iaload, 1) := by decide +kernel
theorem dX4_entry_135 : decode cX4_entry 135 = .ok (.ireturn, 1) := by decide +kernel
set_option maxRecDepth 20000 in
theorem ggX4_entries_X4_runsNow : GoodIn wsX4_entries wsX4_runsNow := goodIn_r _ [7, 8, 9, 10, 11, 12, 13, 14, 15, 16, 17, 18, 19, 20, 21, 22, 23, 24, 25, 26, 27, 28] (by decide +kernel) (by decide +kernel)
set_option maxRecDepth 20000 in
theorem gX4_entries_X4_runsNow : GoodIn wsX4_entries (wsV RX4 136 RX4 yX4_runsNow wsX4_runsNow) := goodIn_app (goodIn_of _ (by decide +kernel)) ggX4_entries_X4_runsNow
theorem dX4_entries_0 : decode cX4_entries 0 = .ok (.aload_n 0, 1) := by decide +kernel
theorem dX4_entries_1 : decode cX4_entries 1 = .ok (.aload_n 0, 1) := by decide +kernel
theorem dX4_entries_2 : decode cX4_entries 2 = .ok (.getfield 7, 3) := by decide +kernel
theorem dX4_entries_5 : decode cX4_entries 5 = .ok (.ifCond .eq 7, 3) := by decide +kernel
theorem dX4_entries_8 : decode cX4_entries 8 = .ok (.iconst 0, 1) := by decide +kernel
theorem dX4_entries_9 : decode cX4_entries 9 = .ok (.goto 4, 3) := by decide +kernel
theorem dX4_entries_12 : decode cX4_entries 12 = .ok (.iconst 1, 1) := by decide +kernel
theorem dX4_entries_13 : decode cX4_entries 13 = .ok (.putfield 36, 3) := by decide +kernel
theorem dX4_entries_16 : decode cX4_entries 16 = .ok (.aload_n 0, 1) := by decide +kernel
theorem dX4_entries_17 : decode cX4_entries 17 = .ok (.getfield 36, 3) := by decide +kernel
theorem dX4_entries_20 : decode cX4_entries 20 = .ok (.ifCond .le 7, 3) := by decide +kernel
theorem dX4_entries_23 : decode cX4_entries 23 = .ok (.iconst 0, 1) := by decide +kernel
theorem dX4_entries_24 : decode cX4_entries 24 = .ok (.goto 7, 3) := by decide +kernel
theorem dX4_entries_27 : decode cX4_entries 27 = .ok (.aload_n 0, 1) := by decide +kernel
theorem dX4_entries_28 : decode cX4_entries 28 = .ok (.invokevirtual 136, 3) := by decide +kernel
theorem dX4_entries_31 : decode cX4_entries 31 = .ok (.ireturn, 1) := by decide +kernel
set_option maxRecDepth 20000 in
theorem ggX4_free_X4_longest : GoodIn wsX4_free wsX4_longest := goodIn_r _ [7, 8, 9, 10, 11, 6, 12, 17, 18, 19, 20, 21, 22, 23, 24, 25, 26, 27, 28, 29, 30, 31, 32, 33, 34, 35, 36] (by decide +kernel) (by decide +kernel)
set_option maxRecDepth 20000 in
theorem gX4_free_X4_longest : GoodIn wsX4_free (wsV RX4 73 RX4 yX4_longest wsX4_longest) := goodIn_app (goodIn_of _ (by decide +kernel)) ggX4_free_X4_longest
set_option maxRecDepth 20000 in
theorem ggX4_free_X4_lengthOf : GoodIn wsX4_free wsX4_lengthOf := goodIn_r _ [16, 8, 17, 18, 19, 20, 21, 22, 23, 24, 25, 26, 27, 28, 29, 30, 31, 32, 33, 34, 35, 36] (by decide +kernel) (by decide +kernel)
set_option maxRecDepth 20000 in
theorem gX4_free_X4_lengthOf : GoodIn wsX4_free (wsV RX4 89 RX4 yX4_lengthOf wsX4_lengthOf) := goodIn_app (goodIn_of _ (by decide +kernel)) ggX4_free_X4_lengthOf
theorem dX4_free_0 : decode cX4_free 0 = .ok (.aload_n 0, 1) := by decide +kernel
theorem dX4_free_1 : decode cX4_free 1 = .ok (.aload_n 0, 1) := by decide +kernel
theorem dX4_free_2 : decode cX4_free 2 = .ok (.getfield 7, 3) := by decide +kernel
theorem dX4_free_5 : decode cX4_free 5 = .ok (.ifCond .eq 7, 3) := by decide +kernel
theorem dX4_free_8 : decode cX4_free 8 = .ok (.iconst 0, 1) := by decide +kernel
theorem dX4_free_9 : decode cX4_free 9 = .ok (.goto 4, 3) := by decide +kernel
theorem dX4_free_12 : decode cX4_free 12 = .ok (.iconst 1, 1) := by decide +kernel
theorem dX4_free_13 : decode cX4_free 13 = .ok (.putfield 36, 3) := by decide +kernel
theorem dX4_free_16 : decode cX4_free 16 = .ok (.aload_n 0, 1) := by decide +kernel
theorem dX4_free_17 : decode cX4_free 17 = .ok (.getfield 36, 3) := by decide +kernel
theorem dX4_free_20 : decode cX4_free 20 = .ok (.ifCond .le 7, 3) := by decide +kernel
theorem dX4_free_23 : decode cX4_free 23 = .ok (.iconst 0, 1) := by decide +kernel
theorem dX4_free_24 : decode cX4_free 24 = .ok (.goto 20, 3) := by decide +kernel
theorem dX4_free_27 : decode cX4_free 27 = .ok (.iload_n 1, 1) := by decide +kernel
theorem dX4_free_28 : decode cX4_free 28 = .ok (.ifCond .eq 11, 3) := by decide +kernel
theorem dX4_free_31 : decode cX4_free 31 = .ok (.aload_n 0, 1) := by decide +kernel
theorem dX4_free_32 : decode cX4_free 32 = .ok (.iconst 0, 1) := by decide +kernel
theorem dX4_free_33 : decode cX4_free 33 = .ok (.invokevirtual 73, 3) := by decide +kernel
theorem dX4_free_36 : decode cX4_free 36 = .ok (.goto 8, 3) := by decide +kernel
theorem dX4_free_39 : decode cX4_free 39 = .ok (.aload_n 0, 1) := by decide +kernel
theorem dX4_free_40 : decode cX4_free 40 = .ok (.iconst 0, 1) := by decide +kernel
theorem dX4_free_41 : decode cX4_free 41 = .ok (.invokevirtual 89, 3) := by decide +kernel
theorem dX4_free_44 : decode cX4_free 44 = .ok (.ireturn, 1) := by decide +kernel
set_option maxRecDepth 20000 in
theorem ggX4_handle_X4_byHandle : GoodIn wsX4_handle wsX4_byHandle := goodIn_r _ [8, 9, 10, 11, 12, 13, 14, 15, 16, 17, 18, 19, 20, 21, 22, 23, 24, 25, 26, 27, 28, 29, 30] (by decide +kernel) (by decide +kernel)
set_option maxRecDepth 20000 in
theorem gX4_handle_X4_byHandle : GoodIn wsX4_handle (wsV RX4 86 RX4 yX4_byHandle wsX4_byHandle) := goodIn_app (goodIn_of _ (by decide +kernel)) ggX4_handle_X4_byHandle
theorem dX4_handle_0 : decode cX4_handle 0 = .ok (.aload_n 0, 1) := by decide +kernel
theorem dX4_handle_1 : decode cX4_handle 1 = .ok (.aload_n 0, 1) := by decide +kernel
theorem dX4_handle_2 : decode cX4_handle 2 = .ok (.getfield 7, 3) := by decide +kernel
theorem dX4_handle_5 : decode cX4_handle 5 = .ok (.ifCond .eq 7, 3) := by decide +kernel
theorem dX4_handle_8 : decode cX4_handle 8 = .ok (.iconst 0, 1) := by decide +kernel
theorem dX4_handle_9 : decode cX4_handle 9 = .ok (.goto 4, 3) := by decide +kernel
theorem dX4_handle_12 : decode cX4_handle 12 = .ok (.iconst 1, 1) := by decide +kernel
theorem dX4_handle_13 : decode cX4_handle 13 = .ok (.putfield 36, 3) := by decide +kernel
theorem dX4_handle_16 : decode cX4_handle 16 = .ok (.iconst (-1), 1) := by decide +kernel
theorem dX4_handle_17 : decode cX4_handle 17 = .ok (.istore_n 2, 1) := by decide +kernel
theorem dX4_handle_18 : decode cX4_handle 18 = .ok (.iconst 3, 1) := by decide +kernel
theorem dX4_handle_19 : decode cX4_handle 19 = .ok (.istore_n 3, 1) := by decide +kernel
theorem dX4_handle_20 : decode cX4_handle 20 = .ok (.iload_n 3, 1) := by decide +kernel
end
section
theorem dX4_handle_21 : decode cX4_handle 21 = .ok (.ifCond .lt 45, 3) := by decide +kernel
theorem dX4_handle_24 : decode cX4_handle 24 = .ok (.aload_n 0, 1) := by decide +kernel
theorem dX4_handle_25 : decode cX4_handle 25 = .ok (.getfield 7, 3) := by decide +kernel
theorem dX4_handle_28 : decode cX4_handle 28 = .ok (.ifCond .eq 38, 3) := by decide +kernel
theorem dX4_handle_31 : decode cX4_handle 31 = .ok (.aload_n 0, 1) := by decide +kernel
theorem dX4_handle_32 : decode cX4_handle 32 = .ok (.iload_n 3, 1) := by decide +kernel
theorem dX4_handle_33 : decode cX4_handle 33 = .ok (.invokevirtual 86, 3) := by decide +kernel
theorem dX4_handle_36 : decode cX4_handle 36 = .ok (.istore 4, 2) := by decide +kernel
theorem dX4_handle_38 : decode cX4_handle 38 = .ok (.iload 4, 2) := by decide +kernel
theorem dX4_handle_40 : decode cX4_handle 40 = .ok (.ifCond .le 18, 3) := by decide +kernel
theorem dX4_handle_43 : decode cX4_handle 43 = .ok (.aload_n 0, 1) := by decide +kernel
theorem dX4_handle_44 : decode cX4_handle 44 = .ok (.getfield 30, 3) := by decide +kernel
theorem dX4_handle_47 : decode cX4_handle 47 = .ok (.iload 4, 2) := by decide +kernel
theorem dX4_handle_49 : decode cX4_handle 49 = .ok (.iaload, 1) := by decide +kernel
theorem dX4_handle_50 : decode cX4_handle 50 = .ok (.iload_n 1, 1) := by decide +kernel
theorem dX4_handle_51 : decode cX4_handle 51 = .ok (.if_icmp .ne 7, 3) := by decide +kernel
theorem dX4_handle_54 : decode cX4_handle 54 = .ok (.iload_n 3, 1) := by decide +kernel
theorem dX4_handle_55 : decode cX4_handle 55 = .ok (.goto 4, 3) := by decide +kernel
theorem dX4_handle_58 : decode cX4_handle 58 = .ok (.iload_n 2, 1) := by decide +kernel
theorem dX4_handle_59 : decode cX4_handle 59 = .ok (.istore_n 2, 1) := by decide +kernel
theorem dX4_handle_60 : decode cX4_handle 60 = .ok (.iinc 3 (-1), 3) := by decide +kernel
theorem dX4_handle_63 : decode cX4_handle 63 = .ok (.goto (-43), 3) := by decide +kernel
theorem dX4_handle_66 : decode cX4_handle 66 = .ok (.iload_n 2, 1) := by decide +kernel
theorem dX4_handle_67 : decode cX4_handle 67 = .ok (.ireturn, 1) := by decide +kernel
theorem dX4_writes_0 : decode cX4_writes 0 = .ok (.aload_n 0, 1) := by decide +kernel
theorem dX4_writes_1 : decode cX4_writes 1 = .ok (.iconst 0, 1) := by decide +kernel
theorem dX4_writes_2 : decode cX4_writes 2 = .ok (.putfield 36, 3) := by decide +kernel
theorem dX4_writes_5 : decode cX4_writes 5 = .ok (.aload_n 0, 1) := by decide +kernel
theorem dX4_writes_6 : decode cX4_writes 6 = .ok (.getfield 39, 3) := by decide +kernel
theorem dX4_writes_9 : decode cX4_writes 9 = .ok (.ireturn, 1) := by decide +kernel
theorem dX4_isOn_0 : decode cX4_isOn 0 = .ok (.aload_n 0, 1) := by decide +kernel
theorem dX4_isOn_1 : decode cX4_isOn 1 = .ok (.iconst 0, 1) := by decide +kernel
theorem dX4_isOn_2 : decode cX4_isOn 2 = .ok (.putfield 36, 3) := by decide +kernel
theorem dX4_isOn_5 : decode cX4_isOn 5 = .ok (.aload_n 0, 1) := by decide +kernel
theorem dX4_isOn_6 : decode cX4_isOn 6 = .ok (.getfield 7, 3) := by decide +kernel
theorem dX4_isOn_9 : decode cX4_isOn 9 = .ok (.ireturn, 1) := by decide +kernel
theorem dJ9_max_7cf53_0 : decode cJ9_max_7cf53 0 = .ok (.iload_n 0, 1) := by decide +kernel
theorem dJ9_max_7cf53_1 : decode cJ9_max_7cf53 1 = .ok (.iload_n 1, 1) := by decide +kernel
theorem dJ9_max_7cf53_2 : decode cJ9_max_7cf53 2 = .ok (.if_icmp .lt 7, 3) := by decide +kernel
theorem dJ9_max_7cf53_5 : decode cJ9_max_7cf53 5 = .ok (.iload_n 0, 1) := by decide +kernel
theorem dJ9_max_7cf53_6 : decode cJ9_max_7cf53 6 = .ok (.goto 4, 3) := by decide +kernel
theorem dJ9_max_7cf53_9 : decode cJ9_max_7cf53 9 = .ok (.iload_n 1, 1) := by decide +kernel
theorem dJ9_max_7cf53_10 : decode cJ9_max_7cf53 10 = .ok (.ireturn, 1) := by decide +kernel
theorem dJ9_min_7cf53_0 : decode cJ9_min_7cf53 0 = .ok (.iload_n 0, 1) := by decide +kernel
theorem dJ9_min_7cf53_1 : decode cJ9_min_7cf53 1 = .ok (.iload_n 1, 1) := by decide +kernel
theorem dJ9_min_7cf53_2 : decode cJ9_min_7cf53 2 = .ok (.if_icmp .gt 7, 3) := by decide +kernel
theorem dJ9_min_7cf53_5 : decode cJ9_min_7cf53 5 = .ok (.iload_n 0, 1) := by decide +kernel
theorem dJ9_min_7cf53_6 : decode cJ9_min_7cf53 6 = .ok (.goto 4, 3) := by decide +kernel
theorem dJ9_min_7cf53_9 : decode cJ9_min_7cf53 9 = .ok (.iload_n 1, 1) := by decide +kernel
theorem dJ9_min_7cf53_10 : decode cJ9_min_7cf53 10 = .ok (.ireturn, 1) := by decide +kernel
set_option maxRecDepth 20000 in
theorem ggL_enter_X3_enter : GoodIn wsL_enter wsX3_enter := goodIn_ca (goodIn_ca (goodIn_ca (goodIn_r _ [8, 9, 10, 11, 12, 13, 14, 15, 16, 17, 18, 7, 19, 20, 21, 22, 23, 24, 25, 26, 27, 28, 29, 30, 31, 32, 33, 34, 35, 36, 37, 38, 39, 40, 41, 42, 43, 44, 45, 46, 47, 48, 49, 50, 51, 52, 53, 54, 55, 56, 57, 58, 59, 60, 61, 62, 63, 64, 65, 66, 67, 68, 69, 70, 71, 72, 73, 74, 75, 76, 77, 78, 79, 80, 81, 82, 83, 84, 85, 86, 87, 88, 89, 90, 91, 92, 93, 94, 95, 96, 97, 98, 99, 100, 101, 102, 103, 104, 105, 106, 107, 108, 109, 110, 111, 112, 113, 114, 115, 116, 117, 118, 119, 120, 121, 122, 123, 124, 125, 126, 127, 128, 129, 130, 131, 132, 133, 134, 135, 136, 137, 138, 139, 140, 141, 142, 143, 144, 145, 146, 147, 148, 149, 150] (by decide +kernel) (by decide +kernel)) (goodIn_sub (fun _ h => List.mem_cons_of_mem _ (List.mem_append_left _ (List.mem_append_left _ (List.mem_append_right _ h)))) (by decide +kernel))) (goodIn_sub (fun _ h => List.mem_cons_of_mem _ (List.mem_append_left _ (List.mem_append_right _ h))) (by decide +kernel))) (goodIn_sub (fun _ h => List.mem_cons_of_mem _ (List.mem_append_right _ h)) (by decide +kernel))
set_option maxRecDepth 20000 in
theorem gL_enter_X3_enter : GoodIn wsL_enter (wsV RL 7 RX3 yX3_enter wsX3_enter) := goodIn_app (goodIn_of _ (by decide +kernel)) ggL_enter_X3_enter
theorem dL_enter_0 : decode cL_enter 0 = .ok (.aload_n 3, 1) := by decide +kernel
theorem dL_enter_1 : decode cL_enter 1 = .ok (.iconst 0, 1) := by decide +kernel
theorem dL_enter_2 : decode cL_enter 2 = .ok (.aload_n 0, 1) := by decide +kernel
theorem dL_enter_3 : decode cL_enter 3 = .ok (.iload_n 1, 1) := by decide +kernel
theorem dL_enter_4 : decode cL_enter 4 = .ok (.iload_n 2, 1) := by decide +kernel
theorem dL_enter_5 : decode cL_enter 5 = .ok (.invokevirtual 7, 3) := by decide +kernel
theorem dL_enter_8 : decode cL_enter 8 = .ok (.i2l, 1) := by decide +kernel
theorem dL_enter_9 : decode cL_enter 9 = .ok (.lastore, 1) := by decide +kernel
theorem dL_enter_10 : decode cL_enter 10 = .ok (.goto 15, 3) := by decide +kernel
theorem dL_enter_13 : decode cL_enter 13 = .ok (.astore 4, 2) := by decide +kernel
theorem dL_enter_15 : decode cL_enter 15 = .ok (.iconst 1, 1) := by decide +kernel
theorem dL_enter_16 : decode cL_enter 16 = .ok (.ireturn, 1) := by decide +kernel
theorem dL_enter_17 : decode cL_enter 17 = .ok (.astore 4, 2) := by decide +kernel
theorem dL_enter_19 : decode cL_enter 19 = .ok (.iconst 2, 1) := by decide +kernel
theorem dL_enter_20 : decode cL_enter 20 = .ok (.ireturn, 1) := by decide +kernel
theorem dL_enter_21 : decode cL_enter 21 = .ok (.astore 4, 2) := by decide +kernel
theorem dL_enter_23 : decode cL_enter 23 = .ok (.iconst 3, 1) := by decide +kernel
theorem dL_enter_24 : decode cL_enter 24 = .ok (.ireturn, 1) := by decide +kernel
theorem dL_enter_25 : decode cL_enter 25 = .ok (.iconst 0, 1) := by decide +kernel
theorem dL_enter_26 : decode cL_enter 26 = .ok (.ireturn, 1) := by decide +kernel
set_option maxRecDepth 20000 in
theorem ggL_put_X3_put : GoodIn wsL_put wsX3_put := goodIn_ca (goodIn_ca (goodIn_ca (goodIn_r _ [8, 9, 10, 11, 12, 7, 13, 14, 15, 16, 17, 18, 19, 20, 21, 22, 23, 24, 25, 26, 27, 28, 29, 30, 31, 32, 33, 34, 35, 36, 37, 38, 39, 40, 41, 42, 43, 44, 45, 46, 47, 48, 49, 50, 51, 52, 53, 54, 55, 56, 57, 58, 59, 60, 61, 62, 63, 64, 65, 66, 67, 68, 69, 70, 71, 72, 73, 74, 75, 76, 77, 78, 79, 80, 81, 82, 83, 84, 85, 86, 87] (by decide +kernel) (by decide +kernel)) (goodIn_sub (fun _ h => List.mem_cons_of_mem _ (List.mem_append_left _ (List.mem_append_left _ (List.mem_append_right _ h)))) (by decide +kernel))) (goodIn_sub (fun _ h => List.mem_cons_of_mem _ (List.mem_append_left _ (List.mem_append_right _ h))) (by decide +kernel))) (goodIn_sub (fun _ h => List.mem_cons_of_mem _ (List.mem_append_right _ h)) (by decide +kernel))
set_option maxRecDepth 20000 in
theorem gL_put_X3_put : GoodIn wsL_put (wsV RL 19 RX3 yX3_put wsX3_put) := goodIn_app (goodIn_of _ (by decide +kernel)) ggL_put_X3_put
theorem dL_put_0 : decode cL_put 0 = .ok (.aload 4, 2) := by decide +kernel
theorem dL_put_2 : decode cL_put 2 = .ok (.iconst 0, 1) := by decide +kernel
theorem dL_put_3 : decode cL_put 3 = .ok (.aload_n 0, 1) := by decide +kernel
theorem dL_put_4 : decode cL_put 4 = .ok (.iload_n 1, 1) := by decide +kernel
theorem dL_put_5 : decode cL_put 5 = .ok (.iload_n 2, 1) := by decide +kernel
theorem dL_put_6 : decode cL_put 6 = .ok (.iload_n 3, 1) := by decide +kernel
theorem dL_put_7 : decode cL_put 7 = .ok (.invokevirtual 19, 3) := by decide +kernel
theorem dL_put_10 : decode cL_put 10 = .ok (.i2l, 1) := by decide +kernel
theorem dL_put_11 : decode cL_put 11 = .ok (.lastore, 1) := by decide +kernel
theorem dL_put_12 : decode cL_put 12 = .ok (.goto 15, 3) := by decide +kernel
theorem dL_put_15 : decode cL_put 15 = .ok (.astore 5, 2) := by decide +kernel
theorem dL_put_17 : decode cL_put 17 = .ok (.iconst 1, 1) := by decide +kernel
theorem dL_put_18 : decode cL_put 18 = .ok (.ireturn, 1) := by decide +kernel
theorem dL_put_19 : decode cL_put 19 = .ok (.astore 5, 2) := by decide +kernel
theorem dL_put_21 : decode cL_put 21 = .ok (.iconst 2, 1) := by decide +kernel
theorem dL_put_22 : decode cL_put 22 = .ok (.ireturn, 1) := by decide +kernel
theorem dL_put_23 : decode cL_put 23 = .ok (.astore 5, 2) := by decide +kernel
theorem dL_put_25 : decode cL_put 25 = .ok (.iconst 3, 1) := by decide +kernel
theorem dL_put_26 : decode cL_put 26 = .ok (.ireturn, 1) := by decide +kernel
theorem dL_put_27 : decode cL_put 27 = .ok (.iconst 0, 1) := by decide +kernel
theorem dL_put_28 : decode cL_put 28 = .ok (.ireturn, 1) := by decide +kernel
set_option maxRecDepth 20000 in
theorem ggL_close_X3_close : GoodIn wsL_close wsX3_close := goodIn_ca (goodIn_ca (goodIn_ca (goodIn_ca (goodIn_r _ [9, 10, 11, 12, 13, 14, 15, 16, 8, 17, 18, 19, 20, 21, 22, 23, 24, 25, 26, 27, 28, 29, 30, 31, 32, 33, 34, 35, 36, 37, 38, 39, 40, 41, 42, 43, 44, 45, 46, 47, 48, 49, 50, 51, 52, 53, 54, 55, 56, 57, 58, 59, 60, 61, 62, 63, 64, 65, 66, 67, 68, 69, 70, 71, 72, 73, 74, 75, 76, 77, 78, 79, 80, 81, 82, 83, 84, 85, 86, 87, 88, 89, 90, 91, 92, 93, 94, 95, 96, 97, 98, 99, 100, 101, 102, 103, 104, 105, 106, 107, 108, 109, 110, 111, 112, 113, 114, 115, 116, 117, 118, 119, 120, 121, 122, 123, 124, 125, 126, 127, 128, 129, 130, 131, 132, 133, 134, 135, 136, 137, 138, 139, 140, 141, 142, 143] (by decide +kernel) (by decide +kernel)) (goodIn_sub (fun _ h => List.mem_cons_of_mem _ (List.mem_append_left _ (List.mem_append_left _ (List.mem_append_left _ (List.mem_append_right _ h))))) (by decide +kernel))) (goodIn_sub (fun _ h => List.mem_cons_of_mem _ (List.mem_append_left _ (List.mem_append_left _ (List.mem_append_right _ h)))) (by decide +kernel))) (goodIn_sub (fun _ h => List.mem_cons_of_mem _ (List.mem_append_left _ (List.mem_append_right _ h))) (by decide +kernel))) (goodIn_sub (fun _ h => List.mem_cons_of_mem _ (List.mem_append_right _ h)) (by decide +kernel))
set_option maxRecDepth 20000 in
theorem gL_close_X3_close : GoodIn wsL_close (wsV RL 25 RX3 yX3_close wsX3_close) := goodIn_app (goodIn_of _ (by decide +kernel)) ggL_close_X3_close
theorem dL_close_0 : decode cL_close 0 = .ok (.aload_n 3, 1) := by decide +kernel
theorem dL_close_1 : decode cL_close 1 = .ok (.iconst 0, 1) := by decide +kernel
theorem dL_close_2 : decode cL_close 2 = .ok (.aload_n 0, 1) := by decide +kernel
theorem dL_close_3 : decode cL_close 3 = .ok (.iload_n 1, 1) := by decide +kernel
theorem dL_close_4 : decode cL_close 4 = .ok (.iload_n 2, 1) := by decide +kernel
theorem dL_close_5 : decode cL_close 5 = .ok (.invokevirtual 25, 3) := by decide +kernel
theorem dL_close_8 : decode cL_close 8 = .ok (.i2l, 1) := by decide +kernel
theorem dL_close_9 : decode cL_close 9 = .ok (.lastore, 1) := by decide +kernel
theorem dL_close_10 : decode cL_close 10 = .ok (.goto 19, 3) := by decide +kernel
theorem dL_close_13 : decode cL_close 13 = .ok (.astore 4, 2) := by decide +kernel
theorem dL_close_15 : decode cL_close 15 = .ok (.iconst 1, 1) := by decide +kernel
theorem dL_close_16 : decode cL_close 16 = .ok (.ireturn, 1) := by decide +kernel
theorem dL_close_17 : decode cL_close 17 = .ok (.astore 4, 2) := by decide +kernel
theorem dL_close_19 : decode cL_close 19 = .ok (.iconst 2, 1) := by decide +kernel
theorem dL_close_20 : decode cL_close 20 = .ok (.ireturn, 1) := by decide +kernel
theorem dL_close_21 : decode cL_close 21 = .ok (.astore 4, 2) := by decide +kernel
theorem dL_close_23 : decode cL_close 23 = .ok (.iconst 3, 1) := by decide +kernel
theorem dL_close_24 : decode cL_close 24 = .ok (.ireturn, 1) := by decide +kernel
theorem dL_close_25 : decode cL_close 25 = .ok (.astore 4, 2) := by decide +kernel
theorem dL_close_27 : decode cL_close 27 = .ok (.iconst 4, 1) := by decide +kernel
theorem dL_close_28 : decode cL_close 28 = .ok (.ireturn, 1) := by decide +kernel
theorem dL_close_29 : decode cL_close 29 = .ok (.iconst 0, 1) := by decide +kernel
theorem dL_close_30 : decode cL_close 30 = .ok (.ireturn, 1) := by decide +kernel
set_option maxRecDepth 20000 in
theorem ggL_purge_X3_purge : GoodIn wsL_purge wsX3_purge := goodIn_ca (goodIn_ca (goodIn_r _ [7, 8, 9, 10, 6, 11, 12, 13, 14, 15, 16, 17, 18, 19, 20, 21, 22, 23, 24, 25, 26, 27, 28, 29, 30, 31, 32, 33, 34, 35, 36, 37, 38, 39, 40, 41, 42, 43, 44, 45, 46, 47, 48, 49, 50, 51, 52, 53, 54, 55, 56, 57, 58, 59, 60, 61, 62, 63, 64, 65, 66, 67, 68, 69, 70, 71, 72, 73, 74, 75, 76, 77, 78, 79, 80, 81, 82, 83, 84, 85, 86, 87, 88, 89, 90, 91, 92, 93, 94, 95, 96, 97, 98, 99, 100, 101, 102, 103, 104, 105, 106, 107, 108, 109, 110, 111, 112, 113, 114, 115, 116, 117, 118, 119, 120, 121, 122, 123] (by decide +kernel) (by decide +kernel)) (goodIn_sub (fun _ h => List.mem_cons_of_mem _ (List.mem_append_left _ (List.mem_append_right _ h))) (by decide +kernel))) (goodIn_sub (fun _ h => List.mem_cons_of_mem _ (List.mem_append_right _ h)) (by decide +kernel))
set_option maxRecDepth 20000 in
theorem gL_purge_X3_purge : GoodIn wsL_purge (wsV RL 28 RX3 yX3_purge wsX3_purge) := goodIn_app (goodIn_of _ (by decide +kernel)) ggL_purge_X3_purge
theorem dL_purge_0 : decode cL_purge 0 = .ok (.aload_n 2, 1) := by decide +kernel
theorem dL_purge_1 : decode cL_purge 1 = .ok (.iconst 0, 1) := by decide +kernel
theorem dL_purge_2 : decode cL_purge 2 = .ok (.aload_n 0, 1) := by decide +kernel
theorem dL_purge_3 : decode cL_purge 3 = .ok (.iload_n 1, 1) := by decide +kernel
theorem dL_purge_4 : decode cL_purge 4 = .ok (.invokevirtual 28, 3) := by decide +kernel
theorem dL_purge_7 : decode cL_purge 7 = .ok (.i2l, 1) := by decide +kernel
theorem dL_purge_8 : decode cL_purge 8 = .ok (.lastore, 1) := by decide +kernel
theorem dL_purge_9 : decode cL_purge 9 = .ok (.goto 9, 3) := by decide +kernel
theorem dL_purge_12 : decode cL_purge 12 = .ok (.astore_n 3, 1) := by decide +kernel
theorem dL_purge_13 : decode cL_purge 13 = .ok (.iconst 1, 1) := by decide +kernel
theorem dL_purge_14 : decode cL_purge 14 = .ok (.ireturn, 1) := by decide +kernel
theorem dL_purge_15 : decode cL_purge 15 = .ok (.astore_n 3, 1) := by decide +kernel
theorem dL_purge_16 : decode cL_purge 16 = .ok (.iconst 2, 1) := by decide +kernel
theorem dL_purge_17 : decode cL_purge 17 = .ok (.ireturn, 1) := by decide +kernel
theorem dL_purge_18 : decode cL_purge 18 = .ok (.iconst 0, 1) := by decide +kernel
theorem dL_purge_19 : decode cL_purge 19 = .ok (.ireturn, 1) := by decide +kernel
set_option maxRecDepth 20000 in
theorem ggL_delete_X3_delete : GoodIn wsL_delete wsX3_delete := goodIn_ca (goodIn_ca (goodIn_r _ [7, 8, 9, 10, 6, 11, 12, 13, 14, 15, 16, 17, 18, 19, 20, 21, 22, 23, 24, 25, 26, 27, 28, 29, 30, 31, 32, 33, 34, 35, 36, 37, 38, 39, 40, 41, 42, 43, 44, 45, 46, 47, 48, 49, 50, 51, 52, 53, 54, 55, 56, 57, 58, 59, 60, 61, 62, 63, 64, 65, 66, 67, 68, 69, 70, 71, 72, 73, 74, 75, 76, 77, 78, 79, 80, 81, 82, 83, 84, 85, 86, 87, 88, 89, 90, 91, 92, 93, 94, 95, 96, 97, 98, 99, 100, 101, 102, 103, 104, 105, 106, 107, 108, 109, 110, 111, 112, 113, 114, 115, 116, 117, 118, 119, 120, 121, 122, 123] (by decide +kernel) (by decide +kernel)) (goodIn_sub (fun _ h => List.mem_cons_of_mem _ (List.mem_append_left _ (List.mem_append_right _ h))) (by decide +kernel))) (goodIn_sub (fun _ h => List.mem_cons_of_mem _ (List.mem_append_right _ h)) (by decide +kernel))
set_option maxRecDepth 20000 in
theorem gL_delete_X3_delete : GoodIn wsL_delete (wsV RL 32 RX3 yX3_delete wsX3_delete) := goodIn_app (goodIn_of _ (by decide +kernel)) ggL_delete_X3_delete
theorem dL_delete_0 : decode cL_delete 0 = .ok (.aload_n 2, 1) := by decide +kernel
theorem dL_delete_1 : decode cL_delete 1 = .ok (.iconst 0, 1) := by decide +kernel
theorem dL_delete_2 : decode cL_delete 2 = .ok (.aload_n 0, 1) := by decide +kernel
theorem dL_delete_3 : decode cL_delete 3 = .ok (.iload_n 1, 1) := by decide +kernel
theorem dL_delete_4 : decode cL_delete 4 = .ok (.invokevirtual 32, 3) := by decide +kernel
theorem dL_delete_7 : decode cL_delete 7 = .ok (.i2l, 1) := by decide +kernel
theorem dL_delete_8 : decode cL_delete 8 = .ok (.lastore, 1) := by decide +kernel
theorem dL_delete_9 : decode cL_delete 9 = .ok (.goto 9, 3) := by decide +kernel
theorem dL_delete_12 : decode cL_delete 12 = .ok (.astore_n 3, 1) := by decide +kernel
theorem dL_delete_13 : decode cL_delete 13 = .ok (.iconst 1, 1) := by decide +kernel
theorem dL_delete_14 : decode cL_delete 14 = .ok (.ireturn, 1) := by decide +kernel
theorem dL_delete_15 : decode cL_delete 15 = .ok (.astore_n 3, 1) := by decide +kernel
theorem dL_delete_16 : decode cL_delete 16 = .ok (.iconst 2, 1) := by decide +kernel
theorem dL_delete_17 : decode cL_delete 17 = .ok (.ireturn, 1) := by decide +kernel
theorem dL_delete_18 : decode cL_delete 18 = .ok (.iconst 0, 1) := by decide +kernel
theorem dL_delete_19 : decode cL_delete 19 = .ok (.ireturn, 1) := by decide +kernel
set_option maxRecDepth 20000 in
theorem ggL_rename_X3_rename : GoodIn wsL_rename wsX3_rename := goodIn_ca (goodIn_ca (goodIn_ca (goodIn_ca (goodIn_r _ [9, 10, 11, 12, 13, 14, 15, 16, 8, 17, 18, 19, 20, 21, 22, 23, 24, 25, 26, 27, 28, 29, 30, 31, 32, 33, 34, 35, 36, 37, 38, 39, 40, 41, 42, 43, 44, 45, 46, 47, 48, 49, 50, 51, 52, 53, 54, 55, 56, 57, 58, 59, 60, 61, 62, 63, 64, 65, 66, 67, 68, 69, 70, 71, 72, 73, 74, 75, 76, 77, 78, 79, 80, 81, 82, 83, 84, 85, 86, 87, 88, 89, 90, 91, 92, 93, 94, 95, 96, 97, 98, 99, 100, 101, 102, 103, 104, 105, 106, 107, 108, 109, 110, 111, 112, 113, 114, 115, 116, 117, 118, 119, 120, 121, 122, 123, 124, 125, 126] (by decide +kernel) (by decide +kernel)) (goodIn_sub (fun _ h => List.mem_cons_of_mem _ (List.mem_append_left _ (List.mem_append_left _ (List.mem_append_left _ (List.mem_append_right _ h))))) (by decide +kernel))) (goodIn_sub (fun _ h => List.mem_cons_of_mem _ (List.mem_append_left _ (List.mem_append_left _ (List.mem_append_right _ h)))) (by decide +kernel))) (goodIn_sub (fun _ h => List.mem_cons_of_mem _ (List.mem_append_left _ (List.mem_append_right _ h))) (by decide +kernel))) (goodIn_sub (fun _ h => List.mem_cons_of_mem _ (List.mem_append_right _ h)) (by decide +kernel))
set_option maxRecDepth 20000 in
theorem gL_rename_X3_rename : GoodIn wsL_rename (wsV RL 35 RX3 yX3_rename wsX3_rename) := goodIn_app (goodIn_of _ (by decide +kernel)) ggL_rename_X3_rename
theorem dL_rename_0 : decode cL_rename 0 = .ok (.aload_n 3, 1) := by decide +kernel
theorem dL_rename_1 : decode cL_rename 1 = .ok (.iconst 0, 1) := by decide +kernel
theorem dL_rename_2 : decode cL_rename 2 = .ok (.aload_n 0, 1) := by decide +kernel
theorem dL_rename_3 : decode cL_rename 3 = .ok (.iload_n 1, 1) := by decide +kernel
theorem dL_rename_4 : decode cL_rename 4 = .ok (.iload_n 2, 1) := by decide +kernel
theorem dL_rename_5 : decode cL_rename 5 = .ok (.invokevirtual 35, 3) := by decide +kernel
theorem dL_rename_8 : decode cL_rename 8 = .ok (.i2l, 1) := by decide +kernel
theorem dL_rename_9 : decode cL_rename 9 = .ok (.lastore, 1) := by decide +kernel
theorem dL_rename_10 : decode cL_rename 10 = .ok (.goto 19, 3) := by decide +kernel
theorem dL_rename_13 : decode cL_rename 13 = .ok (.astore 4, 2) := by decide +kernel
theorem dL_rename_15 : decode cL_rename 15 = .ok (.iconst 1, 1) := by decide +kernel
theorem dL_rename_16 : decode cL_rename 16 = .ok (.ireturn, 1) := by decide +kernel
theorem dL_rename_17 : decode cL_rename 17 = .ok (.astore 4, 2) := by decide +kernel
theorem dL_rename_19 : decode cL_rename 19 = .ok (.iconst 2, 1) := by decide +kernel
theorem dL_rename_20 : decode cL_rename 20 = .ok (.ireturn, 1) := by decide +kernel
theorem dL_rename_21 : decode cL_rename 21 = .ok (.astore 4, 2) := by decide +kernel
theorem dL_rename_23 : decode cL_rename 23 = .ok (.iconst 3, 1) := by decide +kernel
theorem dL_rename_24 : decode cL_rename 24 = .ok (.ireturn, 1) := by decide +kernel
theorem dL_rename_25 : decode cL_rename 25 = .ok (.astore 4, 2) := by decide +kernel
theorem dL_rename_27 : decode cL_rename 27 = .ok (.iconst 4, 1) := by decide +kernel
theorem dL_rename_28 : decode cL_rename 28 = .ok (.ireturn, 1) := by decide +kernel
theorem dL_rename_29 : decode cL_rename 29 = .ok (.iconst 0, 1) := by decide +kernel
theorem dL_rename_30 : decode cL_rename 30 = .ok (.ireturn, 1) := by decide +kernel
set_option maxRecDepth 20000 in
theorem ggL_read_X3_read : GoodIn wsL_read wsX3_read := goodIn_ca (goodIn_ca (goodIn_ca (goodIn_r _ [8, 9, 10, 11, 12, 13, 7, 14, 15, 16, 17, 18, 19, 20, 21, 22, 23, 24, 25, 26, 27, 28, 29, 30, 31, 32, 33, 34, 35, 36, 37, 38, 39, 40, 41, 42, 43, 44, 45, 46, 47, 48, 49, 50, 51, 52, 53, 54, 55, 56, 57, 58, 59, 60, 61, 62, 63, 64, 65, 66, 67, 68, 69, 70, 71, 72, 73, 74] (by decide +kernel) (by decide +kernel)) (goodIn_sub (fun _ h => List.mem_cons_of_mem _ (List.mem_append_left _ (List.mem_append_left _ (List.mem_append_right _ h)))) (by decide +kernel))) (goodIn_sub (fun _ h => List.mem_cons_of_mem _ (List.mem_append_left _ (List.mem_append_right _ h))) (by decide +kernel))) (goodIn_sub (fun _ h => List.mem_cons_of_mem _ (List.mem_append_right _ h)) (by decide +kernel))
set_option maxRecDepth 20000 in
theorem gL_read_X3_read : GoodIn wsL_read (wsV RL 38 RX3 yX3_read wsX3_read) := goodIn_app (goodIn_of _ (by decide +kernel)) ggL_read_X3_read
theorem dL_read_0 : decode cL_read 0 = .ok (.aload_n 3, 1) := by decide +kernel
theorem dL_read_1 : decode cL_read 1 = .ok (.iconst 0, 1) := by decide +kernel
theorem dL_read_2 : decode cL_read 2 = .ok (.aload_n 0, 1) := by decide +kernel
theorem dL_read_3 : decode cL_read 3 = .ok (.iload_n 1, 1) := by decide +kernel
theorem dL_read_4 : decode cL_read 4 = .ok (.iload_n 2, 1) := by decide +kernel
theorem dL_read_5 : decode cL_read 5 = .ok (.invokevirtual 38, 3) := by decide +kernel
theorem dL_read_8 : decode cL_read 8 = .ok (.i2l, 1) := by decide +kernel
theorem dL_read_9 : decode cL_read 9 = .ok (.lastore, 1) := by decide +kernel
theorem dL_read_10 : decode cL_read 10 = .ok (.goto 15, 3) := by decide +kernel
theorem dL_read_13 : decode cL_read 13 = .ok (.astore 4, 2) := by decide +kernel
theorem dL_read_15 : decode cL_read 15 = .ok (.iconst 1, 1) := by decide +kernel
theorem dL_read_16 : decode cL_read 16 = .ok (.ireturn, 1) := by decide +kernel
theorem dL_read_17 : decode cL_read 17 = .ok (.astore 4, 2) := by decide +kernel
theorem dL_read_19 : decode cL_read 19 = .ok (.iconst 2, 1) := by decide +kernel
theorem dL_read_20 : decode cL_read 20 = .ok (.ireturn, 1) := by decide +kernel
theorem dL_read_21 : decode cL_read 21 = .ok (.astore 4, 2) := by decide +kernel
theorem dL_read_23 : decode cL_read 23 = .ok (.iconst 3, 1) := by decide +kernel
theorem dL_read_24 : decode cL_read 24 = .ok (.ireturn, 1) := by decide +kernel
theorem dL_read_25 : decode cL_read 25 = .ok (.iconst 0, 1) := by decide +kernel
theorem dL_read_26 : decode cL_read 26 = .ok (.ireturn, 1) := by decide +kernel
set_option maxRecDepth 20000 in
theorem ggL_squeeze_X3_squeeze : GoodIn wsL_squeeze wsX3_squeeze := goodIn_ca (goodIn_r _ [6, 7, 8, 9, 10, 11, 12, 5, 13, 14, 15, 16, 17, 18, 19, 20, 21, 22, 23, 24, 25, 26, 27, 28, 29, 30, 31, 32, 33, 34, 35, 36, 37, 38, 39, 40, 41, 42, 43, 44, 45, 46, 47, 48, 49, 50, 51, 52, 53, 54, 55, 56, 57, 58, 59, 60, 61, 62, 63, 64, 65, 66, 67, 68, 69, 70, 71, 72, 73, 74, 75, 76, 77, 78, 79, 80, 81, 82, 83, 84, 85, 86, 87, 88, 89, 90, 91, 92, 93, 94, 95, 96, 97, 98, 99, 100, 101, 102, 103, 104, 105, 106, 107, 108, 109, 110, 111, 112, 113, 114, 115, 116, 117, 118, 119, 120, 121, 122, 123, 124, 125, 126, 127, 128, 129, 130, 131, 132, 133, 134, 135, 136, 137, 138, 139, 140, 141, 142, 143, 144, 145, 146, 147, 148, 149, 150, 151, 152, 153, 154, 155, 156] (by decide +kernel) (by decide +kernel)) (goodIn_sub (fun _ h => List.mem_cons_of_mem _ (List.mem_append_right _ h)) (by decide +kernel))
set_option maxRecDepth 20000 in
theorem gL_squeeze_X3_squeeze : GoodIn wsL_squeeze (wsV RL 41 RX3 yX3_squeeze wsX3_squeeze) := goodIn_app (goodIn_of _ (by decide +kernel)) ggL_squeeze_X3_squeeze
theorem dL_squeeze_0 : decode cL_squeeze 0 = .ok (.aload_n 1, 1) := by decide +kernel
theorem dL_squeeze_1 : decode cL_squeeze 1 = .ok (.iconst 0, 1) := by decide +kernel
theorem dL_squeeze_2 : decode cL_squeeze 2 = .ok (.aload_n 0, 1) := by decide +kernel
theorem dL_squeeze_3 : decode cL_squeeze 3 = .ok (.invokevirtual 41, 3) := by decide +kernel
theorem dL_squeeze_6 : decode cL_squeeze 6 = .ok (.i2l, 1) := by decide +kernel
theorem dL_squeeze_7 : decode cL_squeeze 7 = .ok (.lastore, 1) := by decide +kernel
theorem dL_squeeze_8 : decode cL_squeeze 8 = .ok (.goto 6, 3) := by decide +kernel
theorem dL_squeeze_11 : decode cL_squeeze 11 = .ok (.astore_n 2, 1) := by decide +kernel
theorem dL_squeeze_12 : decode cL_squeeze 12 = .ok (.iconst 1, 1) := by decide +kernel
theorem dL_squeeze_13 : decode cL_squeeze 13 = .ok (.ireturn, 1) := by decide +kernel
theorem dL_squeeze_14 : decode cL_squeeze 14 = .ok (.iconst 0, 1) := by decide +kernel
theorem dL_squeeze_15 : decode cL_squeeze 15 = .ok (.ireturn, 1) := by decide +kernel
set_option maxRecDepth 20000 in
theorem ggL_mount_X3_mount : GoodIn wsL_mount wsX3_mount := goodIn_ca (goodIn_r _ [6, 7, 8, 9, 10, 11, 12, 13, 14, 15, 16, 17, 18, 19, 20, 21, 22, 23, 24, 25, 5, 26, 27, 28, 29, 30, 31, 32, 33, 34, 35, 36, 37, 38, 39, 40, 41, 42, 43, 44, 45, 46, 47, 48, 49, 50, 51, 52, 53, 54, 55, 56, 57, 58, 59, 60, 61, 62, 63, 64, 65, 66, 67, 68, 69, 70, 71, 72, 73, 74, 75, 76, 77, 78, 79, 80, 81, 82, 83, 84, 85, 86, 87, 88, 89, 90, 91, 92, 93, 94, 95, 96, 97, 98, 99, 100, 101, 102, 103, 104, 105, 106, 107, 108, 109, 110, 111, 112, 113, 114, 115, 116, 117, 118, 119, 120, 121, 122, 123, 124, 125, 126, 127, 128, 129, 130, 131, 132, 133, 134, 135, 136, 137, 138, 139, 140, 141, 142, 143, 144, 145, 146, 147, 148, 149, 150, 151, 152, 153, 154, 155, 156, 157, 158, 159, 160, 161] (by decide +kernel) (by decide +kernel)) (goodIn_sub (fun _ h => List.mem_cons_of_mem _ (List.mem_append_right _ h)) (by decide +kernel))
set_option maxRecDepth 20000 in
theorem gL_mount_X3_mount : GoodIn wsL_mount (wsV RL 45 RX3 yX3_mount wsX3_mount) := goodIn_app (goodIn_of _ (by decide +kernel)) ggL_mount_X3_mount
theorem dL_mount_0 : decode cL_mount 0 = .ok (.aload_n 1, 1) := by decide +kernel
theorem dL_mount_1 : decode cL_mount 1 = .ok (.iconst 0, 1) := by decide +kernel
theorem dL_mount_2 : decode cL_mount 2 = .ok (.aload_n 0, 1) := by decide +kernel
theorem dL_mount_3 : decode cL_mount 3 = .ok (.invokevirtual 45, 3) := by decide +kernel
theorem dL_mount_6 : decode cL_mount 6 = .ok (.i2l, 1) := by decide +kernel
theorem dL_mount_7 : decode cL_mount 7 = .ok (.lastore, 1) := by decide +kernel
theorem dL_mount_8 : decode cL_mount 8 = .ok (.goto 6, 3) := by decide +kernel
theorem dL_mount_11 : decode cL_mount 11 = .ok (.astore_n 2, 1) := by decide +kernel
theorem dL_mount_12 : decode cL_mount 12 = .ok (.iconst 1, 1) := by decide +kernel
theorem dL_mount_13 : decode cL_mount 13 = .ok (.ireturn, 1) := by decide +kernel
theorem dL_mount_14 : decode cL_mount 14 = .ok (.iconst 0, 1) := by decide +kernel
theorem dL_mount_15 : decode cL_mount 15 = .ok (.ireturn, 1) := by decide +kernel
set_option maxRecDepth 20000 in
theorem ggL_cutAfter_X3_cutAfter : GoodIn wsL_cutAfter wsX3_cutAfter := goodIn_ca (goodIn_ca (goodIn_r _ [7, 8, 9, 10, 11, 12, 13, 6, 14, 15, 16, 17, 18, 19, 20, 21, 22, 23, 24, 25, 26, 27, 28, 29, 30, 31, 32, 33, 34, 35, 36] (by decide +kernel) (by decide +kernel)) (goodIn_sub (fun _ h => List.mem_cons_of_mem _ (List.mem_append_left _ (List.mem_append_right _ h))) (by decide +kernel))) (goodIn_sub (fun _ h => List.mem_cons_of_mem _ (List.mem_append_right _ h)) (by decide +kernel))
set_option maxRecDepth 20000 in
theorem gL_cutAfter_X3_cutAfter : GoodIn wsL_cutAfter (wsV RL 48 RX3 yX3_cutAfter wsX3_cutAfter) := goodIn_app (goodIn_of _ (by decide +kernel)) ggL_cutAfter_X3_cutAfter
theorem dL_cutAfter_0 : decode cL_cutAfter 0 = .ok (.aload_n 0, 1) := by decide +kernel
theorem dL_cutAfter_1 : decode cL_cutAfter 1 = .ok (.iload_n 1, 1) := by decide +kernel
theorem dL_cutAfter_2 : decode cL_cutAfter 2 = .ok (.invokevirtual 48, 3) := by decide +kernel
theorem dL_cutAfter_5 : decode cL_cutAfter 5 = .ok (.goto 9, 3) := by decide +kernel
theorem dL_cutAfter_8 : decode cL_cutAfter 8 = .ok (.astore_n 2, 1) := by decide +kernel
theorem dL_cutAfter_9 : decode cL_cutAfter 9 = .ok (.iconst 1, 1) := by decide +kernel
theorem dL_cutAfter_10 : decode cL_cutAfter 10 = .ok (.ireturn, 1) := by decide +kernel
theorem dL_cutAfter_11 : decode cL_cutAfter 11 = .ok (.astore_n 2, 1) := by decide +kernel
theorem dL_cutAfter_12 : decode cL_cutAfter 12 = .ok (.iconst 2, 1) := by decide +kernel
theorem dL_cutAfter_13 : decode cL_cutAfter 13 = .ok (.ireturn, 1) := by decide +kernel
theorem dL_cutAfter_14 : decode cL_cutAfter 14 = .ok (.iconst 0, 1) := by decide +kernel
theorem dL_cutAfter_15 : decode cL_cutAfter 15 = .ok (.ireturn, 1) := by decide +kernel
set_option maxRecDepth 20000 in
theorem ggL_entry_X3_entry : GoodIn wsL_entry wsX3_entry := goodIn_ca (goodIn_ca (goodIn_ca (goodIn_r _ [8, 9, 10, 11, 12, 13, 14, 15, 16, 7, 17, 18, 19, 20, 21, 22, 23, 24, 25, 26, 27, 28, 29, 30, 31, 32, 33, 34, 35, 36, 37, 38, 39, 40, 41, 42, 43, 44, 45, 46, 47, 48, 49, 50, 51, 52, 53, 54, 55, 56, 57, 58, 59, 60, 61, 62, 63, 64, 65, 66, 67, 68, 69, 70, 71, 72] (by decide +kernel) (by decide +kernel)) (goodIn_sub (fun _ h => List.mem_cons_of_mem _ (List.mem_append_left _ (List.mem_append_left _ (List.mem_append_right _ h)))) (by decide +kernel))) (goodIn_sub (fun _ h => List.mem_cons_of_mem _ (List.mem_append_left _ (List.mem_append_right _ h))) (by decide +kernel))) (goodIn_sub (fun _ h => List.mem_cons_of_mem _ (List.mem_append_right _ h)) (by decide +kernel))
set_option maxRecDepth 20000 in
theorem gL_entry_X3_entry : GoodIn wsL_entry (wsV RL 52 RX3 yX3_entry wsX3_entry) := goodIn_app (goodIn_of _ (by decide +kernel)) ggL_entry_X3_entry
theorem dL_entry_0 : decode cL_entry 0 = .ok (.aload_n 3, 1) := by decide +kernel
theorem dL_entry_1 : decode cL_entry 1 = .ok (.iconst 0, 1) := by decide +kernel
theorem dL_entry_2 : decode cL_entry 2 = .ok (.aload_n 0, 1) := by decide +kernel
theorem dL_entry_3 : decode cL_entry 3 = .ok (.iload_n 1, 1) := by decide +kernel
theorem dL_entry_4 : decode cL_entry 4 = .ok (.iload_n 2, 1) := by decide +kernel
theorem dL_entry_5 : decode cL_entry 5 = .ok (.invokevirtual 52, 3) := by decide +kernel
theorem dL_entry_8 : decode cL_entry 8 = .ok (.i2l, 1) := by decide +kernel
theorem dL_entry_9 : decode cL_entry 9 = .ok (.lastore, 1) := by decide +kernel
theorem dL_entry_10 : decode cL_entry 10 = .ok (.goto 15, 3) := by decide +kernel
theorem dL_entry_13 : decode cL_entry 13 = .ok (.astore 4, 2) := by decide +kernel
theorem dL_entry_15 : decode cL_entry 15 = .ok (.iconst 1, 1) := by decide +kernel
theorem dL_entry_16 : decode cL_entry 16 = .ok (.ireturn, 1) := by decide +kernel
theorem dL_entry_17 : decode cL_entry 17 = .ok (.astore 4, 2) := by decide +kernel
theorem dL_entry_19 : decode cL_entry 19 = .ok (.iconst 2, 1) := by decide +kernel
theorem dL_entry_20 : decode cL_entry 20 = .ok (.ireturn, 1) := by decide +kernel
theorem dL_entry_21 : decode cL_entry 21 = .ok (.astore 4, 2) := by decide +kernel
theorem dL_entry_23 : decode cL_entry 23 = .ok (.iconst 3, 1) := by decide +kernel
theorem dL_entry_24 : decode cL_entry 24 = .ok (.ireturn, 1) := by decide +kernel
theorem dL_entry_25 : decode cL_entry 25 = .ok (.iconst 0, 1) := by decide +kernel
theorem dL_entry_26 : decode cL_entry 26 = .ok (.ireturn, 1) := by decide +kernel
set_option maxRecDepth 20000 in
theorem ggL_entries_X3_entries : GoodIn wsL_entries wsX3_entries := goodIn_ca (goodIn_r _ [6, 7, 8, 9, 10, 5, 11, 12, 13, 14, 15, 16, 17, 18, 19, 20, 21, 22, 23, 24, 25, 26, 27, 28, 29, 30, 31, 32, 33, 34, 35, 36, 37, 38, 39, 40] (by decide +kernel) (by decide +kernel)) (goodIn_sub (fun _ h => List.mem_cons_of_mem _ (List.mem_append_right _ h)) (by decide +kernel))
set_option maxRecDepth 20000 in
theorem gL_entries_X3_entries : GoodIn wsL_entries (wsV RL 57 RX3 yX3_entries wsX3_entries) := goodIn_app (goodIn_of _ (by decide +kernel)) ggL_entries_X3_entries
theorem dL_entries_0 : decode cL_entries 0 = .ok (.aload_n 1, 1) := by decide +kernel
theorem dL_entries_1 : decode cL_entries 1 = .ok (.iconst 0, 1) := by decide +kernel
theorem dL_entries_2 : decode cL_entries 2 = .ok (.aload_n 0, 1) := by decide +kernel
theorem dL_entries_3 : decode cL_entries 3 = .ok (.invokevirtual 57, 3) := by decide +kernel
theorem dL_entries_6 : decode cL_entries 6 = .ok (.i2l, 1) := by decide +kernel
theorem dL_entries_7 : decode cL_entries 7 = .ok (.lastore, 1) := by decide +kernel
theorem dL_entries_8 : decode cL_entries 8 = .ok (.goto 6, 3) := by decide +kernel
theorem dL_entries_11 : decode cL_entries 11 = .ok (.astore_n 2, 1) := by decide +kernel
theorem dL_entries_12 : decode cL_entries 12 = .ok (.iconst 1, 1) := by decide +kernel
theorem dL_entries_13 : decode cL_entries 13 = .ok (.ireturn, 1) := by decide +kernel
theorem dL_entries_14 : decode cL_entries 14 = .ok (.iconst 0, 1) := by decide +kernel
theorem dL_entries_15 : decode cL_entries 15 = .ok (.ireturn, 1) := by decide +kernel
set_option maxRecDepth 20000 in
theorem ggL_free_X3_free : GoodIn wsL_free wsX3_free := goodIn_ca (goodIn_r _ [6, 7, 8, 9, 10, 5, 11, 12, 13, 14, 15, 16, 17, 18, 19, 20, 21, 22, 23, 24, 25, 26, 27, 28, 29, 30, 31, 32, 33, 34, 35, 36, 37, 38, 39, 40, 41, 42, 43, 44, 45, 46, 47, 48, 49, 50, 51, 52, 53, 54, 55, 56, 57] (by decide +kernel) (by decide +kernel)) (goodIn_sub (fun _ h => List.mem_cons_of_mem _ (List.mem_append_right _ h)) (by decide +kernel))
set_option maxRecDepth 20000 in
theorem gL_free_X3_free : GoodIn wsL_free (wsV RL 60 RX3 yX3_free wsX3_free) := goodIn_app (goodIn_of _ (by decide +kernel)) ggL_free_X3_free
theorem dL_free_0 : decode cL_free 0 = .ok (.aload_n 2, 1) := by decide +kernel
theorem dL_free_1 : decode cL_free 1 = .ok (.iconst 0, 1) := by decide +kernel
theorem dL_free_2 : decode cL_free 2 = .ok (.aload_n 0, 1) := by decide +kernel
theorem dL_free_3 : decode cL_free 3 = .ok (.iload_n 1, 1) := by decide +kernel
theorem dL_free_4 : decode cL_free 4 = .ok (.invokevirtual 60, 3) := by decide +kernel
theorem dL_free_7 : decode cL_free 7 = .ok (.i2l, 1) := by decide +kernel
theorem dL_free_8 : decode cL_free 8 = .ok (.lastore, 1) := by decide +kernel
theorem dL_free_9 : decode cL_free 9 = .ok (.goto 6, 3) := by decide +kernel
theorem dL_free_12 : decode cL_free 12 = .ok (.astore_n 3, 1) := by decide +kernel
theorem dL_free_13 : decode cL_free 13 = .ok (.iconst 1, 1) := by decide +kernel
theorem dL_free_14 : decode cL_free 14 = .ok (.ireturn, 1) := by decide +kernel
theorem dL_free_15 : decode cL_free 15 = .ok (.iconst 0, 1) := by decide +kernel
theorem dL_free_16 : decode cL_free 16 = .ok (.ireturn, 1) := by decide +kernel
set_option maxRecDepth 20000 in
theorem ggL_handle_X3_handle : GoodIn wsL_handle wsX3_handle := goodIn_ca (goodIn_r _ [6, 7, 8, 9, 10, 5, 11, 12, 13, 14, 15, 16, 17, 18, 19, 20, 21, 22, 23, 24, 25, 26, 27, 28, 29, 30, 31, 32, 33, 34, 35, 36, 37, 38, 39, 40, 41, 42, 43, 44, 45, 46, 47, 48, 49, 50, 51, 52, 53, 54] (by decide +kernel) (by decide +kernel)) (goodIn_sub (fun _ h => List.mem_cons_of_mem _ (List.mem_append_right _ h)) (by decide +kernel))
set_option maxRecDepth 20000 in
theorem gL_handle_X3_handle : GoodIn wsL_handle (wsV RL 64 RX3 yX3_handle wsX3_handle) := goodIn_app (goodIn_of _ (by decide +kernel)) ggL_handle_X3_handle
theorem dL_handle_0 : decode cL_handle 0 = .ok (.aload_n 2, 1) := by decide +kernel
theorem dL_handle_1 : decode cL_handle 1 = .ok (.iconst 0, 1) := by decide +kernel
theorem dL_handle_2 : decode cL_handle 2 = .ok (.aload_n 0, 1) := by decide +kernel
theorem dL_handle_3 : decode cL_handle 3 = .ok (.iload_n 1, 1) := by decide +kernel
theorem dL_handle_4 : decode cL_handle 4 = .ok (.invokevirtual 64, 3) := by decide +kernel
theorem dL_handle_7 : decode cL_handle 7 = .ok (.i2l, 1) := by decide +kernel
theorem dL_handle_8 : decode cL_handle 8 = .ok (.lastore, 1) := by decide +kernel
theorem dL_handle_9 : decode cL_handle 9 = .ok (.goto 6, 3) := by decide +kernel
theorem dL_handle_12 : decode cL_handle 12 = .ok (.astore_n 3, 1) := by decide +kernel
theorem dL_handle_13 : decode cL_handle 13 = .ok (.iconst 1, 1) := by decide +kernel
theorem dL_handle_14 : decode cL_handle 14 = .ok (.ireturn, 1) := by decide +kernel
theorem dL_handle_15 : decode cL_handle 15 = .ok (.iconst 0, 1) := by decide +kernel
theorem dL_handle_16 : decode cL_handle 16 = .ok (.ireturn, 1) := by decide +kernel
set_option maxRecDepth 20000 in
theorem ggL_law_X3_init : GoodIn wsL_law wsX3_init := goodIn_r _ [9, 10, 11, 12, 13, 14, 15, 16, 17, 18, 19, 20, 21, 22, 23, 24, 25, 26, 27, 28, 29, 30, 31, 32, 33, 34, 35, 36, 37, 38, 39, 40, 41, 42, 43, 44, 45, 46, 47, 48, 49, 50, 51, 52, 53, 54, 55, 56, 57, 58, 59, 60, 61, 62, 63, 64, 65, 66, 67, 68, 69, 70, 71, 573, 574, 575, 547, 548, 549, 550, 551, 552, 576, 577, 578, 579, 580, 581] (by decide +kernel) (by decide +kernel)
set_option maxRecDepth 20000 in
theorem gL_law_X3_init : GoodIn wsL_law (wsX3_init) := ggL_law_X3_init
set_option maxRecDepth 20000 in
theorem ggL_law_X4_init : GoodIn wsL_law wsX4_init := goodIn_r _ [74, 75, 11, 12, 76, 77, 43, 78, 79, 80, 81, 82, 83, 553, 554, 555, 556, 557, 558, 559, 560, 561, 562, 563, 564, 565, 566, 567, 568, 569, 570, 571, 572] (by decide +kernel) (by decide +kernel)
set_option maxRecDepth 20000 in
theorem gL_law_X4_init : GoodIn wsL_law (wsX4_init) := ggL_law_X4_init
set_option maxRecDepth 20000 in
theorem ggL_law_L_enter : GoodIn wsL_law wsL_enter := goodIn_ca (goodIn_ca (goodIn_ca (goodIn_r _ [87, 88, 89, 90, 91, 92, 93, 2, 94, 95, 96, 97, 98, 99, 100, 24, 101, 102, 103, 104, 16, 105, 106, 107, 15, 108, 32, 109, 110, 111, 112, 113, 114, 115, 23, 116, 117, 118, 119, 120, 54, 50, 53, 64, 65, 66, 19, 67, 44, 121, 122, 123, 124, 51, 125, 126, 41, 127, 128, 40, 42, 129, 130, 131, 132, 133, 134, 135, 136, 25, 137, 138, 139, 140, 141, 142, 143, 144, 145, 146, 147, 148, 149, 150, 151, 152, 153, 154, 155, 156, 52, 157, 158, 159, 160, 60, 61, 62, 63, 68, 69, 70, 71, 161, 162, 56, 57, 58, 59, 163, 164, 165, 166, 167, 168, 169, 170, 171, 172, 173, 174, 175, 176, 177, 178, 33, 34, 179, 180, 181, 182, 183, 184, 185, 186, 187, 547, 548, 549, 550, 551, 552, 573, 574, 575, 577, 578, 579, 580, 581, 576] (by decide +kernel) (by decide +kernel)) (goodIn_sub (fun _ h => List.mem_append_left _ (List.mem_append_left _ (List.mem_append_left _ (List.mem_append_left _ (List.mem_append_right _ h))))) (by decide +kernel))) (goodIn_sub (fun _ h => List.mem_append_left _ (List.mem_append_left _ (List.mem_append_left _ (List.mem_append_right _ h)))) (by decide +kernel))) (goodIn_sub (fun _ h => List.mem_append_left _ (List.mem_append_left _ (List.mem_append_right _ h))) (by decide +kernel))
set_option maxRecDepth 20000 in
theorem gL_law_L_enter : GoodIn wsL_law (va_wsS RL 71 yL_enter wsL_enter) := goodIn_app (goodIn_of _ (by decide +kernel)) ggL_law_L_enter
set_option maxRecDepth 20000 in
theorem ggL_law_X4_enter : GoodIn wsL_law wsX4_enter := goodIn_r _ [191, 76, 192, 81, 193, 80, 82, 83, 194, 195, 5, 196, 197, 198, 199, 200, 201, 202, 203, 204, 79, 205, 206, 207, 208, 209, 210, 211, 212, 213, 214, 215, 216, 217, 218, 219, 220, 221, 222, 223, 224, 225, 226, 227, 228, 229, 77, 230, 231, 232, 233, 234, 235, 236, 553, 554, 555, 556, 557, 558, 559, 560, 561, 562, 563, 564, 565, 566, 567, 568, 569, 570, 571, 572] (by decide +kernel) (by decide +kernel)
set_option maxRecDepth 20000 in
theorem gL_law_X4_enter : GoodIn wsL_law (wsV RL 76 RX4 yX4_enter wsX4_enter) := goodIn_app (goodIn_of _ (by decide +kernel)) ggL_law_X4_enter
set_option maxRecDepth 20000 in
theorem ggL_law_X4_thrown : GoodIn wsL_law wsX4_thrown := goodIn_r _ [240, 192, 553, 554, 555, 556, 557, 558, 559, 560, 561, 562, 563, 564, 565, 566, 567, 568, 569, 570, 571, 572] (by decide +kernel) (by decide +kernel)
set_option maxRecDepth 20000 in
theorem gL_law_X4_thrown : GoodIn wsL_law (wsV RL 77 RX4 yX4_thrown wsX4_thrown) := goodIn_app (goodIn_of _ (by decide +kernel)) ggL_law_X4_thrown
set_option maxRecDepth 20000 in
theorem ggL_law_L_put : GoodIn wsL_law wsL_put := goodIn_ca (goodIn_ca (goodIn_ca (goodIn_r _ [243, 88, 244, 89, 245, 246, 247, 2, 248, 24, 101, 102, 103, 104, 97, 98, 16, 105, 106, 107, 15, 108, 32, 249, 250, 251, 252, 253, 254, 255, 118, 119, 23, 120, 54, 50, 53, 64, 65, 66, 19, 67, 44, 256, 257, 258, 259, 95, 96, 162, 150, 151, 152, 51, 260, 261, 262, 263, 264, 265, 266, 267, 20, 175, 176, 177, 178, 33, 34, 268, 69, 70, 71, 547, 548, 549, 550, 551, 552, 573, 574, 575, 577, 578, 579, 580, 581, 576] (by decide +kernel) (by decide +kernel)) (goodIn_sub (fun _ h => List.mem_append_left _ (List.mem_append_left _ (List.mem_append_left _ (List.mem_append_right _ h)))) (by decide +kernel))) (goodIn_sub (fun _ h => List.mem_append_left _ (List.mem_append_right _ h)) (by decide +kernel))) (goodIn_sub (fun _ h => List.mem_append_left _ (List.mem_append_left _ (List.mem_append_left _ (List.mem_append_left _ (List.mem_append_right _ h))))) (by decide +kernel))
set_option maxRecDepth 20000 in
theorem gL_law_L_put : GoodIn wsL_law (va_wsS RL 80 yL_put wsL_put) := goodIn_app (goodIn_of _ (by decide +kernel)) ggL_law_L_put
set_option maxRecDepth 20000 in
theorem ggL_law_X4_put : GoodIn wsL_law wsX4_put := goodIn_r _ [272, 76, 192, 78, 233, 234, 235, 5, 236, 81, 83, 273, 274, 275, 276, 79, 226, 227, 228, 229, 77, 230, 231, 232, 277, 278, 279, 280, 553, 554, 555, 556, 557, 558, 559, 560, 561, 562, 563, 564, 565, 566, 567, 568, 569, 570, 571, 572] (by decide +kernel) (by decide +kernel)
set_option maxRecDepth 20000 in
theorem gL_law_X4_put : GoodIn wsL_law (wsV RL 83 RX4 yX4_put wsX4_put) := goodIn_app (goodIn_of _ (by decide +kernel)) ggL_law_X4_put
set_option maxRecDepth 20000 in
theorem ggL_law_L_close : GoodIn wsL_law wsL_close := goodIn_ca (goodIn_ca (goodIn_ca (goodIn_ca (goodIn_r _ [283, 88, 244, 89, 90, 284, 285, 286, 2, 287, 95, 96, 24, 25, 101, 102, 103, 104, 97, 98, 16, 105, 106, 107, 15, 108, 32, 249, 250, 251, 252, 253, 254, 255, 118, 119, 23, 120, 54, 50, 53, 64, 65, 66, 19, 67, 44, 162, 150, 151, 152, 51, 288, 289, 290, 291, 292, 154, 155, 156, 52, 293, 294, 295, 296, 137, 138, 139, 140, 163, 164, 165, 166, 161, 61, 62, 63, 68, 69, 70, 71, 56, 57, 58, 59, 60, 141, 142, 143, 144, 145, 146, 147, 148, 149, 153, 157, 158, 159, 160, 167, 168, 169, 170, 99, 100, 297, 298, 299, 300, 171, 172, 173, 174, 175, 176, 177, 178, 33, 34, 179, 180, 181, 182, 183, 184, 185, 186, 187, 547, 548, 549, 550, 551, 552, 573, 574, 575, 577, 578, 579, 580, 581, 576] (by decide +kernel) (by decide +kernel)) (goodIn_sub (fun _ h => List.mem_append_left _ (List.mem_append_left _ (List.mem_append_left _ (List.mem_append_left _ (List.mem_append_right _ h))))) (by decide +kernel))) (goodIn_sub (fun _ h => List.mem_append_left _ (List.mem_append_left _ (List.mem_append_left _ (List.mem_append_right _ h)))) (by decide +kernel))) (goodIn_sub (fun _ h => List.mem_append_left _ (List.mem_append_right _ h)) (by decide +kernel))) (goodIn_sub (fun _ h => List.mem_append_left _ (List.mem_append_left _ (List.mem_append_right _ h))) (by decide +kernel))
set_option maxRecDepth 20000 in
theorem gL_law_L_close : GoodIn wsL_law (va_wsS RL 84 yL_close wsL_close) := goodIn_app (goodIn_of _ (by decide +kernel)) ggL_law_L_close
set_option maxRecDepth 20000 in
theorem ggL_law_X4_close : GoodIn wsL_law wsX4_close := goodIn_r _ [304, 76, 192, 82, 81, 233, 234, 235, 5, 236, 83, 273, 274, 275, 276, 79, 305, 306, 307, 308, 214, 215, 216, 217, 80, 309, 310, 311, 312, 218, 219, 220, 221, 222, 223, 224, 225, 226, 227, 228, 229, 77, 230, 231, 232, 553, 554, 555, 556, 557, 558, 559, 560, 561, 562, 563, 564, 565, 566, 567, 568, 569, 570, 571, 572] (by decide +kernel) (by decide +kernel)
set_option maxRecDepth 20000 in
theorem gL_law_X4_close : GoodIn wsL_law (wsV RL 86 RX4 yX4_close wsX4_close) := goodIn_app (goodIn_of _ (by decide +kernel)) ggL_law_X4_close
set_option maxRecDepth 20000 in
theorem ggL_law_L_purge : GoodIn wsL_law wsL_purge := goodIn_ca (goodIn_ca (goodIn_r _ [315, 88, 244, 316, 317, 318, 2, 319, 101, 102, 103, 104, 97, 98, 16, 105, 106, 107, 15, 108, 32, 249, 250, 251, 252, 253, 254, 24, 255, 118, 119, 23, 120, 54, 50, 53, 64, 65, 66, 19, 67, 44, 320, 321, 322, 323, 25, 162, 150, 151, 152, 51, 137, 138, 139, 140, 141, 142, 143, 144, 145, 146, 147, 148, 149, 153, 154, 155, 156, 52, 157, 158, 159, 160, 60, 61, 62, 63, 68, 69, 70, 71, 56, 57, 58, 59, 163, 164, 165, 166, 171, 172, 173, 174, 175, 176, 177, 178, 33, 34, 179, 180, 181, 182, 183, 184, 185, 186, 187, 547, 548, 549, 550, 551, 552, 573, 574, 575, 577, 578, 579, 580, 581, 576] (by decide +kernel) (by decide +kernel)) (goodIn_sub (fun _ h => List.mem_append_left _ (List.mem_append_left _ (List.mem_append_left _ (List.mem_append_right _ h)))) (by decide +kernel))) (goodIn_sub (fun _ h => List.mem_append_left _ (List.mem_append_right _ h)) (by decide +kernel))
set_option maxRecDepth 20000 in
theorem gL_law_L_purge : GoodIn wsL_law (va_wsS RL 87 yL_purge wsL_purge) := goodIn_app (goodIn_of _ (by decide +kernel)) ggL_law_L_purge
set_option maxRecDepth 20000 in
theorem ggL_law_X4_purge : GoodIn wsL_law wsX4_purge := goodIn_r _ [327, 76, 192, 233, 234, 235, 5, 236, 81, 83, 328, 329, 330, 331, 273, 274, 275, 276, 79, 214, 215, 216, 217, 80, 309, 310, 311, 312, 222, 223, 224, 225, 218, 219, 220, 221, 226, 227, 228, 229, 77, 230, 231, 232, 553, 554, 555, 556, 557, 558, 559, 560, 561, 562, 563, 564, 565, 566, 567, 568, 569, 570, 571, 572] (by decide +kernel) (by decide +kernel)
set_option maxRecDepth 20000 in
theorem gL_law_X4_purge : GoodIn wsL_law (wsV RL 90 RX4 yX4_purge wsX4_purge) := goodIn_app (goodIn_of _ (by decide +kernel)) ggL_law_X4_purge
set_option maxRecDepth 20000 in
theorem ggL_law_L_delete : GoodIn wsL_law wsL_delete := goodIn_ca (goodIn_ca (goodIn_r _ [334, 88, 244, 335, 336, 337, 2, 338, 101, 102, 103, 104, 97, 98, 16, 105, 106, 107, 15, 108, 32, 339, 340, 341, 342, 253, 254, 24, 293, 294, 295, 23, 296, 54, 50, 52, 64, 65, 66, 19, 67, 44, 320, 321, 322, 323, 25, 162, 150, 151, 152, 51, 137, 138, 139, 140, 141, 142, 143, 144, 145, 146, 147, 148, 149, 153, 154, 155, 156, 157, 158, 159, 160, 53, 60, 61, 62, 63, 68, 69, 70, 71, 56, 57, 58, 59, 163, 164, 165, 166, 171, 172, 173, 174, 175, 176, 177, 178, 33, 34, 179, 180, 181, 182, 183, 184, 185, 186, 187, 547, 548, 549, 550, 551, 552, 573, 574, 575, 577, 578, 579, 580, 581, 576] (by decide +kernel) (by decide +kernel)) (goodIn_sub (fun _ h => List.mem_append_left _ (List.mem_append_left _ (List.mem_append_left _ (List.mem_append_right _ h)))) (by decide +kernel))) (goodIn_sub (fun _ h => List.mem_append_left _ (List.mem_append_right _ h)) (by decide +kernel))
set_option maxRecDepth 20000 in
theorem gL_law_L_delete : GoodIn wsL_law (va_wsS RL 91 yL_delete wsL_delete) := goodIn_app (goodIn_of _ (by decide +kernel)) ggL_law_L_delete
set_option maxRecDepth 20000 in
theorem ggL_law_X4_delete : GoodIn wsL_law wsX4_delete := goodIn_r _ [346, 76, 192, 305, 306, 307, 5, 308, 81, 82, 328, 329, 330, 331, 273, 274, 275, 276, 79, 214, 215, 216, 217, 80, 309, 310, 311, 312, 222, 223, 224, 225, 218, 219, 220, 221, 226, 227, 228, 229, 77, 230, 231, 232, 553, 554, 555, 556, 557, 558, 559, 560, 561, 562, 563, 564, 565, 566, 567, 568, 569, 570, 571, 572] (by decide +kernel) (by decide +kernel)
set_option maxRecDepth 20000 in
theorem gL_law_X4_delete : GoodIn wsL_law (wsV RL 93 RX4 yX4_delete wsX4_delete) := goodIn_app (goodIn_of _ (by decide +kernel)) ggL_law_X4_delete
set_option maxRecDepth 20000 in
theorem ggL_law_L_rename : GoodIn wsL_law wsL_rename := goodIn_ca (goodIn_ca (goodIn_ca (goodIn_ca (goodIn_r _ [349, 88, 89, 244, 90, 350, 351, 352, 2, 353, 99, 100, 24, 25, 101, 102, 103, 104, 97, 98, 16, 105, 106, 107, 15, 108, 32, 109, 110, 111, 112, 95, 96, 339, 340, 341, 342, 253, 254, 293, 294, 295, 23, 296, 54, 50, 52, 64, 65, 66, 19, 67, 44, 137, 138, 139, 140, 141, 142, 143, 144, 145, 146, 147, 148, 149, 150, 151, 152, 51, 153, 154, 155, 156, 157, 158, 159, 160, 53, 60, 61, 62, 63, 68, 69, 70, 71, 162, 161, 163, 164, 165, 166, 171, 172, 173, 174, 175, 176, 177, 178, 33, 34, 179, 180, 181, 182, 183, 184, 185, 186, 187, 547, 548, 549, 550, 551, 552, 573, 574, 575, 577, 578, 579, 580, 581, 576] (by decide +kernel) (by decide +kernel)) (goodIn_sub (fun _ h => List.mem_append_left _ (List.mem_append_left _ (List.mem_append_right _ h))) (by decide +kernel))) (goodIn_sub (fun _ h => List.mem_append_left _ (List.mem_append_left _ (List.mem_append_left _ (List.mem_append_right _ h)))) (by decide +kernel))) (goodIn_sub (fun _ h => List.mem_append_left _ (List.mem_append_left _ (List.mem_append_left _ (List.mem_append_left _ (List.mem_append_right _ h))))) (by decide +kernel))) (goodIn_sub (fun _ h => List.mem_append_left _ (List.mem_append_right _ h)) (by decide +kernel))
set_option maxRecDepth 20000 in
theorem gL_law_L_rename : GoodIn wsL_law (va_wsS RL 94 yL_rename wsL_rename) := goodIn_app (goodIn_of _ (by decide +kernel)) ggL_law_L_rename
set_option maxRecDepth 20000 in
theorem ggL_law_X4_rename : GoodIn wsL_law wsX4_rename := goodIn_r _ [357, 76, 192, 82, 194, 195, 5, 196, 305, 306, 307, 308, 81, 214, 215, 216, 217, 80, 79, 222, 223, 224, 225, 218, 219, 220, 221, 226, 227, 228, 229, 77, 230, 231, 232, 553, 554, 555, 556, 557, 558, 559, 560, 561, 562, 563, 564, 565, 566, 567, 568, 569, 570, 571, 572] (by decide +kernel) (by decide +kernel)
set_option maxRecDepth 20000 in
theorem gL_law_X4_rename : GoodIn wsL_law (wsV RL 96 RX4 yX4_rename wsX4_rename) := goodIn_app (goodIn_of _ (by decide +kernel)) ggL_law_X4_rename
set_option maxRecDepth 20000 in
theorem ggL_law_L_read : GoodIn wsL_law wsL_read := goodIn_ca (goodIn_ca (goodIn_ca (goodIn_r _ [360, 88, 244, 89, 361, 362, 363, 2, 364, 20, 24, 101, 102, 103, 104, 97, 98, 16, 105, 106, 107, 15, 108, 32, 339, 340, 341, 342, 253, 254, 293, 294, 295, 23, 296, 54, 50, 52, 64, 65, 66, 19, 67, 44, 256, 257, 258, 259, 95, 96, 162, 150, 151, 152, 51, 260, 261, 262, 263, 365, 547, 548, 549, 550, 551, 552, 573, 574, 575, 577, 578, 579, 580, 581, 576] (by decide +kernel) (by decide +kernel)) (goodIn_sub (fun _ h => List.mem_append_left _ (List.mem_append_left _ (List.mem_append_left _ (List.mem_append_right _ h)))) (by decide +kernel))) (goodIn_sub (fun _ h => List.mem_append_left _ (List.mem_append_right _ h)) (by decide +kernel))) (goodIn_sub (fun _ h => List.mem_append_left _ (List.mem_append_left _ (List.mem_append_left _ (List.mem_append_left _ (List.mem_append_right _ h))))) (by decide +kernel))
set_option maxRecDepth 20000 in
theorem gL_law_L_read : GoodIn wsL_law (va_wsS RL 97 yL_read wsL_read) := goodIn_app (goodIn_of _ (by decide +kernel)) ggL_law_L_read
set_option maxRecDepth 20000 in
theorem ggL_law_X4_read : GoodIn wsL_law wsX4_read := goodIn_r _ [369, 76, 192, 78, 305, 306, 307, 5, 308, 81, 82, 273, 274, 275, 276, 79, 277, 278, 279, 280, 553, 554, 555, 556, 557, 558, 559, 560, 561, 562, 563, 564, 565, 566, 567, 568, 569, 570, 571, 572] (by decide +kernel) (by decide +kernel)
set_option maxRecDepth 20000 in
theorem gL_law_X4_read : GoodIn wsL_law (wsV RL 99 RX4 yX4_read wsX4_read) := goodIn_app (goodIn_of _ (by decide +kernel)) ggL_law_X4_read
set_option maxRecDepth 20000 in
theorem ggL_law_L_squeeze : GoodIn wsL_law wsL_squeeze := goodIn_ca (goodIn_r _ [372, 88, 373, 374, 375, 2, 376, 97, 98, 24, 101, 102, 103, 104, 16, 105, 106, 107, 15, 108, 32, 377, 378, 379, 23, 380, 54, 50, 64, 65, 66, 19, 67, 44, 381, 382, 383, 384, 26, 385, 386, 387, 388, 162, 150, 151, 152, 51, 389, 390, 391, 392, 27, 393, 394, 395, 396, 397, 126, 41, 127, 398, 40, 42, 20, 260, 261, 262, 263, 399, 400, 401, 402, 175, 176, 177, 178, 33, 34, 365, 264, 265, 266, 267, 268, 69, 70, 71, 403, 404, 405, 406, 25, 137, 138, 139, 140, 141, 142, 143, 144, 145, 146, 147, 148, 149, 153, 154, 155, 156, 52, 157, 158, 159, 160, 53, 60, 61, 62, 63, 68, 56, 57, 58, 59, 163, 164, 165, 166, 171, 172, 173, 174, 179, 180, 181, 182, 183, 184, 185, 186, 187, 547, 548, 549, 550, 551, 552, 573, 574, 575, 577, 578, 579, 580, 581, 576] (by decide +kernel) (by decide +kernel)) (goodIn_sub (fun _ h => List.mem_append_left _ (List.mem_append_left _ (List.mem_append_left _ (List.mem_append_right _ h)))) (by decide +kernel))
set_option maxRecDepth 20000 in
theorem gL_law_L_squeeze : GoodIn wsL_law (va_wsS RL 100 yL_squeeze wsL_squeeze) := goodIn_app (goodIn_of _ (by decide +kernel)) ggL_law_L_squeeze
set_option maxRecDepth 20000 in
theorem ggL_law_X4_squeeze : GoodIn wsL_law wsX4_squeeze := goodIn_r _ [410, 76, 192, 411, 232, 231, 197, 198, 199, 5, 200, 81, 412, 413, 414, 415, 416, 417, 418, 419, 420, 79, 421, 422, 205, 206, 207, 208, 423, 424, 425, 426, 427, 428, 78, 80, 273, 274, 275, 276, 226, 227, 228, 229, 77, 230, 214, 215, 216, 217, 222, 223, 224, 225, 218, 219, 220, 221, 553, 554, 555, 556, 557, 558, 559, 560, 561, 562, 563, 564, 565, 566, 567, 568, 569, 570, 571, 572] (by decide +kernel) (by decide +kernel)
set_option maxRecDepth 20000 in
theorem gL_law_X4_squeeze : GoodIn wsL_law (wsV RL 103 RX4 yX4_squeeze wsX4_squeeze) := goodIn_app (goodIn_of _ (by decide +kernel)) ggL_law_X4_squeeze
set_option maxRecDepth 20000 in
theorem ggL_law_L_mount : GoodIn wsL_law wsL_mount := goodIn_ca (goodIn_r _ [431, 88, 432, 433, 434, 2, 435, 97, 98, 16, 26, 24, 105, 106, 107, 15, 108, 32, 436, 437, 438, 439, 33, 381, 382, 383, 384, 385, 386, 387, 23, 388, 54, 50, 64, 65, 66, 19, 67, 44, 162, 150, 151, 152, 51, 389, 390, 391, 392, 27, 393, 394, 395, 396, 397, 126, 41, 127, 398, 40, 42, 20, 260, 261, 262, 263, 399, 400, 401, 402, 175, 176, 177, 178, 34, 365, 264, 265, 266, 267, 268, 69, 70, 71, 403, 404, 405, 406, 25, 137, 138, 139, 140, 141, 142, 143, 144, 145, 146, 147, 148, 149, 153, 154, 155, 156, 52, 157, 158, 159, 160, 53, 60, 61, 62, 63, 68, 56, 57, 58, 59, 163, 164, 165, 166, 171, 172, 173, 174, 179, 180, 181, 182, 183, 184, 185, 186, 187, 377, 378, 379, 380, 440, 441, 442, 443, 444, 547, 548, 549, 550, 551, 552, 573, 574, 575, 577, 578, 579, 580, 581, 576] (by decide +kernel) (by decide +kernel)) (goodIn_sub (fun _ h => List.mem_append_left _ (List.mem_append_left _ (List.mem_append_left _ (List.mem_append_right _ h)))) (by decide +kernel))
set_option maxRecDepth 20000 in
theorem gL_law_L_mount : GoodIn wsL_law (va_wsS RL 104 yL_mount wsL_mount) := goodIn_app (goodIn_of _ (by decide +kernel)) ggL_law_L_mount
set_option maxRecDepth 20000 in
theorem ggL_law_X4_mount : GoodIn wsL_law wsX4_mount := goodIn_r _ [448, 76, 192, 77, 427, 428, 231, 81, 423, 424, 425, 5, 426, 420, 422, 78, 421, 411, 80, 273, 274, 275, 276, 79, 226, 227, 228, 229, 230, 232, 214, 215, 216, 217, 222, 223, 224, 225, 218, 219, 220, 221, 412, 413, 414, 415, 416, 417, 418, 419, 205, 206, 207, 208, 197, 198, 199, 200, 309, 310, 311, 312, 553, 554, 555, 556, 557, 558, 559, 560, 561, 562, 563, 564, 565, 566, 567, 568, 569, 570, 571, 572] (by decide +kernel) (by decide +kernel)
set_option maxRecDepth 20000 in
theorem gL_law_X4_mount : GoodIn wsL_law (wsV RL 106 RX4 yX4_mount wsX4_mount) := goodIn_app (goodIn_of _ (by decide +kernel)) ggL_law_X4_mount
set_option maxRecDepth 20000 in
theorem ggL_law_L_cutAfter : GoodIn wsL_law wsL_cutAfter := goodIn_ca (goodIn_ca (goodIn_r _ [451, 88, 89, 452, 453, 454, 2, 455, 95, 96, 16, 101, 102, 103, 104, 97, 98, 105, 106, 107, 15, 108, 32, 456, 457, 458, 459, 33, 547, 548, 549, 550, 551, 552, 573, 574, 575] (by decide +kernel) (by decide +kernel)) (goodIn_sub (fun _ h => List.mem_append_left _ (List.mem_append_left _ (List.mem_append_left _ (List.mem_append_left _ (List.mem_append_right _ h))))) (by decide +kernel))) (goodIn_sub (fun _ h => List.mem_append_left _ (List.mem_append_left _ (List.mem_append_left _ (List.mem_append_right _ h)))) (by decide +kernel))
set_option maxRecDepth 20000 in
theorem gL_law_L_cutAfter : GoodIn wsL_law (va_wsS RL 107 yL_cutAfter wsL_cutAfter) := goodIn_app (goodIn_of _ (by decide +kernel)) ggL_law_L_cutAfter
set_option maxRecDepth 20000 in
theorem ggL_law_X4_cutAfter : GoodIn wsL_law wsX4_cutAfter := goodIn_r _ [463, 76, 192, 77, 553, 554, 555, 556, 557, 558, 559, 560, 561, 562, 563, 564, 565, 566, 567, 568, 569, 570, 571, 572] (by decide +kernel) (by decide +kernel)
set_option maxRecDepth 20000 in
theorem gL_law_X4_cutAfter : GoodIn wsL_law (wsV RL 110 RX4 yX4_cutAfter wsX4_cutAfter) := goodIn_app (goodIn_of _ (by decide +kernel)) ggL_law_X4_cutAfter
set_option maxRecDepth 20000 in
theorem ggL_law_L_entry : GoodIn wsL_law wsL_entry := goodIn_ca (goodIn_ca (goodIn_ca (goodIn_r _ [466, 88, 89, 467, 468, 469, 470, 2, 471, 95, 96, 472, 473, 24, 101, 102, 103, 104, 97, 98, 16, 105, 106, 107, 15, 108, 32, 163, 164, 165, 23, 166, 54, 444, 146, 147, 148, 50, 64, 65, 66, 19, 67, 44, 260, 261, 262, 263, 51, 162, 150, 151, 152, 292, 154, 155, 156, 52, 547, 548, 549, 550, 551, 552, 573, 574, 575, 577, 578, 579, 580, 581, 576] (by decide +kernel) (by decide +kernel)) (goodIn_sub (fun _ h => List.mem_append_left _ (List.mem_append_left _ (List.mem_append_left _ (List.mem_append_left _ (List.mem_append_right _ h))))) (by decide +kernel))) (goodIn_sub (fun _ h => List.mem_append_right _ h) (by decide +kernel))) (goodIn_sub (fun _ h => List.mem_append_left _ (List.mem_append_left _ (List.mem_append_left _ (List.mem_append_right _ h)))) (by decide +kernel))
set_option maxRecDepth 20000 in
theorem gL_law_L_entry : GoodIn wsL_law (va_wsS RL 111 yL_entry wsL_entry) := goodIn_app (goodIn_of _ (by decide +kernel)) ggL_law_L_entry
set_option maxRecDepth 20000 in
theorem ggL_law_X4_entry : GoodIn wsL_law wsX4_entry := goodIn_r _ [477, 76, 192, 79, 193, 81, 213, 82, 478, 479, 480, 5, 481, 205, 206, 207, 208, 553, 554, 555, 556, 557, 558, 559, 560, 561, 562, 563, 564, 565, 566, 567, 568, 569, 570, 571, 572] (by decide +kernel) (by decide +kernel)
set_option maxRecDepth 20000 in
theorem gL_law_X4_entry : GoodIn wsL_law (wsV RL 113 RX4 yX4_entry wsX4_entry) := goodIn_app (goodIn_of _ (by decide +kernel)) ggL_law_X4_entry
set_option maxRecDepth 20000 in
theorem ggL_law_L_entries : GoodIn wsL_law wsL_entries := goodIn_ca (goodIn_r _ [484, 88, 485, 486, 487, 2, 488, 24, 101, 102, 103, 104, 97, 98, 16, 105, 106, 107, 15, 108, 32, 163, 164, 165, 23, 166, 54, 547, 548, 549, 550, 551, 552, 573, 574, 575, 577, 578, 579, 580, 581] (by decide +kernel) (by decide +kernel)) (goodIn_sub (fun _ h => List.mem_append_left _ (List.mem_append_left _ (List.mem_append_left _ (List.mem_append_right _ h)))) (by decide +kernel))
set_option maxRecDepth 20000 in
theorem gL_law_L_entries : GoodIn wsL_law (va_wsS RL 114 yL_entries wsL_entries) := goodIn_app (goodIn_of _ (by decide +kernel)) ggL_law_L_entries
set_option maxRecDepth 20000 in
theorem ggL_law_X4_entries : GoodIn wsL_law wsX4_entries := goodIn_r _ [492, 76, 192, 493, 494, 495, 5, 496, 79, 553, 554, 555, 556, 557, 558, 559, 560, 561, 562, 563, 564, 565, 566, 567, 568, 569, 570, 571, 572] (by decide +kernel) (by decide +kernel)
set_option maxRecDepth 20000 in
theorem gL_law_X4_entries : GoodIn wsL_law (wsV RL 116 RX4 yX4_entries wsX4_entries) := goodIn_app (goodIn_of _ (by decide +kernel)) ggL_law_X4_entries
set_option maxRecDepth 20000 in
theorem ggL_law_L_free : GoodIn wsL_law wsL_free := goodIn_ca (goodIn_r _ [499, 88, 500, 501, 502, 2, 503, 24, 101, 102, 103, 104, 97, 98, 16, 105, 106, 107, 15, 108, 32, 504, 505, 506, 23, 507, 54, 50, 51, 128, 40, 41, 42, 64, 65, 66, 19, 67, 44, 297, 298, 299, 300, 547, 548, 549, 550, 551, 552, 573, 574, 575, 577, 578, 579, 580, 581, 576] (by decide +kernel) (by decide +kernel)) (goodIn_sub (fun _ h => List.mem_append_left _ (List.mem_append_left _ (List.mem_append_left _ (List.mem_append_right _ h)))) (by decide +kernel))
set_option maxRecDepth 20000 in
theorem gL_law_L_free : GoodIn wsL_law (va_wsS RL 117 yL_free wsL_free) := goodIn_app (goodIn_of _ (by decide +kernel)) ggL_law_L_free
set_option maxRecDepth 20000 in
theorem ggL_law_X4_free : GoodIn wsL_law wsX4_free := goodIn_r _ [511, 76, 192, 201, 202, 203, 5, 204, 79, 205, 206, 207, 208, 273, 274, 275, 276, 553, 554, 555, 556, 557, 558, 559, 560, 561, 562, 563, 564, 565, 566, 567, 568, 569, 570, 571, 572] (by decide +kernel) (by decide +kernel)
set_option maxRecDepth 20000 in
theorem gL_law_X4_free : GoodIn wsL_law (wsV RL 120 RX4 yX4_free wsX4_free) := goodIn_app (goodIn_of _ (by decide +kernel)) ggL_law_X4_free
set_option maxRecDepth 20000 in
theorem ggL_law_L_handle : GoodIn wsL_law wsL_handle := goodIn_ca (goodIn_r _ [514, 88, 515, 516, 517, 2, 518, 24, 101, 102, 103, 104, 97, 98, 16, 105, 106, 107, 15, 108, 32, 519, 520, 521, 23, 522, 52, 117, 118, 119, 120, 54, 50, 53, 64, 65, 66, 19, 67, 44, 547, 548, 549, 550, 551, 552, 573, 574, 575, 577, 578, 579, 580, 581, 576] (by decide +kernel) (by decide +kernel)) (goodIn_sub (fun _ h => List.mem_append_left _ (List.mem_append_left _ (List.mem_append_left _ (List.mem_append_right _ h)))) (by decide +kernel))
set_option maxRecDepth 20000 in
theorem gL_law_L_handle : GoodIn wsL_law (va_wsS RL 121 yL_handle wsL_handle) := goodIn_app (goodIn_of _ (by decide +kernel)) ggL_law_L_handle
set_option maxRecDepth 20000 in
theorem ggL_law_X4_handle : GoodIn wsL_law wsX4_handle := goodIn_r _ [526, 76, 192, 82, 233, 234, 235, 5, 236, 81, 83, 553, 554, 555, 556, 557, 558, 559, 560, 561, 562, 563, 564, 565, 566, 567, 568, 569, 570, 571, 572] (by decide +kernel) (by decide +kernel)
set_option maxRecDepth 20000 in
theorem gL_law_X4_handle : GoodIn wsL_law (wsV RL 123 RX4 yX4_handle wsX4_handle) := goodIn_app (goodIn_of _ (by decide +kernel)) ggL_law_X4_handle
set_option maxRecDepth 20000 in
theorem ggL_law_X3_writes : GoodIn wsL_law wsX3_writes := goodIn_r _ [530, 16, 531, 532, 533, 15, 534, 34, 547, 548, 549, 550, 551, 552, 573, 574, 575] (by decide +kernel) (by decide +kernel)
set_option maxRecDepth 20000 in
theorem gL_law_X3_writes : GoodIn wsL_law (wsV RL 124 RX3 yX3_writes wsX3_writes) := goodIn_app (goodIn_of _ (by decide +kernel)) ggL_law_X3_writes
set_option maxRecDepth 20000 in
theorem ggL_law_X4_writes : GoodIn wsL_law wsX4_writes := goodIn_r _ [538, 192, 230, 553, 554, 555, 556, 557, 558, 559, 560, 561, 562, 563, 564, 565, 566, 567, 568, 569, 570, 571, 572] (by decide +kernel) (by decide +kernel)
set_option maxRecDepth 20000 in
theorem gL_law_X4_writes : GoodIn wsL_law (wsV RL 127 RX4 yX4_writes wsX4_writes) := goodIn_app (goodIn_of _ (by decide +kernel)) ggL_law_X4_writes
set_option maxRecDepth 20000 in
theorem ggL_law_X3_isOn : GoodIn wsL_law wsX3_isOn := goodIn_r _ [542, 16, 105, 106, 107, 15, 108, 32, 547, 548, 549, 550, 551, 552, 573, 574, 575] (by decide +kernel) (by decide +kernel)
set_option maxRecDepth 20000 in
theorem gL_law_X3_isOn : GoodIn wsL_law (wsV RL 128 RX3 yX3_isOn wsX3_isOn) := goodIn_app (goodIn_of _ (by decide +kernel)) ggL_law_X3_isOn
set_option maxRecDepth 20000 in
theorem ggL_law_X4_isOn : GoodIn wsL_law wsX4_isOn := goodIn_r _ [546, 192, 76, 553, 554, 555, 556, 557, 558, 559, 560, 561, 562, 563, 564, 565, 566, 567, 568, 569, 570, 571, 572] (by decide +kernel) (by decide +kernel)
set_option maxRecDepth 20000 in
theorem gL_law_X4_isOn : GoodIn wsL_law (wsV RL 132 RX4 yX4_isOn wsX4_isOn) := goodIn_app (goodIn_of _ (by decide +kernel)) ggL_law_X4_isOn
theorem dL_law_0 : decode cL_law 0 = .ok (.new 8, 3) := by decide +kernel
theorem dL_law_3 : decode cL_law 3 = .ok (.dup, 1) := by decide +kernel
theorem dL_law_4 : decode cL_law 4 = .ok (.invokespecial 67, 3) := by decide +kernel
theorem dL_law_7 : decode cL_law 7 = .ok (.astore_n 1, 1) := by decide +kernel
theorem dL_law_8 : decode cL_law 8 = .ok (.new 68, 3) := by decide +kernel
theorem dL_law_11 : decode cL_law 11 = .ok (.dup, 1) := by decide +kernel
theorem dL_law_12 : decode cL_law 12 = .ok (.invokespecial 70, 3) := by decide +kernel
theorem dL_law_15 : decode cL_law 15 = .ok (.astore_n 2, 1) := by decide +kernel
theorem dL_law_16 : decode cL_law 16 = .ok (.iconst 1, 1) := by decide +kernel
theorem dL_law_17 : decode cL_law 17 = .ok (.newarray .long, 2) := by decide +kernel
theorem dL_law_19 : decode cL_law 19 = .ok (.astore_n 3, 1) := by decide +kernel
theorem dL_law_20 : decode cL_law 20 = .ok (.iconst 0, 1) := by decide +kernel
theorem dL_law_21 : decode cL_law 21 = .ok (.istore 4, 2) := by decide +kernel
theorem dL_law_23 : decode cL_law 23 = .ok (.iload 4, 2) := by decide +kernel
theorem dL_law_25 : decode cL_law 25 = .ok (.aload_n 0, 1) := by decide +kernel
theorem dL_law_26 : decode cL_law 26 = .ok (.arraylength, 1) := by decide +kernel
theorem dL_law_27 : decode cL_law 27 = .ok (.iconst 4, 1) := by decide +kernel
theorem dL_law_28 : decode cL_law 28 = .ok (.isub, 1) := by decide +kernel
theorem dL_law_29 : decode cL_law 29 = .ok (.if_icmp .gt 947, 3) := by decide +kernel
theorem dL_law_32 : decode cL_law 32 = .ok (.aload_n 0, 1) := by decide +kernel
theorem dL_law_33 : decode cL_law 33 = .ok (.iload 4, 2) := by decide +kernel
theorem dL_law_35 : decode cL_law 35 = .ok (.iaload, 1) := by decide +kernel
theorem dL_law_36 : decode cL_law 36 = .ok (.bipush 15, 2) := by decide +kernel
theorem dL_law_38 : decode cL_law 38 = .ok (.iand, 1) := by decide +kernel
theorem dL_law_39 : decode cL_law 39 = .ok (.tableswitch 931 0 15 #[77, 145, 225, 293, 349, 405, 473, 541, 585, 629, 665, 733, 777, 849, 905, 918], 77) := by decide +kernel
theorem dL_law_116 : decode cL_law 116 = .ok (.aload_n 1, 1) := by decide +kernel
theorem dL_law_117 : decode cL_law 117 = .ok (.aload_n 0, 1) := by decide +kernel
theorem dL_law_118 : decode cL_law 118 = .ok (.iload 4, 2) := by decide +kernel
theorem dL_law_120 : decode cL_law 120 = .ok (.iconst 1, 1) := by decide +kernel
theorem dL_law_121 : decode cL_law 121 = .ok (.iadd, 1) := by decide +kernel
theorem dL_law_122 : decode cL_law 122 = .ok (.iaload, 1) := by decide +kernel
theorem dL_law_123 : decode cL_law 123 = .ok (.aload_n 0, 1) := by decide +kernel
theorem dL_law_124 : decode cL_law 124 = .ok (.iload 4, 2) := by decide +kernel
theorem dL_law_126 : decode cL_law 126 = .ok (.iconst 2, 1) := by decide +kernel
theorem dL_law_127 : decode cL_law 127 = .ok (.iadd, 1) := by decide +kernel
theorem dL_law_128 : decode cL_law 128 = .ok (.iaload, 1) := by decide +kernel
theorem dL_law_129 : decode cL_law 129 = .ok (.aload_n 3, 1) := by decide +kernel
theorem dL_law_130 : decode cL_law 130 = .ok (.invokestatic 71, 3) := by decide +kernel
theorem dL_law_133 : decode cL_law 133 = .ok (.istore 5, 2) := by decide +kernel
theorem dL_law_135 : decode cL_law 135 = .ok (.aload_n 2, 1) := by decide +kernel
theorem dL_law_136 : decode cL_law 136 = .ok (.aload_n 0, 1) := by decide +kernel
theorem dL_law_137 : decode cL_law 137 = .ok (.iload 4, 2) := by decide +kernel
theorem dL_law_139 : decode cL_law 139 = .ok (.iconst 1, 1) := by decide +kernel
theorem dL_law_140 : decode cL_law 140 = .ok (.iadd, 1) := by decide +kernel
theorem dL_law_141 : decode cL_law 141 = .ok (.iaload, 1) := by decide +kernel
theorem dL_law_142 : decode cL_law 142 = .ok (.aload_n 0, 1) := by decide +kernel
theorem dL_law_143 : decode cL_law 143 = .ok (.iload 4, 2) := by decide +kernel
theorem dL_law_145 : decode cL_law 145 = .ok (.iconst 2, 1) := by decide +kernel
theorem dL_law_146 : decode cL_law 146 = .ok (.iadd, 1) := by decide +kernel
theorem dL_law_147 : decode cL_law 147 = .ok (.iaload, 1) := by decide +kernel
theorem dL_law_148 : decode cL_law 148 = .ok (.invokevirtual 76, 3) := by decide +kernel
theorem dL_law_151 : decode cL_law 151 = .ok (.istore 6, 2) := by decide +kernel
theorem dL_law_153 : decode cL_law 153 = .ok (.aload_n 2, 1) := by decide +kernel
theorem dL_law_154 : decode cL_law 154 = .ok (.invokevirtual 77, 3) := by decide +kernel
theorem dL_law_157 : decode cL_law 157 = .ok (.iload 5, 2) := by decide +kernel
theorem dL_law_159 : decode cL_law 159 = .ok (.if_icmp .eq 5, 3) := by decide +kernel
theorem dL_law_162 : decode cL_law 162 = .ok (.iconst 0, 1) := by decide +kernel
theorem dL_law_163 : decode cL_law 163 = .ok (.ireturn, 1) := by decide +kernel
theorem dL_law_164 : decode cL_law 164 = .ok (.iload 5, 2) := by decide +kernel
theorem dL_law_166 : decode cL_law 166 = .ok (.ifCond .ne 15, 3) := by decide +kernel
theorem dL_law_169 : decode cL_law 169 = .ok (.aload_n 3, 1) := by decide +kernel
theorem dL_law_170 : decode cL_law 170 = .ok (.iconst 0, 1) := by decide +kernel
theorem dL_law_171 : decode cL_law 171 = .ok (.laload, 1) := by decide +kernel
theorem dL_law_172 : decode cL_law 172 = .ok (.iload 6, 2) := by decide +kernel
theorem dL_law_174 : decode cL_law 174 = .ok (.i2l, 1) := by decide +kernel
theorem dL_law_175 : decode cL_law 175 = .ok (.lcmp, 1) := by decide +kernel
theorem dL_law_176 : decode cL_law 176 = .ok (.ifCond .eq 5, 3) := by decide +kernel
theorem dL_law_179 : decode cL_law 179 = .ok (.iconst 0, 1) := by decide +kernel
theorem dL_law_180 : decode cL_law 180 = .ok (.ireturn, 1) := by decide +kernel
theorem dL_law_181 : decode cL_law 181 = .ok (.goto 789, 3) := by decide +kernel
theorem dL_law_184 : decode cL_law 184 = .ok (.aload_n 1, 1) := by decide +kernel
theorem dL_law_185 : decode cL_law 185 = .ok (.aload_n 0, 1) := by decide +kernel
theorem dL_law_186 : decode cL_law 186 = .ok (.iload 4, 2) := by decide +kernel
theorem dL_law_188 : decode cL_law 188 = .ok (.iconst 1, 1) := by decide +kernel
theorem dL_law_189 : decode cL_law 189 = .ok (.iadd, 1) := by decide +kernel
theorem dL_law_190 : decode cL_law 190 = .ok (.iaload, 1) := by decide +kernel
theorem dL_law_191 : decode cL_law 191 = .ok (.aload_n 0, 1) := by decide +kernel
theorem dL_law_192 : decode cL_law 192 = .ok (.iload 4, 2) := by decide +kernel
theorem dL_law_194 : decode cL_law 194 = .ok (.iconst 2, 1) := by decide +kernel
theorem dL_law_195 : decode cL_law 195 = .ok (.iadd, 1) := by decide +kernel
theorem dL_law_196 : decode cL_law 196 = .ok (.iaload, 1) := by decide +kernel
theorem dL_law_197 : decode cL_law 197 = .ok (.aload_n 0, 1) := by decide +kernel
theorem dL_law_198 : decode cL_law 198 = .ok (.iload 4, 2) := by decide +kernel
theorem dL_law_200 : decode cL_law 200 = .ok (.iconst 3, 1) := by decide +kernel
theorem dL_law_201 : decode cL_law 201 = .ok (.iadd, 1) := by decide +kernel
theorem dL_law_202 : decode cL_law 202 = .ok (.iaload, 1) := by decide +kernel
theorem dL_law_203 : decode cL_law 203 = .ok (.aload_n 3, 1) := by decide +kernel
theorem dL_law_204 : decode cL_law 204 = .ok (.invokestatic 80, 3) := by decide +kernel
theorem dL_law_207 : decode cL_law 207 = .ok (.istore 5, 2) := by decide +kernel
theorem dL_law_209 : decode cL_law 209 = .ok (.aload_n 2, 1) := by decide +kernel
theorem dL_law_210 : decode cL_law 210 = .ok (.aload_n 0, 1) := by decide +kernel
theorem dL_law_211 : decode cL_law 211 = .ok (.iload 4, 2) := by decide +kernel
theorem dL_law_213 : decode cL_law 213 = .ok (.iconst 1, 1) := by decide +kernel
theorem dL_law_214 : decode cL_law 214 = .ok (.iadd, 1) := by decide +kernel
theorem dL_law_215 : decode cL_law 215 = .ok (.iaload, 1) := by decide +kernel
theorem dL_law_216 : decode cL_law 216 = .ok (.aload_n 0, 1) := by decide +kernel
theorem dL_law_217 : decode cL_law 217 = .ok (.iload 4, 2) := by decide +kernel
theorem dL_law_219 : decode cL_law 219 = .ok (.iconst 2, 1) := by decide +kernel
theorem dL_law_220 : decode cL_law 220 = .ok (.iadd, 1) := by decide +kernel
theorem dL_law_221 : decode cL_law 221 = .ok (.iaload, 1) := by decide +kernel
theorem dL_law_222 : decode cL_law 222 = .ok (.aload_n 0, 1) := by decide +kernel
theorem dL_law_223 : decode cL_law 223 = .ok (.iload 4, 2) := by decide +kernel
theorem dL_law_225 : decode cL_law 225 = .ok (.iconst 3, 1) := by decide +kernel
theorem dL_law_226 : decode cL_law 226 = .ok (.iadd, 1) := by decide +kernel
theorem dL_law_227 : decode cL_law 227 = .ok (.iaload, 1) := by decide +kernel
theorem dL_law_228 : decode cL_law 228 = .ok (.invokevirtual 83, 3) := by decide +kernel
theorem dL_law_231 : decode cL_law 231 = .ok (.istore 6, 2) := by decide +kernel
theorem dL_law_233 : decode cL_law 233 = .ok (.aload_n 2, 1) := by decide +kernel
theorem dL_law_234 : decode cL_law 234 = .ok (.invokevirtual 77, 3) := by decide +kernel
theorem dL_law_237 : decode cL_law 237 = .ok (.iload 5, 2) := by decide +kernel
theorem dL_law_239 : decode cL_law 239 = .ok (.if_icmp .eq 5, 3) := by decide +kernel
theorem dL_law_242 : decode cL_law 242 = .ok (.iconst 0, 1) := by decide +kernel
theorem dL_law_243 : decode cL_law 243 = .ok (.ireturn, 1) := by decide +kernel
theorem dL_law_244 : decode cL_law 244 = .ok (.iload 5, 2) := by decide +kernel
theorem dL_law_246 : decode cL_law 246 = .ok (.ifCond .ne 15, 3) := by decide +kernel
theorem dL_law_249 : decode cL_law 249 = .ok (.aload_n 3, 1) := by decide +kernel
theorem dL_law_250 : decode cL_law 250 = .ok (.iconst 0, 1) := by decide +kernel
theorem dL_law_251 : decode cL_law 251 = .ok (.laload, 1) := by decide +kernel
theorem dL_law_252 : decode cL_law 252 = .ok (.iload 6, 2) := by decide +kernel
theorem dL_law_254 : decode cL_law 254 = .ok (.i2l, 1) := by decide +kernel
theorem dL_law_255 : decode cL_law 255 = .ok (.lcmp, 1) := by decide +kernel
theorem dL_law_256 : decode cL_law 256 = .ok (.ifCond .eq 5, 3) := by decide +kernel
theorem dL_law_259 : decode cL_law 259 = .ok (.iconst 0, 1) := by decide +kernel
theorem dL_law_260 : decode cL_law 260 = .ok (.ireturn, 1) := by decide +kernel
theorem dL_law_261 : decode cL_law 261 = .ok (.goto 709, 3) := by decide +kernel
theorem dL_law_264 : decode cL_law 264 = .ok (.aload_n 1, 1) := by decide +kernel
theorem dL_law_265 : decode cL_law 265 = .ok (.aload_n 0, 1) := by decide +kernel
theorem dL_law_266 : decode cL_law 266 = .ok (.iload 4, 2) := by decide +kernel
theorem dL_law_268 : decode cL_law 268 = .ok (.iconst 1, 1) := by decide +kernel
theorem dL_law_269 : decode cL_law 269 = .ok (.iadd, 1) := by decide +kernel
theorem dL_law_270 : decode cL_law 270 = .ok (.iaload, 1) := by decide +kernel
theorem dL_law_271 : decode cL_law 271 = .ok (.aload_n 0, 1) := by decide +kernel
theorem dL_law_272 : decode cL_law 272 = .ok (.iload 4, 2) := by decide +kernel
theorem dL_law_274 : decode cL_law 274 = .ok (.iconst 2, 1) := by decide +kernel
theorem dL_law_275 : decode cL_law 275 = .ok (.iadd, 1) := by decide +kernel
theorem dL_law_276 : decode cL_law 276 = .ok (.iaload, 1) := by decide +kernel
theorem dL_law_277 : decode cL_law 277 = .ok (.aload_n 3, 1) := by decide +kernel
theorem dL_law_278 : decode cL_law 278 = .ok (.invokestatic 84, 3) := by decide +kernel
theorem dL_law_281 : decode cL_law 281 = .ok (.istore 5, 2) := by decide +kernel
theorem dL_law_283 : decode cL_law 283 = .ok (.aload_n 2, 1) := by decide +kernel
theorem dL_law_284 : decode cL_law 284 = .ok (.aload_n 0, 1) := by decide +kernel
theorem dL_law_285 : decode cL_law 285 = .ok (.iload 4, 2) := by decide +kernel
theorem dL_law_287 : decode cL_law 287 = .ok (.iconst 1, 1) := by decide +kernel
theorem dL_law_288 : decode cL_law 288 = .ok (.iadd, 1) := by decide +kernel
theorem dL_law_289 : decode cL_law 289 = .ok (.iaload, 1) := by decide +kernel
theorem dL_law_290 : decode cL_law 290 = .ok (.aload_n 0, 1) := by decide +kernel
theorem dL_law_291 : decode cL_law 291 = .ok (.iload 4, 2) := by decide +kernel
theorem dL_law_293 : decode cL_law 293 = .ok (.iconst 2, 1) := by decide +kernel
theorem dL_law_294 : decode cL_law 294 = .ok (.iadd, 1) := by decide +kernel
theorem dL_law_295 : decode cL_law 295 = .ok (.iaload, 1) := by decide +kernel
theorem dL_law_296 : decode cL_law 296 = .ok (.invokevirtual 86, 3) := by decide +kernel
theorem dL_law_299 : decode cL_law 299 = .ok (.istore 6, 2) := by decide +kernel
theorem dL_law_301 : decode cL_law 301 = .ok (.aload_n 2, 1) := by decide +kernel
theorem dL_law_302 : decode cL_law 302 = .ok (.invokevirtual 77, 3) := by decide +kernel
theorem dL_law_305 : decode cL_law 305 = .ok (.iload 5, 2) := by decide +kernel
theorem dL_law_307 : decode cL_law 307 = .ok (.if_icmp .eq 5, 3) := by decide +kernel
theorem dL_law_310 : decode cL_law 310 = .ok (.iconst 0, 1) := by decide +kernel
theorem dL_law_311 : decode cL_law 311 = .ok (.ireturn, 1) := by decide +kernel
theorem dL_law_312 : decode cL_law 312 = .ok (.iload 5, 2) := by decide +kernel
theorem dL_law_314 : decode cL_law 314 = .ok (.ifCond .ne 15, 3) := by decide +kernel
theorem dL_law_317 : decode cL_law 317 = .ok (.aload_n 3, 1) := by decide +kernel
theorem dL_law_318 : decode cL_law 318 = .ok (.iconst 0, 1) := by decide +kernel
theorem dL_law_319 : decode cL_law 319 = .ok (.laload, 1) := by decide +kernel
theorem dL_law_320 : decode cL_law 320 = .ok (.iload 6, 2) := by decide +kernel
theorem dL_law_322 : decode cL_law 322 = .ok (.i2l, 1) := by decide +kernel
theorem dL_law_323 : decode cL_law 323 = .ok (.lcmp, 1) := by decide +kernel
theorem dL_law_324 : decode cL_law 324 = .ok (.ifCond .eq 5, 3) := by decide +kernel
theorem dL_law_327 : decode cL_law 327 = .ok (.iconst 0, 1) := by decide +kernel
theorem dL_law_328 : decode cL_law 328 = .ok (.ireturn, 1) := by decide +kernel
theorem dL_law_329 : decode cL_law 329 = .ok (.goto 641, 3) := by decide +kernel
theorem dL_law_332 : decode cL_law 332 = .ok (.aload_n 1, 1) := by decide +kernel
theorem dL_law_333 : decode cL_law 333 = .ok (.aload_n 0, 1) := by decide +kernel
theorem dL_law_334 : decode cL_law 334 = .ok (.iload 4, 2) := by decide +kernel
theorem dL_law_336 : decode cL_law 336 = .ok (.iconst 1, 1) := by decide +kernel
theorem dL_law_337 : decode cL_law 337 = .ok (.iadd, 1) := by decide +kernel
theorem dL_law_338 : decode cL_law 338 = .ok (.iaload, 1) := by decide +kernel
theorem dL_law_339 : decode cL_law 339 = .ok (.aload_n 3, 1) := by decide +kernel
theorem dL_law_340 : decode cL_law 340 = .ok (.invokestatic 87, 3) := by decide +kernel
theorem dL_law_343 : decode cL_law 343 = .ok (.istore 5, 2) := by decide +kernel
theorem dL_law_345 : decode cL_law 345 = .ok (.aload_n 2, 1) := by decide +kernel
theorem dL_law_346 : decode cL_law 346 = .ok (.aload_n 0, 1) := by decide +kernel
theorem dL_law_347 : decode cL_law 347 = .ok (.iload 4, 2) := by decide +kernel
theorem dL_law_349 : decode cL_law 349 = .ok (.iconst 1, 1) := by decide +kernel
theorem dL_law_350 : decode cL_law 350 = .ok (.iadd, 1) := by decide +kernel
theorem dL_law_351 : decode cL_law 351 = .ok (.iaload, 1) := by decide +kernel
theorem dL_law_352 : decode cL_law 352 = .ok (.invokevirtual 90, 3) := by decide +kernel
theorem dL_law_355 : decode cL_law 355 = .ok (.istore 6, 2) := by decide +kernel
theorem dL_law_357 : decode cL_law 357 = .ok (.aload_n 2, 1) := by decide +kernel
theorem dL_law_358 : decode cL_law 358 = .ok (.invokevirtual 77, 3) := by decide +kernel
theorem dL_law_361 : decode cL_law 361 = .ok (.iload 5, 2) := by decide +kernel
theorem dL_law_363 : decode cL_law 363 = .ok (.if_icmp .eq 5, 3) := by decide +kernel
theorem dL_law_366 : decode cL_law 366 = .ok (.iconst 0, 1) := by decide +kernel
theorem dL_law_367 : decode cL_law 367 = .ok (.ireturn, 1) := by decide +kernel
theorem dL_law_368 : decode cL_law 368 = .ok (.iload 5, 2) := by decide +kernel
theorem dL_law_370 : decode cL_law 370 = .ok (.ifCond .ne 15, 3) := by decide +kernel
theorem dL_law_373 : decode cL_law 373 = .ok (.aload_n 3, 1) := by decide +kernel
theorem dL_law_374 : decode cL_law 374 = .ok (.iconst 0, 1) := by decide +kernel
theorem dL_law_375 : decode cL_law 375 = .ok (.laload, 1) := by decide +kernel
theorem dL_law_376 : decode cL_law 376 = .ok (.iload 6, 2) := by decide +kernel
theorem dL_law_378 : decode cL_law 378 = .ok (.i2l, 1) := by decide +kernel
theorem dL_law_379 : decode cL_law 379 = .ok (.lcmp, 1) := by decide +kernel
theorem dL_law_380 : decode cL_law 380 = .ok (.ifCond .eq 5, 3) := by decide +kernel
theorem dL_law_383 : decode cL_law 383 = .ok (.iconst 0, 1) := by decide +kernel
theorem dL_law_384 : decode cL_law 384 = .ok (.ireturn, 1) := by decide +kernel
theorem dL_law_385 : decode cL_law 385 = .ok (.goto 585, 3) := by decide +kernel
theorem dL_law_388 : decode cL_law 388 = .ok (.aload_n 1, 1) := by decide +kernel
theorem dL_law_389 : decode cL_law 389 = .ok (.aload_n 0, 1) := by decide +kernel
theorem dL_law_390 : decode cL_law 390 = .ok (.iload 4, 2) := by decide +kernel
theorem dL_law_392 : decode cL_law 392 = .ok (.iconst 1, 1) := by decide +kernel
theorem dL_law_393 : decode cL_law 393 = .ok (.iadd, 1) := by decide +kernel
theorem dL_law_394 : decode cL_law 394 = .ok (.iaload, 1) := by decide +kernel
theorem dL_law_395 : decode cL_law 395 = .ok (.aload_n 3, 1) := by decide +kernel
theorem dL_law_396 : decode cL_law 396 = .ok (.invokestatic 91, 3) := by decide +kernel
theorem dL_law_399 : decode cL_law 399 = .ok (.istore 5, 2) := by decide +kernel
theorem dL_law_401 : decode cL_law 401 = .ok (.aload_n 2, 1) := by decide +kernel
theorem dL_law_402 : decode cL_law 402 = .ok (.aload_n 0, 1) := by decide +kernel
theorem dL_law_403 : decode cL_law 403 = .ok (.iload 4, 2) := by decide +kernel
theorem dL_law_405 : decode cL_law 405 = .ok (.iconst 1, 1) := by decide +kernel
theorem dL_law_406 : decode cL_law 406 = .ok (.iadd, 1) := by decide +kernel
theorem dL_law_407 : decode cL_law 407 = .ok (.iaload, 1) := by decide +kernel
theorem dL_law_408 : decode cL_law 408 = .ok (.invokevirtual 93, 3) := by decide +kernel
theorem dL_law_411 : decode cL_law 411 = .ok (.istore 6, 2) := by decide +kernel
theorem dL_law_413 : decode cL_law 413 = .ok (.aload_n 2, 1) := by decide +kernel
theorem dL_law_414 : decode cL_law 414 = .ok (.invokevirtual 77, 3) := by decide +kernel
theorem dL_law_417 : decode cL_law 417 = .ok (.iload 5, 2) := by decide +kernel
theorem dL_law_419 : decode cL_law 419 = .ok (.if_icmp .eq 5, 3) := by decide +kernel
theorem dL_law_422 : decode cL_law 422 = .ok (.iconst 0, 1) := by decide +kernel
theorem dL_law_423 : decode cL_law 423 = .ok (.ireturn, 1) := by decide +kernel
theorem dL_law_424 : decode cL_law 424 = .ok (.iload 5, 2) := by decide +kernel
theorem dL_law_426 : decode cL_law 426 = .ok (.ifCond .ne 15, 3) := by decide +kernel
theorem dL_law_429 : decode cL_law 429 = .ok (.aload_n 3, 1) := by decide +kernel
theorem dL_law_430 : decode cL_law 430 = .ok (.iconst 0, 1) := by decide +kernel
theorem dL_law_431 : decode cL_law 431 = .ok (.laload, 1) := by decide +kernel
theorem dL_law_432 : decode cL_law 432 = .ok (.iload 6, 2) := by decide +kernel
theorem dL_law_434 : decode cL_law 434 = .ok (.i2l, 1) := by decide +kernel
theorem dL_law_435 : decode cL_law 435 = .ok (.lcmp, 1) := by decide +kernel
theorem dL_law_436 : decode cL_law 436 = .ok (.ifCond .eq 5, 3) := by decide +kernel
theorem dL_law_439 : decode cL_law 439 = .ok (.iconst 0, 1) := by decide +kernel
theorem dL_law_440 : decode cL_law 440 = .ok (.ireturn, 1) := by decide +kernel
theorem dL_law_441 : decode cL_law 441 = .ok (.goto 529, 3) := by decide +kernel
theorem dL_law_444 : decode cL_law 444 = .ok (.aload_n 1, 1) := by decide +kernel
theorem dL_law_445 : decode cL_law 445 = .ok (.aload_n 0, 1) := by decide +kernel
theorem dL_law_446 : decode cL_law 446 = .ok (.iload 4, 2) := by decide +kernel
theorem dL_law_448 : decode cL_law 448 = .ok (.iconst 1, 1) := by decide +kernel
theorem dL_law_449 : decode cL_law 449 = .ok (.iadd, 1) := by decide +kernel
theorem dL_law_450 : decode cL_law 450 = .ok (.iaload, 1) := by decide +kernel
theorem dL_law_451 : decode cL_law 451 = .ok (.aload_n 0, 1) := by decide +kernel
theorem dL_law_452 : decode cL_law 452 = .ok (.iload 4, 2) := by decide +kernel
theorem dL_law_454 : decode cL_law 454 = .ok (.iconst 2, 1) := by decide +kernel
theorem dL_law_455 : decode cL_law 455 = .ok (.iadd, 1) := by decide +kernel
theorem dL_law_456 : decode cL_law 456 = .ok (.iaload, 1) := by decide +kernel
theorem dL_law_457 : decode cL_law 457 = .ok (.aload_n 3, 1) := by decide +kernel
theorem dL_law_458 : decode cL_law 458 = .ok (.invokestatic 94, 3) := by decide +kernel
theorem dL_law_461 : decode cL_law 461 = .ok (.istore 5, 2) := by decide +kernel
theorem dL_law_463 : decode cL_law 463 = .ok (.aload_n 2, 1) := by decide +kernel
theorem dL_law_464 : decode cL_law 464 = .ok (.aload_n 0, 1) := by decide +kernel
theorem dL_law_465 : decode cL_law 465 = .ok (.iload 4, 2) := by decide +kernel
theorem dL_law_467 : decode cL_law 467 = .ok (.iconst 1, 1) := by decide +kernel
theorem dL_law_468 : decode cL_law 468 = .ok (.iadd, 1) := by decide +kernel
theorem dL_law_469 : decode cL_law 469 = .ok (.iaload, 1) := by decide +kernel
theorem dL_law_470 : decode cL_law 470 = .ok (.aload_n 0, 1) := by decide +kernel
theorem dL_law_471 : decode cL_law 471 = .ok (.iload 4, 2) := by decide +kernel
theorem dL_law_473 : decode cL_law 473 = .ok (.iconst 2, 1) := by decide +kernel
theorem dL_law_474 : decode cL_law 474 = .ok (.iadd, 1) := by decide +kernel
theorem dL_law_475 : decode cL_law 475 = .ok (.iaload, 1) := by decide +kernel
theorem dL_law_476 : decode cL_law 476 = .ok (.invokevirtual 96, 3) := by decide +kernel
theorem dL_law_479 : decode cL_law 479 = .ok (.istore 6, 2) := by decide +kernel
theorem dL_law_481 : decode cL_law 481 = .ok (.aload_n 2, 1) := by decide +kernel
theorem dL_law_482 : decode cL_law 482 = .ok (.invokevirtual 77, 3) := by decide +kernel
theorem dL_law_485 : decode cL_law 485 = .ok (.iload 5, 2) := by decide +kernel
theorem dL_law_487 : decode cL_law 487 = .ok (.if_icmp .eq 5, 3) := by decide +kernel
theorem dL_law_490 : decode cL_law 490 = .ok (.iconst 0, 1) := by decide +kernel
theorem dL_law_491 : decode cL_law 491 = .ok (.ireturn, 1) := by decide +kernel
theorem dL_law_492 : decode cL_law 492 = .ok (.iload 5, 2) := by decide +kernel
theorem dL_law_494 : decode cL_law 494 = .ok (.ifCond .ne 15, 3) := by decide +kernel
theorem dL_law_497 : decode cL_law 497 = .ok (.aload_n 3, 1) := by decide +kernel
theorem dL_law_498 : decode cL_law 498 = .ok (.iconst 0, 1) := by decide +kernel
theorem dL_law_499 : decode cL_law 499 = .ok (.laload, 1) := by decide +kernel
theorem dL_law_500 : decode cL_law 500 = .ok (.iload 6, 2) := by decide +kernel
theorem dL_law_502 : decode cL_law 502 = .ok (.i2l, 1) := by decide +kernel
theorem dL_law_503 : decode cL_law 503 = .ok (.lcmp, 1) := by decide +kernel
theorem dL_law_504 : decode cL_law 504 = .ok (.ifCond .eq 5, 3) := by decide +kernel
theorem dL_law_507 : decode cL_law 507 = .ok (.iconst 0, 1) := by decide +kernel
theorem dL_law_508 : decode cL_law 508 = .ok (.ireturn, 1) := by decide +kernel
theorem dL_law_509 : decode cL_law 509 = .ok (.goto 461, 3) := by decide +kernel
theorem dL_law_512 : decode cL_law 512 = .ok (.aload_n 1, 1) := by decide +kernel
theorem dL_law_513 : decode cL_law 513 = .ok (.aload_n 0, 1) := by decide +kernel
theorem dL_law_514 : decode cL_law 514 = .ok (.iload 4, 2) := by decide +kernel
theorem dL_law_516 : decode cL_law 516 = .ok (.iconst 1, 1) := by decide +kernel
theorem dL_law_517 : decode cL_law 517 = .ok (.iadd, 1) := by decide +kernel
theorem dL_law_518 : decode cL_law 518 = .ok (.iaload, 1) := by decide +kernel
theorem dL_law_519 : decode cL_law 519 = .ok (.aload_n 0, 1) := by decide +kernel
theorem dL_law_520 : decode cL_law 520 = .ok (.iload 4, 2) := by decide +kernel
theorem dL_law_522 : decode cL_law 522 = .ok (.iconst 2, 1) := by decide +kernel
theorem dL_law_523 : decode cL_law 523 = .ok (.iadd, 1) := by decide +kernel
theorem dL_law_524 : decode cL_law 524 = .ok (.iaload, 1) := by decide +kernel
theorem dL_law_525 : decode cL_law 525 = .ok (.aload_n 3, 1) := by decide +kernel
theorem dL_law_526 : decode cL_law 526 = .ok (.invokestatic 97, 3) := by decide +kernel
theorem dL_law_529 : decode cL_law 529 = .ok (.istore 5, 2) := by decide +kernel
theorem dL_law_531 : decode cL_law 531 = .ok (.aload_n 2, 1) := by decide +kernel
theorem dL_law_532 : decode cL_law 532 = .ok (.aload_n 0, 1) := by decide +kernel
theorem dL_law_533 : decode cL_law 533 = .ok (.iload 4, 2) := by decide +kernel
theorem dL_law_535 : decode cL_law 535 = .ok (.iconst 1, 1) := by decide +kernel
theorem dL_law_536 : decode cL_law 536 = .ok (.iadd, 1) := by decide +kernel
theorem dL_law_537 : decode cL_law 537 = .ok (.iaload, 1) := by decide +kernel
theorem dL_law_538 : decode cL_law 538 = .ok (.aload_n 0, 1) := by decide +kernel
theorem dL_law_539 : decode cL_law 539 = .ok (.iload 4, 2) := by decide +kernel
theorem dL_law_541 : decode cL_law 541 = .ok (.iconst 2, 1) := by decide +kernel
theorem dL_law_542 : decode cL_law 542 = .ok (.iadd, 1) := by decide +kernel
theorem dL_law_543 : decode cL_law 543 = .ok (.iaload, 1) := by decide +kernel
theorem dL_law_544 : decode cL_law 544 = .ok (.invokevirtual 99, 3) := by decide +kernel
theorem dL_law_547 : decode cL_law 547 = .ok (.istore 6, 2) := by decide +kernel
theorem dL_law_549 : decode cL_law 549 = .ok (.aload_n 2, 1) := by decide +kernel
theorem dL_law_550 : decode cL_law 550 = .ok (.invokevirtual 77, 3) := by decide +kernel
theorem dL_law_553 : decode cL_law 553 = .ok (.iload 5, 2) := by decide +kernel
theorem dL_law_555 : decode cL_law 555 = .ok (.if_icmp .eq 5, 3) := by decide +kernel
theorem dL_law_558 : decode cL_law 558 = .ok (.iconst 0, 1) := by decide +kernel
theorem dL_law_559 : decode cL_law 559 = .ok (.ireturn, 1) := by decide +kernel
theorem dL_law_560 : decode cL_law 560 = .ok (.iload 5, 2) := by decide +kernel
theorem dL_law_562 : decode cL_law 562 = .ok (.ifCond .ne 15, 3) := by decide +kernel
theorem dL_law_565 : decode cL_law 565 = .ok (.aload_n 3, 1) := by decide +kernel
theorem dL_law_566 : decode cL_law 566 = .ok (.iconst 0, 1) := by decide +kernel
theorem dL_law_567 : decode cL_law 567 = .ok (.laload, 1) := by decide +kernel
theorem dL_law_568 : decode cL_law 568 = .ok (.iload 6, 2) := by decide +kernel
theorem dL_law_570 : decode cL_law 570 = .ok (.i2l, 1) := by decide +kernel
theorem dL_law_571 : decode cL_law 571 = .ok (.lcmp, 1) := by decide +kernel
theorem dL_law_572 : decode cL_law 572 = .ok (.ifCond .eq 5, 3) := by decide +kernel
theorem dL_law_575 : decode cL_law 575 = .ok (.iconst 0, 1) := by decide +kernel
theorem dL_law_576 : decode cL_law 576 = .ok (.ireturn, 1) := by decide +kernel
theorem dL_law_577 : decode cL_law 577 = .ok (.goto 393, 3) := by decide +kernel
theorem dL_law_580 : decode cL_law 580 = .ok (.aload_n 1, 1) := by decide +kernel
theorem dL_law_581 : decode cL_law 581 = .ok (.aload_n 3, 1) := by decide +kernel
theorem dL_law_582 : decode cL_law 582 = .ok (.invokestatic 100, 3) := by decide +kernel
theorem dL_law_585 : decode cL_law 585 = .ok (.istore 5, 2) := by decide +kernel
theorem dL_law_587 : decode cL_law 587 = .ok (.aload_n 2, 1) := by decide +kernel
theorem dL_law_588 : decode cL_law 588 = .ok (.invokevirtual 103, 3) := by decide +kernel
theorem dL_law_591 : decode cL_law 591 = .ok (.istore 6, 2) := by decide +kernel
theorem dL_law_593 : decode cL_law 593 = .ok (.aload_n 2, 1) := by decide +kernel
theorem dL_law_594 : decode cL_law 594 = .ok (.invokevirtual 77, 3) := by decide +kernel
theorem dL_law_597 : decode cL_law 597 = .ok (.iload 5, 2) := by decide +kernel
theorem dL_law_599 : decode cL_law 599 = .ok (.if_icmp .eq 5, 3) := by decide +kernel
theorem dL_law_602 : decode cL_law 602 = .ok (.iconst 0, 1) := by decide +kernel
theorem dL_law_603 : decode cL_law 603 = .ok (.ireturn, 1) := by decide +kernel
theorem dL_law_604 : decode cL_law 604 = .ok (.iload 5, 2) := by decide +kernel
theorem dL_law_606 : decode cL_law 606 = .ok (.ifCond .ne 15, 3) := by decide +kernel
theorem dL_law_609 : decode cL_law 609 = .ok (.aload_n 3, 1) := by decide +kernel
theorem dL_law_610 : decode cL_law 610 = .ok (.iconst 0, 1) := by decide +kernel
theorem dL_law_611 : decode cL_law 611 = .ok (.laload, 1) := by decide +kernel
theorem dL_law_612 : decode cL_law 612 = .ok (.iload 6, 2) := by decide +kernel
theorem dL_law_614 : decode cL_law 614 = .ok (.i2l, 1) := by decide +kernel
theorem dL_law_615 : decode cL_law 615 = .ok (.lcmp, 1) := by decide +kernel
theorem dL_law_616 : decode cL_law 616 = .ok (.ifCond .eq 5, 3) := by decide +kernel
theorem dL_law_619 : decode cL_law 619 = .ok (.iconst 0, 1) := by decide +kernel
theorem dL_law_620 : decode cL_law 620 = .ok (.ireturn, 1) := by decide +kernel
theorem dL_law_621 : decode cL_law 621 = .ok (.goto 349, 3) := by decide +kernel
theorem dL_law_624 : decode cL_law 624 = .ok (.aload_n 1, 1) := by decide +kernel
theorem dL_law_625 : decode cL_law 625 = .ok (.aload_n 3, 1) := by decide +kernel
theorem dL_law_626 : decode cL_law 626 = .ok (.invokestatic 104, 3) := by decide +kernel
theorem dL_law_629 : decode cL_law 629 = .ok (.istore 5, 2) := by decide +kernel
theorem dL_law_631 : decode cL_law 631 = .ok (.aload_n 2, 1) := by decide +kernel
theorem dL_law_632 : decode cL_law 632 = .ok (.invokevirtual 106, 3) := by decide +kernel
theorem dL_law_635 : decode cL_law 635 = .ok (.istore 6, 2) := by decide +kernel
theorem dL_law_637 : decode cL_law 637 = .ok (.aload_n 2, 1) := by decide +kernel
theorem dL_law_638 : decode cL_law 638 = .ok (.invokevirtual 77, 3) := by decide +kernel
theorem dL_law_641 : decode cL_law 641 = .ok (.iload 5, 2) := by decide +kernel
theorem dL_law_643 : decode cL_law 643 = .ok (.if_icmp .eq 5, 3) := by decide +kernel
theorem dL_law_646 : decode cL_law 646 = .ok (.iconst 0, 1) := by decide +kernel
theorem dL_law_647 : decode cL_law 647 = .ok (.ireturn, 1) := by decide +kernel
theorem dL_law_648 : decode cL_law 648 = .ok (.iload 5, 2) := by decide +kernel
theorem dL_law_650 : decode cL_law 650 = .ok (.ifCond .ne 15, 3) := by decide +kernel
theorem dL_law_653 : decode cL_law 653 = .ok (.aload_n 3, 1) := by decide +kernel
theorem dL_law_654 : decode cL_law 654 = .ok (.iconst 0, 1) := by decide +kernel
theorem dL_law_655 : decode cL_law 655 = .ok (.laload, 1) := by decide +kernel
theorem dL_law_656 : decode cL_law 656 = .ok (.iload 6, 2) := by decide +kernel
theorem dL_law_658 : decode cL_law 658 = .ok (.i2l, 1) := by decide +kernel
theorem dL_law_659 : decode cL_law 659 = .ok (.lcmp, 1) := by decide +kernel
theorem dL_law_660 : decode cL_law 660 = .ok (.ifCond .eq 5, 3) := by decide +kernel
theorem dL_law_663 : decode cL_law 663 = .ok (.iconst 0, 1) := by decide +kernel
theorem dL_law_664 : decode cL_law 664 = .ok (.ireturn, 1) := by decide +kernel
theorem dL_law_665 : decode cL_law 665 = .ok (.goto 305, 3) := by decide +kernel
theorem dL_law_668 : decode cL_law 668 = .ok (.aload_n 1, 1) := by decide +kernel
theorem dL_law_669 : decode cL_law 669 = .ok (.aload_n 0, 1) := by decide +kernel
theorem dL_law_670 : decode cL_law 670 = .ok (.iload 4, 2) := by decide +kernel
theorem dL_law_672 : decode cL_law 672 = .ok (.iconst 1, 1) := by decide +kernel
theorem dL_law_673 : decode cL_law 673 = .ok (.iadd, 1) := by decide +kernel
theorem dL_law_674 : decode cL_law 674 = .ok (.iaload, 1) := by decide +kernel
theorem dL_law_675 : decode cL_law 675 = .ok (.invokestatic 107, 3) := by decide +kernel
theorem dL_law_678 : decode cL_law 678 = .ok (.istore 5, 2) := by decide +kernel
theorem dL_law_680 : decode cL_law 680 = .ok (.aload_n 2, 1) := by decide +kernel
theorem dL_law_681 : decode cL_law 681 = .ok (.aload_n 0, 1) := by decide +kernel
theorem dL_law_682 : decode cL_law 682 = .ok (.iload 4, 2) := by decide +kernel
theorem dL_law_684 : decode cL_law 684 = .ok (.iconst 1, 1) := by decide +kernel
theorem dL_law_685 : decode cL_law 685 = .ok (.iadd, 1) := by decide +kernel
theorem dL_law_686 : decode cL_law 686 = .ok (.iaload, 1) := by decide +kernel
theorem dL_law_687 : decode cL_law 687 = .ok (.invokevirtual 110, 3) := by decide +kernel
theorem dL_law_690 : decode cL_law 690 = .ok (.aload_n 2, 1) := by decide +kernel
theorem dL_law_691 : decode cL_law 691 = .ok (.invokevirtual 77, 3) := by decide +kernel
theorem dL_law_694 : decode cL_law 694 = .ok (.iload 5, 2) := by decide +kernel
theorem dL_law_696 : decode cL_law 696 = .ok (.if_icmp .eq 5, 3) := by decide +kernel
theorem dL_law_699 : decode cL_law 699 = .ok (.iconst 0, 1) := by decide +kernel
theorem dL_law_700 : decode cL_law 700 = .ok (.ireturn, 1) := by decide +kernel
theorem dL_law_701 : decode cL_law 701 = .ok (.goto 269, 3) := by decide +kernel
theorem dL_law_704 : decode cL_law 704 = .ok (.aload_n 1, 1) := by decide +kernel
theorem dL_law_705 : decode cL_law 705 = .ok (.aload_n 0, 1) := by decide +kernel
theorem dL_law_706 : decode cL_law 706 = .ok (.iload 4, 2) := by decide +kernel
theorem dL_law_708 : decode cL_law 708 = .ok (.iconst 1, 1) := by decide +kernel
theorem dL_law_709 : decode cL_law 709 = .ok (.iadd, 1) := by decide +kernel
theorem dL_law_710 : decode cL_law 710 = .ok (.iaload, 1) := by decide +kernel
theorem dL_law_711 : decode cL_law 711 = .ok (.aload_n 0, 1) := by decide +kernel
theorem dL_law_712 : decode cL_law 712 = .ok (.iload 4, 2) := by decide +kernel
theorem dL_law_714 : decode cL_law 714 = .ok (.iconst 2, 1) := by decide +kernel
theorem dL_law_715 : decode cL_law 715 = .ok (.iadd, 1) := by decide +kernel
theorem dL_law_716 : decode cL_law 716 = .ok (.iaload, 1) := by decide +kernel
theorem dL_law_717 : decode cL_law 717 = .ok (.aload_n 3, 1) := by decide +kernel
theorem dL_law_718 : decode cL_law 718 = .ok (.invokestatic 111, 3) := by decide +kernel
theorem dL_law_721 : decode cL_law 721 = .ok (.istore 5, 2) := by decide +kernel
theorem dL_law_723 : decode cL_law 723 = .ok (.aload_n 2, 1) := by decide +kernel
theorem dL_law_724 : decode cL_law 724 = .ok (.aload_n 0, 1) := by decide +kernel
theorem dL_law_725 : decode cL_law 725 = .ok (.iload 4, 2) := by decide +kernel
theorem dL_law_727 : decode cL_law 727 = .ok (.iconst 1, 1) := by decide +kernel
theorem dL_law_728 : decode cL_law 728 = .ok (.iadd, 1) := by decide +kernel
theorem dL_law_729 : decode cL_law 729 = .ok (.iaload, 1) := by decide +kernel
theorem dL_law_730 : decode cL_law 730 = .ok (.aload_n 0, 1) := by decide +kernel
theorem dL_law_731 : decode cL_law 731 = .ok (.iload 4, 2) := by decide +kernel
theorem dL_law_733 : decode cL_law 733 = .ok (.iconst 2, 1) := by decide +kernel
theorem dL_law_734 : decode cL_law 734 = .ok (.iadd, 1) := by decide +kernel
theorem dL_law_735 : decode cL_law 735 = .ok (.iaload, 1) := by decide +kernel
theorem dL_law_736 : decode cL_law 736 = .ok (.invokevirtual 113, 3) := by decide +kernel
theorem dL_law_739 : decode cL_law 739 = .ok (.istore 6, 2) := by decide +kernel
theorem dL_law_741 : decode cL_law 741 = .ok (.aload_n 2, 1) := by decide +kernel
theorem dL_law_742 : decode cL_law 742 = .ok (.invokevirtual 77, 3) := by decide +kernel
theorem dL_law_745 : decode cL_law 745 = .ok (.iload 5, 2) := by decide +kernel
theorem dL_law_747 : decode cL_law 747 = .ok (.if_icmp .eq 5, 3) := by decide +kernel
theorem dL_law_750 : decode cL_law 750 = .ok (.iconst 0, 1) := by decide +kernel
theorem dL_law_751 : decode cL_law 751 = .ok (.ireturn, 1) := by decide +kernel
theorem dL_law_752 : decode cL_law 752 = .ok (.iload 5, 2) := by decide +kernel
theorem dL_law_754 : decode cL_law 754 = .ok (.ifCond .ne 15, 3) := by decide +kernel
theorem dL_law_757 : decode cL_law 757 = .ok (.aload_n 3, 1) := by decide +kernel
theorem dL_law_758 : decode cL_law 758 = .ok (.iconst 0, 1) := by decide +kernel
theorem dL_law_759 : decode cL_law 759 = .ok (.laload, 1) := by decide +kernel
theorem dL_law_760 : decode cL_law 760 = .ok (.iload 6, 2) := by decide +kernel
theorem dL_law_762 : decode cL_law 762 = .ok (.i2l, 1) := by decide +kernel
theorem dL_law_763 : decode cL_law 763 = .ok (.lcmp, 1) := by decide +kernel
theorem dL_law_764 : decode cL_law 764 = .ok (.ifCond .eq 5, 3) := by decide +kernel
theorem dL_law_767 : decode cL_law 767 = .ok (.iconst 0, 1) := by decide +kernel
theorem dL_law_768 : decode cL_law 768 = .ok (.ireturn, 1) := by decide +kernel
theorem dL_law_769 : decode cL_law 769 = .ok (.goto 201, 3) := by decide +kernel
theorem dL_law_772 : decode cL_law 772 = .ok (.aload_n 1, 1) := by decide +kernel
theorem dL_law_773 : decode cL_law 773 = .ok (.aload_n 3, 1) := by decide +kernel
theorem dL_law_774 : decode cL_law 774 = .ok (.invokestatic 114, 3) := by decide +kernel
theorem dL_law_777 : decode cL_law 777 = .ok (.istore 5, 2) := by decide +kernel
theorem dL_law_779 : decode cL_law 779 = .ok (.aload_n 2, 1) := by decide +kernel
theorem dL_law_780 : decode cL_law 780 = .ok (.invokevirtual 116, 3) := by decide +kernel
theorem dL_law_783 : decode cL_law 783 = .ok (.istore 6, 2) := by decide +kernel
theorem dL_law_785 : decode cL_law 785 = .ok (.aload_n 2, 1) := by decide +kernel
theorem dL_law_786 : decode cL_law 786 = .ok (.invokevirtual 77, 3) := by decide +kernel
theorem dL_law_789 : decode cL_law 789 = .ok (.iload 5, 2) := by decide +kernel
theorem dL_law_791 : decode cL_law 791 = .ok (.if_icmp .eq 5, 3) := by decide +kernel
theorem dL_law_794 : decode cL_law 794 = .ok (.iconst 0, 1) := by decide +kernel
theorem dL_law_795 : decode cL_law 795 = .ok (.ireturn, 1) := by decide +kernel
theorem dL_law_796 : decode cL_law 796 = .ok (.iload 5, 2) := by decide +kernel
theorem dL_law_798 : decode cL_law 798 = .ok (.ifCond .ne 15, 3) := by decide +kernel
theorem dL_law_801 : decode cL_law 801 = .ok (.aload_n 3, 1) := by decide +kernel
theorem dL_law_802 : decode cL_law 802 = .ok (.iconst 0, 1) := by decide +kernel
theorem dL_law_803 : decode cL_law 803 = .ok (.laload, 1) := by decide +kernel
theorem dL_law_804 : decode cL_law 804 = .ok (.iload 6, 2) := by decide +kernel
theorem dL_law_806 : decode cL_law 806 = .ok (.i2l, 1) := by decide +kernel
theorem dL_law_807 : decode cL_law 807 = .ok (.lcmp, 1) := by decide +kernel
theorem dL_law_808 : decode cL_law 808 = .ok (.ifCond .eq 5, 3) := by decide +kernel
theorem dL_law_811 : decode cL_law 811 = .ok (.iconst 0, 1) := by decide +kernel
theorem dL_law_812 : decode cL_law 812 = .ok (.ireturn, 1) := by decide +kernel
theorem dL_law_813 : decode cL_law 813 = .ok (.goto 157, 3) := by decide +kernel
theorem dL_law_816 : decode cL_law 816 = .ok (.aload_n 1, 1) := by decide +kernel
theorem dL_law_817 : decode cL_law 817 = .ok (.aload_n 0, 1) := by decide +kernel
theorem dL_law_818 : decode cL_law 818 = .ok (.iload 4, 2) := by decide +kernel
theorem dL_law_820 : decode cL_law 820 = .ok (.iconst 1, 1) := by decide +kernel
theorem dL_law_821 : decode cL_law 821 = .ok (.iadd, 1) := by decide +kernel
theorem dL_law_822 : decode cL_law 822 = .ok (.iaload, 1) := by decide +kernel
theorem dL_law_823 : decode cL_law 823 = .ok (.ifCond .eq 7, 3) := by decide +kernel
theorem dL_law_826 : decode cL_law 826 = .ok (.iconst 1, 1) := by decide +kernel
theorem dL_law_827 : decode cL_law 827 = .ok (.goto 4, 3) := by decide +kernel
theorem dL_law_830 : decode cL_law 830 = .ok (.iconst 0, 1) := by decide +kernel
theorem dL_law_831 : decode cL_law 831 = .ok (.aload_n 3, 1) := by decide +kernel
theorem dL_law_832 : decode cL_law 832 = .ok (.invokestatic 117, 3) := by decide +kernel
theorem dL_law_835 : decode cL_law 835 = .ok (.istore 5, 2) := by decide +kernel
theorem dL_law_837 : decode cL_law 837 = .ok (.aload_n 2, 1) := by decide +kernel
theorem dL_law_838 : decode cL_law 838 = .ok (.aload_n 0, 1) := by decide +kernel
theorem dL_law_839 : decode cL_law 839 = .ok (.iload 4, 2) := by decide +kernel
theorem dL_law_841 : decode cL_law 841 = .ok (.iconst 1, 1) := by decide +kernel
theorem dL_law_842 : decode cL_law 842 = .ok (.iadd, 1) := by decide +kernel
theorem dL_law_843 : decode cL_law 843 = .ok (.iaload, 1) := by decide +kernel
theorem dL_law_844 : decode cL_law 844 = .ok (.ifCond .eq 7, 3) := by decide +kernel
theorem dL_law_847 : decode cL_law 847 = .ok (.iconst 1, 1) := by decide +kernel
theorem dL_law_848 : decode cL_law 848 = .ok (.goto 4, 3) := by decide +kernel
theorem dL_law_851 : decode cL_law 851 = .ok (.iconst 0, 1) := by decide +kernel
theorem dL_law_852 : decode cL_law 852 = .ok (.invokevirtual 120, 3) := by decide +kernel
theorem dL_law_855 : decode cL_law 855 = .ok (.istore 6, 2) := by decide +kernel
theorem dL_law_857 : decode cL_law 857 = .ok (.aload_n 2, 1) := by decide +kernel
theorem dL_law_858 : decode cL_law 858 = .ok (.invokevirtual 77, 3) := by decide +kernel
theorem dL_law_861 : decode cL_law 861 = .ok (.iload 5, 2) := by decide +kernel
theorem dL_law_863 : decode cL_law 863 = .ok (.if_icmp .eq 5, 3) := by decide +kernel
theorem dL_law_866 : decode cL_law 866 = .ok (.iconst 0, 1) := by decide +kernel
theorem dL_law_867 : decode cL_law 867 = .ok (.ireturn, 1) := by decide +kernel
theorem dL_law_868 : decode cL_law 868 = .ok (.iload 5, 2) := by decide +kernel
theorem dL_law_870 : decode cL_law 870 = .ok (.ifCond .ne 15, 3) := by decide +kernel
theorem dL_law_873 : decode cL_law 873 = .ok (.aload_n 3, 1) := by decide +kernel
theorem dL_law_874 : decode cL_law 874 = .ok (.iconst 0, 1) := by decide +kernel
theorem dL_law_875 : decode cL_law 875 = .ok (.laload, 1) := by decide +kernel
theorem dL_law_876 : decode cL_law 876 = .ok (.iload 6, 2) := by decide +kernel
theorem dL_law_878 : decode cL_law 878 = .ok (.i2l, 1) := by decide +kernel
theorem dL_law_879 : decode cL_law 879 = .ok (.lcmp, 1) := by decide +kernel
theorem dL_law_880 : decode cL_law 880 = .ok (.ifCond .eq 5, 3) := by decide +kernel
theorem dL_law_883 : decode cL_law 883 = .ok (.iconst 0, 1) := by decide +kernel
theorem dL_law_884 : decode cL_law 884 = .ok (.ireturn, 1) := by decide +kernel
theorem dL_law_885 : decode cL_law 885 = .ok (.goto 85, 3) := by decide +kernel
theorem dL_law_888 : decode cL_law 888 = .ok (.aload_n 1, 1) := by decide +kernel
theorem dL_law_889 : decode cL_law 889 = .ok (.aload_n 0, 1) := by decide +kernel
theorem dL_law_890 : decode cL_law 890 = .ok (.iload 4, 2) := by decide +kernel
theorem dL_law_892 : decode cL_law 892 = .ok (.iconst 1, 1) := by decide +kernel
theorem dL_law_893 : decode cL_law 893 = .ok (.iadd, 1) := by decide +kernel
theorem dL_law_894 : decode cL_law 894 = .ok (.iaload, 1) := by decide +kernel
theorem dL_law_895 : decode cL_law 895 = .ok (.aload_n 3, 1) := by decide +kernel
theorem dL_law_896 : decode cL_law 896 = .ok (.invokestatic 121, 3) := by decide +kernel
theorem dL_law_899 : decode cL_law 899 = .ok (.istore 5, 2) := by decide +kernel
theorem dL_law_901 : decode cL_law 901 = .ok (.aload_n 2, 1) := by decide +kernel
theorem dL_law_902 : decode cL_law 902 = .ok (.aload_n 0, 1) := by decide +kernel
theorem dL_law_903 : decode cL_law 903 = .ok (.iload 4, 2) := by decide +kernel
theorem dL_law_905 : decode cL_law 905 = .ok (.iconst 1, 1) := by decide +kernel
theorem dL_law_906 : decode cL_law 906 = .ok (.iadd, 1) := by decide +kernel
theorem dL_law_907 : decode cL_law 907 = .ok (.iaload, 1) := by decide +kernel
theorem dL_law_908 : decode cL_law 908 = .ok (.invokevirtual 123, 3) := by decide +kernel
theorem dL_law_911 : decode cL_law 911 = .ok (.istore 6, 2) := by decide +kernel
theorem dL_law_913 : decode cL_law 913 = .ok (.aload_n 2, 1) := by decide +kernel
theorem dL_law_914 : decode cL_law 914 = .ok (.invokevirtual 77, 3) := by decide +kernel
theorem dL_law_917 : decode cL_law 917 = .ok (.iload 5, 2) := by decide +kernel
theorem dL_law_919 : decode cL_law 919 = .ok (.if_icmp .eq 5, 3) := by decide +kernel
theorem dL_law_922 : decode cL_law 922 = .ok (.iconst 0, 1) := by decide +kernel
theorem dL_law_923 : decode cL_law 923 = .ok (.ireturn, 1) := by decide +kernel
theorem dL_law_924 : decode cL_law 924 = .ok (.iload 5, 2) := by decide +kernel
theorem dL_law_926 : decode cL_law 926 = .ok (.ifCond .ne 15, 3) := by decide +kernel
theorem dL_law_929 : decode cL_law 929 = .ok (.aload_n 3, 1) := by decide +kernel
theorem dL_law_930 : decode cL_law 930 = .ok (.iconst 0, 1) := by decide +kernel
theorem dL_law_931 : decode cL_law 931 = .ok (.laload, 1) := by decide +kernel
theorem dL_law_932 : decode cL_law 932 = .ok (.iload 6, 2) := by decide +kernel
theorem dL_law_934 : decode cL_law 934 = .ok (.i2l, 1) := by decide +kernel
theorem dL_law_935 : decode cL_law 935 = .ok (.lcmp, 1) := by decide +kernel
theorem dL_law_936 : decode cL_law 936 = .ok (.ifCond .eq 5, 3) := by decide +kernel
theorem dL_law_939 : decode cL_law 939 = .ok (.iconst 0, 1) := by decide +kernel
theorem dL_law_940 : decode cL_law 940 = .ok (.ireturn, 1) := by decide +kernel
theorem dL_law_941 : decode cL_law 941 = .ok (.goto 29, 3) := by decide +kernel
theorem dL_law_944 : decode cL_law 944 = .ok (.aload_n 1, 1) := by decide +kernel
theorem dL_law_945 : decode cL_law 945 = .ok (.invokevirtual 124, 3) := by decide +kernel
theorem dL_law_948 : decode cL_law 948 = .ok (.aload_n 2, 1) := by decide +kernel
theorem dL_law_949 : decode cL_law 949 = .ok (.invokevirtual 127, 3) := by decide +kernel
theorem dL_law_952 : decode cL_law 952 = .ok (.if_icmp .eq 18, 3) := by decide +kernel
theorem dL_law_955 : decode cL_law 955 = .ok (.iconst 0, 1) := by decide +kernel
theorem dL_law_956 : decode cL_law 956 = .ok (.ireturn, 1) := by decide +kernel
theorem dL_law_957 : decode cL_law 957 = .ok (.aload_n 1, 1) := by decide +kernel
theorem dL_law_958 : decode cL_law 958 = .ok (.invokevirtual 128, 3) := by decide +kernel
theorem dL_law_961 : decode cL_law 961 = .ok (.aload_n 2, 1) := by decide +kernel
theorem dL_law_962 : decode cL_law 962 = .ok (.invokevirtual 132, 3) := by decide +kernel
theorem dL_law_965 : decode cL_law 965 = .ok (.if_icmp .eq 5, 3) := by decide +kernel
theorem dL_law_968 : decode cL_law 968 = .ok (.iconst 0, 1) := by decide +kernel
theorem dL_law_969 : decode cL_law 969 = .ok (.ireturn, 1) := by decide +kernel
theorem dL_law_970 : decode cL_law 970 = .ok (.iinc 4 4, 3) := by decide +kernel
theorem dL_law_973 : decode cL_law 973 = .ok (.goto (-950), 3) := by decide +kernel
theorem dL_law_976 : decode cL_law 976 = .ok (.iconst 1, 1) := by decide +kernel
theorem dL_law_977 : decode cL_law 977 = .ok (.ireturn, 1) := by decide +kernel
end
section
abbrev vwCl : List vw_C := [(RX0, TX0, 5), (RX1, TX1, 3), (RX2, TX2, 1), (RX3, TX3, 6), (RX4, TX4, 20)]
end
section
/-! BASE: worlds written in place, what reads, what writes, what may throw -/
def z_put : List Nat → va_W → va_W → va_W
  | i :: is, q :: qs, ws => z_put is qs (ws.set i q)
  | _, _, ws => ws
theorem z_put_get : ∀ (is : List Nat) (qs ws : va_W) (k : Nat) (q : Nat × va_E), is.length = qs.length → (z_put is qs ws)[k]? = some q → (∃ j : Nat, is[j]? = some k ∧ qs[j]? = some q) ∨ (ws[k]? = some q ∧ k ∉ is)
  | [], [], ws, k, q, _, h => Or.inr ⟨h, List.not_mem_nil⟩
  | [], _ :: _, _, _, _, hl, _ => by simp at hl
  | _ :: _, [], _, _, _, hl, _ => by simp at hl
  | i :: is, q0 :: qs, ws, k, q, hl, h => by
    rcases z_put_get is qs (ws.set i q0) k q (by simpa using hl) h with ⟨j, h1, h2⟩ | ⟨h1, h2⟩
    · exact Or.inl ⟨j + 1, by simpa using h1, by simpa using h2⟩
    · by_cases hki : k = i
      · subst hki
        rw [List.getElem?_set] at h1
        by_cases hkl : k < ws.length
        · simp [hkl] at h1
          exact Or.inl ⟨0, rfl, by simpa using h1⟩
        · simp [hkl] at h1
      · rw [List.getElem?_set_ne (fun h => hki h.symm)] at h1
        exact Or.inr ⟨h1, fun h => (List.mem_cons.mp h).elim hki h2⟩
theorem z_D_of {A : Nat → Prop} {ws ws' : va_W} (h : ws'.map Prod.fst = ws.map Prod.fst) (hD : va_D A ws) : va_D A ws' := by
  have at' : ∀ (k : Nat) (q : Nat × va_E), ws'[k]? = some q → ∃ e, ws[k]? = some (q.1, e) := by
    intro k q hq
    have h1 : (ws'.map Prod.fst)[k]? = some q.1 := by rw [List.getElem?_map, hq]; rfl
    rw [h, List.getElem?_map] at h1
    cases hw : ws[k]? with
    | none => rw [hw] at h1; cases h1
    | some x =>
      rw [hw] at h1
      have h2 : x.1 = q.1 := Option.some.inj h1
      exact ⟨x.2, by rw [← h2]⟩
  exact ⟨fun i j p q hi hj hpq => by
    obtain ⟨e1, h1⟩ := at' i p hi
    obtain ⟨e2, h2⟩ := at' j q hj
    exact hD.1 i j _ _ h1 h2 hpq, fun k q hq => by
    obtain ⟨e, h1⟩ := at' k q hq
    exact hD.2 k (q.1, e) h1⟩
theorem z_join {A0 : Nat → Prop} {D : va_G} {ws wc w1 ws' : va_W} {H H1 : Heap} (isC : List Nat) (hP : va_P D vwCl ws H) (hD : va_D A0 ws) (hC : isC.map (fun i => ws[i]?) = wc.map some) (hl : isC.length = w1.length) (hw : z_put isC w1 ws = ws')
    (hk : ∀ q : Nat, q < H.size → ¬ va_A wc H.size q → H1[q]? = H[q]?) (hP1 : va_P D vwCl w1 H1) : va_P D vwCl ws' H1 := by
  subst hw
  intro k q hq
  rcases z_put_get isC w1 ws k q hl hq with ⟨j, h1, h2⟩ | ⟨h1, h2⟩
  · exact hP1 j q h2
  · have hlt := (hP k q h1).lt
    refine (hP k q h1).kept (hk q.1 hlt ?_)
    rintro (⟨k2, e, h⟩ | h)
    · have h3 : (isC.map (fun i => ws[i]?))[k2]? = some (some (q.1, e)) := by rw [hC, List.getElem?_map, h]; rfl
      rw [List.getElem?_map] at h3
      cases hi : isC[k2]? with
      | none => rw [hi] at h3; cases h3
      | some i =>
        rw [hi] at h3
        have h4 : ws[i]? = some (q.1, e) := Option.some.inj h3
        have h5 := hD.1 k i q (q.1, e) h1 h4 rfl
        subst h5
        exact h2 (List.mem_of_getElem? hi)
    · exact absurd h (Nat.not_le.mpr hlt)
def z_Pr (D : va_G) (cI : ClassId) (av : List Value) (ws : va_W) : Array Value → State → Prop := va_Pc av (fun U => va_P D vwCl ws U.heap ∧ va_K D vwCl [(cI, .int)] U)
theorem z_Pr_blind {D : va_G} {cI : ClassId} {av : List Value} {ws : va_W} : FrameBlind (z_Pr D cI av ws) := fun a U g mk q => by
  obtain ⟨q0, qP, qK⟩ := q
  exact ⟨q0, qP, va_K.moved (u := U) (U := U.calling g mk a) (Vm.Alike.refl U.vm) qK⟩
def z_Pw (D : va_G) (cI : ClassId) (av : List Value) (ws : va_W) (sz : Nat) : Array Value → State → Prop := va_Pc av (fun U => U.heap.size = sz ∧ va_P D vwCl ws U.heap ∧ va_K D vwCl [(cI, .int)] U ∧ va_D (fun _ => True) ws)
theorem z_Pw_blind {D : va_G} {cI : ClassId} {av : List Value} {ws : va_W} {sz : Nat} : FrameBlind (z_Pw D cI av ws sz) := fun a U g mk q => by
  obtain ⟨q0, q1, qP, qK, qD⟩ := q
  exact ⟨q0, q1, qP, va_K.moved (u := U) (U := U.calling g mk a) (Vm.Alike.refl U.vm) qK, qD⟩
def z_Ro (v : Option Value) : Array Value → State → Outcome → State → Prop := fun _ st o t => o = .returned v ∧ t.heap = st.heap
def z_Wo (D : va_G) (v : Option Value) (w1 : va_W) (A : Nat → Prop) : Array Value → State → Outcome → State → Prop := fun _ st o t => (o = .returned v ∧ va_P D vwCl w1 t.heap) ∧ va_F A st t
section ZB
variable {p : Program} {l : Launch} {e : Env} {R : Room} {s : State} {m : MethodId} {args : Array Value} {below : List Frame} {meth : Method} {c : Code} {H : Heap} {locs : List Loc} {cells slots mc ms : Nat} {Q : State → Prop}
variable {pc : Nat} {ls : Array Slot} {rest st0 : List Value} {a : Array Value} {v : Option Value} {D : va_G} {A0 : Nat → Prop} {H0 : Heap} {ws wc w1 ws' : va_W}
theorem z_callR (hr : va_Run p l e R s m args below meth c H locs cells slots 0 0 (F0 m pc ls st0) rest (z_Ro v a) (fun _ => False))
    (kk : W p l e R s m args below meth c H locs cells slots Q (F0 m (pc + 3) ls (v.toList ++ rest))) : W p l e R s m args below meth c H locs cells slots Q (F0 m pc ls st0) := by
  intro T hT X
  obtain ⟨v', st₀, t, T', L, h0, X', hL, e1, e2, ⟨hv, hh⟩, st⟩ := hr T hT X
  have hL0 : L = [] := by
    cases L with
    | nil => rfl
    | cons q _ => exact (hL q List.mem_cons_self).elim
  subst hL0
  cases hv
  rw [List.append_nil] at X'
  obtain ⟨t2, a1, b1⟩ := kk T' (by rw [e1, hh, h0]) X'
  exact ⟨t2, st t2 a1, b1⟩
theorem z_callRi {x : Int32} (hr : va_Run p l e R s m args below meth c H locs cells slots 0 0 (F0 m pc ls st0) rest (z_Ro (some (.int x)) a) (fun _ => False))
    (kk : W p l e R s m args below meth c H locs cells slots Q (F0 m (pc + 3) ls (.int x :: rest))) : W p l e R s m args below meth c H locs cells slots Q (F0 m pc ls st0) := z_callR hr kk
theorem z_callW (isC : List Nat) (hr : va_Run p l e R s m args below meth c H locs cells slots mc ms (F0 m pc ls st0) rest (z_Wo D v w1 (va_A wc H.size) a) (va_A wc H.size))
    (hP : va_P D vwCl ws H) (hD : va_D A0 ws) (hS : va_S A0 H0 H locs) (hA : ∀ q : Nat, H0.size ≤ q → A0 q) (hC : isC.map (fun i => ws[i]?) = wc.map some) (hl : isC.length = w1.length) (hw : z_put isC w1 ws = ws') (hadr : ws'.map Prod.fst = ws.map Prod.fst)
    (kk : ∀ (H1 : Heap) (locs1 : List Loc), va_P D vwCl ws' H1 → va_D A0 ws' → va_S A0 H0 H1 locs1 → W p l e R s m args below meth c H1 locs1 (cells + mc) (slots + ms) Q (F0 m (pc + 3) ls (v.toList ++ rest))) : W p l e R s m args below meth c H locs cells slots Q (F0 m pc ls st0) := by
  intro T hT X
  obtain ⟨v', st₀, t, T', L, h0, X', hL, e1, e2, ⟨⟨hv, hb⟩, hF⟩, st⟩ := hr T hT X
  cases hv
  have hf := va_free hD hS hA isC hC
  obtain ⟨-, k2, k3⟩ := vx_keep h0 e1 hS (fun q _ h => hf q h) hf hL hF
  obtain ⟨t2, a1, b1⟩ := kk T'.heap (locs ++ L) (z_join isC hP hD hC hl hw k2 (by rw [e1]; exact hb)) (z_D_of hadr hD) k3 T' rfl X'
  exact ⟨t2, st t2 a1, b1⟩
theorem z_callWi {x : Int32} (isC : List Nat) (hr : va_Run p l e R s m args below meth c H locs cells slots 0 0 (F0 m pc ls st0) rest (z_Wo D (some (.int x)) w1 (va_A wc H.size) a) (va_A wc H.size))
    (hP : va_P D vwCl ws H) (hD : va_D A0 ws) (hS : va_S A0 H0 H locs) (hA : ∀ q : Nat, H0.size ≤ q → A0 q) (hC : isC.map (fun i => ws[i]?) = wc.map some) (hl : isC.length = w1.length) (hw : z_put isC w1 ws = ws') (hadr : ws'.map Prod.fst = ws.map Prod.fst)
    (kk : ∀ (H1 : Heap) (locs1 : List Loc), va_P D vwCl ws' H1 → va_D A0 ws' → va_S A0 H0 H1 locs1 → W p l e R s m args below meth c H1 locs1 cells slots Q (F0 m (pc + 3) ls (.int x :: rest))) : W p l e R s m args below meth c H locs cells slots Q (F0 m pc ls st0) := z_callW isC hr hP hD hS hA hC hl hw hadr kk
theorem z_callWv (isC : List Nat) (hr : va_Run p l e R s m args below meth c H locs cells slots 0 0 (F0 m pc ls st0) rest (z_Wo D none w1 (va_A wc H.size) a) (va_A wc H.size))
    (hP : va_P D vwCl ws H) (hD : va_D A0 ws) (hS : va_S A0 H0 H locs) (hA : ∀ q : Nat, H0.size ≤ q → A0 q) (hC : isC.map (fun i => ws[i]?) = wc.map some) (hl : isC.length = w1.length) (hw : z_put isC w1 ws = ws') (hadr : ws'.map Prod.fst = ws.map Prod.fst)
    (kk : ∀ (H1 : Heap) (locs1 : List Loc), va_P D vwCl ws' H1 → va_D A0 ws' → va_S A0 H0 H1 locs1 → W p l e R s m args below meth c H1 locs1 cells slots Q (F0 m (pc + 3) ls rest)) : W p l e R s m args below meth c H locs cells slots Q (F0 m pc ls st0) := z_callW isC hr hP hD hS hA hC hl hw hadr kk
end ZB
/-! exceptions: what a throw needs of the world, and the codes -/
def z_E : Nat → String
  | 1 => "java/lang/IllegalStateException"
  | 2 => "java/lang/IllegalArgumentException"
  | 3 => "java/lang/UnsupportedOperationException"
  | 4 => "java/util/NoSuchElementException"
  | _ => "java/lang/IndexOutOfBoundsException"
def z_Ng : List Cond := [.castable (z_E 1) (z_E 1), .castable (z_E 2) (z_E 2), .castable (z_E 3) (z_E 3), .castable (z_E 4) (z_E 4), .castable (z_E 5) (z_E 5)]
def z_Str (s : State) : Prop := ∀ (k : Nat) (tx : String), Cond.stringRef RX3 k tx ∈ tables_1 → ∃ a : Nat, vk_R RX3 k tx a s
def z_Th (A : Nat → Prop) (U : State) (H : Heap) : Prop := vx_Zq Bundle.tN "UNASSIGNED_STACK" Bundle.steD A U H ∧ vx_Zq Bundle.tN "SUPPRESSED_SENTINEL" Bundle.listD A U H ∧ (∀ w ∈ z_Ng, w.before #[] U = true) ∧ z_Str U
section ZC
variable {p : Program} {l : Launch} {e : Env} {R : Room} {s : State} {m : MethodId} {args : Array Value} {below : List Frame} {meth : Method} {c : Code} {locs : List Loc} {cells slots : Nat} {Q : State → Prop}
theorem z_start {Hx H0 : Heap} {D : va_G} {A : Nat → Prop} {ws : va_W} {g : JFrame} (hP : va_P D vwCl ws Hx) (hS : va_S A H0 Hx locs) (k : ∀ H : Heap, va_P D vwCl ws H → va_S A H0 H locs → W p l e R s m args below meth c H locs cells slots Q g) : W p l e R s m args below meth c Hx locs cells slots Q g := k Hx hP hS
end ZC
theorem z_ret {x y : Int32} (h : x = y) : Outcome.returned (some (Value.int x)) = Outcome.returned (some (Value.int y)) := by rw [h]
def zb (b : Bool) : Int32 := if b = true then 1 else 0
theorem zb_t : zb true = 1 := rfl
theorem zb_f : zb false = 0 := rfl
theorem zb_e0 (b : Bool) : (zb b = 0) = (b = false) := by cases b <;> simp [zb]
theorem zb_e1 (b : Bool) : (zb b = 1) = (b = true) := by cases b <;> simp [zb]
theorem z_nb (b : Bool) : narrow .boolean (.int (zb b)) = .int (zb b) := by cases b <;> rfl
theorem z_fb (b : Bool) : fits .boolean (.int (zb b)) = true := by cases b <;> rfl
theorem z_sub1 (x : Int32) : x + Int32.ofInt (-1) = x - 1 := by
  rw [Int32.sub_eq_add_neg]; rfl
abbrev zA : Type := Nat → Int32
/-! Row: a guarded array of n ints -/
def r_at (n : Nat) (f : zA) (i : Int32) : Int32 := if 0 ≤ i ∧ i < nI n then f i.toNatClampNeg else 0
def r_set (n : Nat) (f : zA) (i v : Int32) : zA := if 0 ≤ i ∧ i < nI n then upd f i.toNatClampNeg v else f
def r_take (n m : Nat) (f g : zA) : zA := fun j => if j < n then r_at m g (nI j) else f j
theorem r_in {n : Nat} {i : Int32} (hn : n < 2 ^ 31) (h1 : 0 ≤ i) (h2 : ¬ nI n ≤ i) : vp_in i n := by
  intro h
  rcases h with h | h
  · exact absurd h (by rw [Int32.not_lt]; exact h1)
  · apply h2
    rw [Int32.le_iff_toInt_le, nI_toInt hn]
    rw [Int32.le_iff_toInt_le] at h1
    have h3 : (0 : Int32).toInt = 0 := rfl
    rw [h3] at h1
    have : (i.toNatClampNeg : Int) = i.toInt := by
      rw [Int32.toNatClampNeg]; omega
    omega
/-! Power -/
def pw_write (up : Bool) (left cnt : Int32) : Bool × Bool × Int32 × Int32 :=
  if left = 0 then (false, false, left, cnt) else if up = false then (false, up, left, cnt) else (true, up, if 0 < left then left - 1 else left, cnt + 1)
end
section
theorem z_at_in {n : Nat} {f : zA} {i : Int32} (h1 : ¬ i < 0) (h2 : ¬ nI n ≤ i) : f i.toNatClampNeg = r_at n f i := by
  rw [r_at, if_pos ⟨Int32.not_lt.mp h1, Int32.not_le.mp h2⟩]
theorem z_at_lo {n : Nat} {f : zA} {i : Int32} (h1 : i < 0) : (0 : Int32) = r_at n f i := by
  rw [r_at, if_neg (fun h => absurd h1 (Int32.not_lt.mpr h.1))]
theorem z_at_hi {n : Nat} {f : zA} {i : Int32} (h1 : nI n ≤ i) : (0 : Int32) = r_at n f i := by
  rw [r_at, if_neg (fun h => absurd h1 (Int32.not_le.mpr h.2))]
theorem z_set_in {n : Nat} {f : zA} {i v : Int32} (h1 : ¬ i < 0) (h2 : ¬ nI n ≤ i) : upd f i.toNatClampNeg v = r_set n f i v := by
  rw [r_set, if_pos ⟨Int32.not_lt.mp h1, Int32.not_le.mp h2⟩]
theorem z_set_lo {n : Nat} {f : zA} {i v : Int32} (h1 : i < 0) : f = r_set n f i v := by
  rw [r_set, if_neg (fun h => absurd h1 (Int32.not_lt.mpr h.1))]
theorem z_set_hi {n : Nat} {f : zA} {i v : Int32} (h1 : nI n ≤ i) : f = r_set n f i v := by
  rw [r_set, if_neg (fun h => absurd h1 (Int32.not_le.mpr h.2))]
theorem qd_X2_at : yX2_at.cls = RX2 ∧ yX2_at.cls ≠ "java/lang/invoke/MethodHandle" ∧ yX2_at.cls ≠ "java/lang/invoke/VarHandle" ∧ (parseMethodDescriptor yX2_at.desc).map (fun d => d.parameters.length) = some 1 := by decide +kernel
set_option maxHeartbeats 4000000 in
set_option maxRecDepth 100000 in
/-- Row.at -/
theorem c_X2_at (l : Launch) (D : va_G) (cI : ClassId) (h0 : Nat) (h1 : Nat) (n : Nat) (f : zA) (p0 : Int32) (hn : n < 2 ^ 31) : Met l yX2_at wsX2_at ({ frames := 0, cells := 0, slots := 0, locals := 0 }) (z_Pr D cI [.ref h0, .int p0] [(h0, .inr (2, [.ref h1])), (h1, .inl (cI, n, .inl f))]) (z_Ro (some (.int (r_at n f p0)))) 0 0 (fun _ => False) := by
  refine Met.ofW (cc := cX2_at) (maxL := 2) (ret := (some .int)) (by decide) rfl ?_
  intro p e s m args below meth c s₁ B hml hv
  obtain ⟨rfl, hP, hK⟩ := hv
  have hx := B.exec
  have hb := B.bytes
  have hr := B.returns
  have hts := atoms_spec (ws := wsX2_at) B.pre
  have hown : s.vm.findClass RX2 = some m.cls := findClass_of_methodNamed B.named
  have hlocks := B.notSynchronized
  have hP : va_P D vwCl [(h0, .inr (2, [.ref h1])), (h1, .inl (cI, n, .inl f))] s.heap := hP
  have hl := lv_entry ([.ref h0, .int p0]) (n := 2) (Nat.le_of_ble_eq_true rfl)
  rw [lg_entry_eq]
  generalize (lg_sl ([.ref h0, .int p0]) ++ List.replicate (2 - (lg_sl ([.ref h0, .int p0])).length) Slot.unset).toArray = ls at hl ⊢
  have hl : lv_has ls 2 [(0, .ref h0), (1, .int p0)] := hl
  have hin2 : ∀ w ∈ wsX20, w ∈ wsX2_at := by decide +kernel
  have hf13 : (Cond.fieldLink RX2 13 "SqueezedVolume$Row" "cells" "[I").before args s = true := hts _ (by decide +kernel)
  refine lv_iload_n hx hb dX2_at_0 rfl (lv_at hl 1 rfl) ?_
  refine lv_if_lt (tgt := 22) hx hb dX2_at_1 (by decide) (fun c_1 => ?_) (fun c_1 => ?_)
  · skip
    refine lv_iconst (v := 0) hx hb dX2_at_22 (by decide) ?_
    exact W.iret (v := 0) hx hb hr (fun t ht hW => ⟨z_ret (z_at_lo c_1), ht⟩) (fun _ h => nomatch h) dX2_at_23
  · skip
    refine lv_iload_n hx hb dX2_at_4 rfl (lv_at hl 1 rfl) ?_
    refine lv_aload_n hx hb dX2_at_5 rfl (lv_at hl 0 rfl) ?_
    refine va_get (D := D) (ci := 2) (v := .ref h1) (C := RX2) (T := TX2) (N := 1) hx hb hts hin2 hown hK hP 0 rfl rfl 0 (by decide) hf13 (fun _ h9 => h9) rfl dX2_at_6 ?_
    refine va_alen (v := nI n) hx hb hK hP 1 0 rfl rfl rfl dX2_at_9 ?_
    refine lv_icmp_ge (tgt := 22) hx hb dX2_at_10 (by decide) (fun c_2 => ?_) (fun c_2 => ?_)
    · skip
      refine lv_iconst (v := 0) hx hb dX2_at_22 (by decide) ?_
      exact W.iret (v := 0) hx hb hr (fun t ht hW => ⟨z_ret (z_at_hi c_2), ht⟩) (fun _ h => nomatch h) dX2_at_23
    · skip
      refine lv_aload_n hx hb dX2_at_13 rfl (lv_at hl 0 rfl) ?_
      refine va_get (D := D) (ci := 2) (v := .ref h1) (C := RX2) (T := TX2) (N := 1) hx hb hts hin2 hown hK hP 0 rfl rfl 0 (by decide) hf13 (fun _ h9 => h9) rfl dX2_at_14 ?_
      refine lv_iload_n hx hb dX2_at_17 rfl (lv_at hl 1 rfl) ?_
      refine va_iald hx hb hK hP 1 0 rfl rfl (r_in hn (Int32.not_lt.mp c_1) c_2) dX2_at_18 ?_
      refine lv_goto (tgt := 23) hx hb dX2_at_19 (by decide) ?_
      exact W.iret (v := f p0.toNatClampNeg) hx hb hr (fun t ht hW => ⟨z_ret (z_at_in c_1 c_2), ht⟩) (fun _ h => nomatch h) dX2_at_23
theorem qd_X2_set : yX2_set.cls = RX2 ∧ yX2_set.cls ≠ "java/lang/invoke/MethodHandle" ∧ yX2_set.cls ≠ "java/lang/invoke/VarHandle" ∧ (parseMethodDescriptor yX2_set.desc).map (fun d => d.parameters.length) = some 2 := by decide +kernel
set_option maxHeartbeats 4000000 in
set_option maxRecDepth 100000 in
/-- Row.set -/
theorem c_X2_set (l : Launch) (D : va_G) (cI : ClassId) (h0 : Nat) (h1 : Nat) (n : Nat) (f : zA) (p0 : Int32) (p1 : Int32) (sz : Nat) (hn : n < 2 ^ 31) : Met l yX2_set wsX2_set ({ frames := 0, cells := 0, slots := 0, locals := 0 }) (z_Pw D cI [.ref h0, .int p0, .int p1] [(h0, .inr (2, [.ref h1])), (h1, .inl (cI, n, .inl f))] sz) (z_Wo D none [(h0, .inr (2, [.ref h1])), (h1, .inl (cI, n, .inl (r_set n f p0 p1)))] (va_A [(h0, .inr (2, [.ref h1])), (h1, .inl (cI, n, .inl f))] sz)) 0 0 (va_A [(h0, .inr (2, [.ref h1])), (h1, .inl (cI, n, .inl f))] sz) := by
  refine Met.ofW (cc := cX2_set) (maxL := 3) (ret := none) (by decide) rfl ?_
  intro p e s m args below meth c s₁ B hml hv
  obtain ⟨rfl, hsz, hP, hK, hD0⟩ := hv
  have hx := B.exec
  have hb := B.bytes
  have hr := B.returns
  have hts := atoms_spec (ws := wsX2_set) B.pre
  have hown : s.vm.findClass RX2 = some m.cls := findClass_of_methodNamed B.named
  have hlocks := B.notSynchronized
  subst hsz
  have hD := hD0.self (sz := s.heap.size)
  generalize hAe : va_A [(h0, .inr (2, [.ref h1])), (h1, .inl (cI, n, .inl f))] s.heap.size = A at hD ⊢
  have hA : ∀ q : Nat, s.heap.size ≤ q → A q := fun q h => by rw [← hAe]; exact Or.inr h
  have hS : va_S A s.heap s.heap [] := va_S.rf
  have hP : va_P D vwCl [(h0, .inr (2, [.ref h1])), (h1, .inl (cI, n, .inl f))] s.heap := hP
  have hl := lv_entry ([.ref h0, .int p0, .int p1]) (n := 3) (Nat.le_of_ble_eq_true rfl)
  rw [lg_entry_eq]
  generalize (lg_sl ([.ref h0, .int p0, .int p1]) ++ List.replicate (3 - (lg_sl ([.ref h0, .int p0, .int p1])).length) Slot.unset).toArray = ls at hl ⊢
  have hl : lv_has ls 3 [(0, .ref h0), (1, .int p0), (2, .int p1)] := hl
  refine z_start hP hS (fun H hP hS => ?_)
  have hin2 : ∀ w ∈ wsX20, w ∈ wsX2_set := by decide +kernel
  have hf13 : (Cond.fieldLink RX2 13 "SqueezedVolume$Row" "cells" "[I").before args s = true := hts _ (by decide +kernel)
  refine lv_iload_n hx hb dX2_set_0 rfl (lv_at hl 1 rfl) ?_
  refine lv_if_lt (tgt := 20) hx hb dX2_set_1 (by decide) (fun c_1 => ?_) (fun c_1 => ?_)
  · skip
    have e9_0 : f = r_set n f p0 p1 := z_set_lo c_1
    have hPz : va_P D vwCl [(h0, .inr (2, [.ref h1])), (h1, .inl (cI, n, .inl (r_set n f p0 p1)))] H := by rw [← e9_0]; exact hP
    exact W.vret hx hb hr (fun t ht hW => ⟨⟨rfl, by rw [ht]; exact hPz⟩, hS.F ht⟩) hS.2.2 dX2_set_20
  · skip
    refine lv_iload_n hx hb dX2_set_4 rfl (lv_at hl 1 rfl) ?_
    refine lv_aload_n hx hb dX2_set_5 rfl (lv_at hl 0 rfl) ?_
    refine va_get (D := D) (ci := 2) (v := .ref h1) (C := RX2) (T := TX2) (N := 1) hx hb hts hin2 hown hK hP 0 rfl rfl 0 (by decide) hf13 (fun _ h9 => h9) rfl dX2_set_6 ?_
    refine va_alen (v := nI n) hx hb hK hP 1 0 rfl rfl rfl dX2_set_9 ?_
    refine lv_icmp_ge (tgt := 20) hx hb dX2_set_10 (by decide) (fun c_2 => ?_) (fun c_2 => ?_)
    · skip
      have e9_0 : f = r_set n f p0 p1 := z_set_hi c_2
      have hPz : va_P D vwCl [(h0, .inr (2, [.ref h1])), (h1, .inl (cI, n, .inl (r_set n f p0 p1)))] H := by rw [← e9_0]; exact hP
      exact W.vret hx hb hr (fun t ht hW => ⟨⟨rfl, by rw [ht]; exact hPz⟩, hS.F ht⟩) hS.2.2 dX2_set_20
    · skip
      refine lv_aload_n hx hb dX2_set_13 rfl (lv_at hl 0 rfl) ?_
      refine va_get (D := D) (ci := 2) (v := .ref h1) (C := RX2) (T := TX2) (N := 1) hx hb hts hin2 hown hK hP 0 rfl rfl 0 (by decide) hf13 (fun _ h9 => h9) rfl dX2_set_14 ?_
      refine lv_iload_n hx hb dX2_set_17 rfl (lv_at hl 1 rfl) ?_
      refine lv_iload_n hx hb dX2_set_18 rfl (lv_at hl 2 rfl) ?_
      refine va_iast hx hb hK hP hD hS 1 0 rfl rfl (r_in hn (Int32.not_lt.mp c_1) c_2) dX2_set_19 (fun H locs hP hD hS => ?_)
      have hP : va_P D vwCl [(h0, .inr (2, [.ref h1])), (h1, .inl (cI, n, .inl (upd f p0.toNatClampNeg p1)))] H := hP
      have hD : va_D A [(h0, .inr (2, [.ref h1])), (h1, .inl (cI, n, .inl (upd f p0.toNatClampNeg p1)))] := hD
      have e9_0 : upd f p0.toNatClampNeg p1 = r_set n f p0 p1 := z_set_in c_1 c_2
      have hPz : va_P D vwCl [(h0, .inr (2, [.ref h1])), (h1, .inl (cI, n, .inl (r_set n f p0 p1)))] H := by rw [← e9_0]; exact hP
      exact W.vret hx hb hr (fun t ht hW => ⟨⟨rfl, by rw [ht]; exact hPz⟩, hS.F ht⟩) hS.2.2 dX2_set_20

def r_tk (m : Nat) (f g : zA) (j : Nat) : zA := fun t => if t < j then r_at m g (nI t) else f t
theorem r_tk_0 (m : Nat) (f g : zA) : r_tk m f g 0 = f := by funext t; simp [r_tk]
theorem r_tk_s {m : Nat} {f g : zA} {x : Int32} {j : Nat} (e : x = nI j) (hj : j < 2 ^ 31) : upd (r_tk m f g j) x.toNatClampNeg (r_at m g x) = r_tk m f g (j + 1) := by
  subst e
  rw [nI_clamp hj]
  funext t
  by_cases h1 : t = j
  · subst h1; simp [upd, r_tk]
  · by_cases h2 : t < j
    · simp [upd, r_tk, h1, h2, Nat.lt_succ_of_lt h2]
    · have h3 : ¬ t < j + 1 := by omega
      simp [upd, r_tk, h1, h2, h3]
theorem z_jlt {n j : Nat} {x : Int32} (hn : n < 2 ^ 31) (e : x = nI j) (c : ¬ nI n ≤ x) (hj : j ≤ n := by assumption) : j < n := by
  rcases Nat.lt_or_ge j n with h | h
  · exact h
  · exact absurd (by rw [e]; exact nI_le h (Nat.lt_of_le_of_lt hj hn)) c
theorem z_jge {n j : Nat} {x : Int32} (hn : n < 2 ^ 31) (hj : j ≤ n) (e : x = nI j) (c : nI n ≤ x) : j = n := by
  rcases Nat.lt_or_ge j n with h | h
  · exact absurd c (by rw [e]; exact nI_ge h hn)
  · omega
theorem qd_X2_takeOver : yX2_takeOver.cls = RX2 ∧ yX2_takeOver.cls ≠ "java/lang/invoke/MethodHandle" ∧ yX2_takeOver.cls ≠ "java/lang/invoke/VarHandle" ∧ (parseMethodDescriptor yX2_takeOver.desc).map (fun d => d.parameters.length) = some 1 := by decide +kernel
set_option maxHeartbeats 4000000 in
set_option maxRecDepth 100000 in
/-- Row.takeOver -/
theorem c_X2_takeOver (l : Launch) (D : va_G) (cI : ClassId) (h0 : Nat) (h1 : Nat) (n : Nat) (f : zA) (g0 : Nat) (g1 : Nat) (n2 : Nat) (f2 : zA) (sz : Nat) (hn : n < 2 ^ 31) (hn2 : n2 < 2 ^ 31) : Met l yX2_takeOver wsX2_takeOver ({ frames := 1, cells := 0, slots := 0, locals := 21 }) (z_Pw D cI [.ref h0, .ref g0] [(h0, .inr (2, [.ref h1])), (h1, .inl (cI, n, .inl f)), (g0, .inr (2, [.ref g1])), (g1, .inl (cI, n2, .inl f2))] sz) (z_Wo D none [(h0, .inr (2, [.ref h1])), (h1, .inl (cI, n, .inl (r_take n n2 f f2))), (g0, .inr (2, [.ref g1])), (g1, .inl (cI, n2, .inl f2))] (va_A [(h0, .inr (2, [.ref h1])), (h1, .inl (cI, n, .inl f)), (g0, .inr (2, [.ref g1])), (g1, .inl (cI, n2, .inl f2))] sz)) 0 0 (va_A [(h0, .inr (2, [.ref h1])), (h1, .inl (cI, n, .inl f)), (g0, .inr (2, [.ref g1])), (g1, .inl (cI, n2, .inl f2))] sz) := by
  refine Met.ofW (cc := cX2_takeOver) (maxL := 3) (ret := none) (by decide) rfl ?_
  intro p e s m args below meth c s₁ B hml hv
  obtain ⟨rfl, hsz, hP, hK, hD0⟩ := hv
  have hx := B.exec
  have hb := B.bytes
  have hr := B.returns
  have hts := atoms_spec (ws := wsX2_takeOver) B.pre
  have hown : s.vm.findClass RX2 = some m.cls := findClass_of_methodNamed B.named
  have hlocks := B.notSynchronized
  subst hsz
  have hD := hD0.self (sz := s.heap.size)
  generalize hAe : va_A [(h0, .inr (2, [.ref h1])), (h1, .inl (cI, n, .inl f)), (g0, .inr (2, [.ref g1])), (g1, .inl (cI, n2, .inl f2))] s.heap.size = A at hD ⊢
  have hA : ∀ q : Nat, s.heap.size ≤ q → A q := fun q h => by rw [← hAe]; exact Or.inr h
  have hS : va_S A s.heap s.heap [] := va_S.rf
  have hP : va_P D vwCl [(h0, .inr (2, [.ref h1])), (h1, .inl (cI, n, .inl f)), (g0, .inr (2, [.ref g1])), (g1, .inl (cI, n2, .inl f2))] s.heap := hP
  have hl := lv_entry ([.ref h0, .ref g0]) (n := 3) (Nat.le_of_ble_eq_true rfl)
  rw [lg_entry_eq]
  generalize (lg_sl ([.ref h0, .ref g0]) ++ List.replicate (3 - (lg_sl ([.ref h0, .ref g0])).length) Slot.unset).toArray = ls at hl ⊢
  have hl : lv_has ls 3 [(0, .ref h0), (1, .ref g0)] := hl
  refine z_start hP hS (fun H hP hS => ?_)
  have hin2 : ∀ w ∈ wsX20, w ∈ wsX2_takeOver := by decide +kernel
  have hf13 : (Cond.fieldLink RX2 13 "SqueezedVolume$Row" "cells" "[I").before args s = true := hts _ (by decide +kernel)
  have L2 : ∀ (k : Nat) (j : Nat) (x2 : Int32) (f1 : zA), (j ≤ n) → (n + 1 ≤ j + k) → (x2 = nI j) → (f1 = r_tk n2 f f2 j) → ∀ (H : Heap) (locs : List Loc) (ls : Array Slot), va_P D vwCl [(h0, .inr (2, [.ref h1])), (h1, .inl (cI, n, .inl f1)), (g0, .inr (2, [.ref g1])), (g1, .inl (cI, n2, .inl f2))] H → va_D A [(h0, .inr (2, [.ref h1])), (h1, .inl (cI, n, .inl f1)), (g0, .inr (2, [.ref g1])), (g1, .inl (cI, n2, .inl f2))] → va_S A s.heap H locs → lv_has ls 3 [(0, .ref h0), (1, .ref g0), (2, .int x2)] → W p l e ({ frames := 1, cells := 0, slots := 0, locals := 21 }) s m ([.ref h0, .ref g0] : List Value).toArray below meth c H locs 0 0 (MQ below (z_Wo D none [(h0, .inr (2, [.ref h1])), (h1, .inl (cI, n, .inl (r_take n n2 f f2))), (g0, .inr (2, [.ref g1])), (g1, .inl (cI, n2, .inl f2))] A) ([.ref h0, .ref g0] : List Value).toArray s 0 0 A) (F0 m 2 ls []) := by
    intro k
    induction k with
    | zero =>
      intro j x2 f1 hj hk ex2 ef1
      exfalso; omega
    | succ k ih =>
      intro j x2 f1 hj hk ex2 ef1
      intro H locs ls hP hD hS hl
      refine lv_iload_n hx hb dX2_takeOver_2 rfl (lv_at hl 2 rfl) ?_
      refine lv_aload_n hx hb dX2_takeOver_3 rfl (lv_at hl 0 rfl) ?_
      refine va_get (D := D) (ci := 2) (v := .ref h1) (C := RX2) (T := TX2) (N := 1) hx hb hts hin2 hown hK hP 0 rfl rfl 0 (by decide) hf13 (fun _ h9 => h9) rfl dX2_takeOver_4 ?_
      refine va_alen (v := nI n) hx hb hK hP 1 0 rfl rfl rfl dX2_takeOver_7 ?_
      refine lv_icmp_ge (tgt := 28) hx hb dX2_takeOver_8 (by decide) (fun c_1 => ?_) (fun c_1 => ?_)
      · skip
        have e9_0 : f1 = r_take n n2 f f2 := by rw [ef1, z_jge hn hj ex2 c_1]; rfl
        have hPz : va_P D vwCl [(h0, .inr (2, [.ref h1])), (h1, .inl (cI, n, .inl (r_take n n2 f f2))), (g0, .inr (2, [.ref g1])), (g1, .inl (cI, n2, .inl f2))] H := by rw [← e9_0]; exact hP
        exact W.vret hx hb hr (fun t ht hW => ⟨⟨rfl, by rw [ht]; exact hPz⟩, hS.F ht⟩) hS.2.2 dX2_takeOver_28
      · skip
        refine lv_aload_n hx hb dX2_takeOver_11 rfl (lv_at hl 0 rfl) ?_
        refine va_get (D := D) (ci := 2) (v := .ref h1) (C := RX2) (T := TX2) (N := 1) hx hb hts hin2 hown hK hP 0 rfl rfl 0 (by decide) hf13 (fun _ h9 => h9) rfl dX2_takeOver_12 ?_
        refine lv_iload_n hx hb dX2_takeOver_15 rfl (lv_at hl 2 rfl) ?_
        refine lv_aload_n hx hb dX2_takeOver_16 rfl (lv_at hl 1 rfl) ?_
        refine lv_iload_n hx hb dX2_takeOver_17 rfl (lv_at hl 2 rfl) ?_
        refine z_callRi (va_runV (As := [.int x2]) (rest := [.int x2, .ref h1]) ⟨hx, hb, hml, hown, hts⟩ (c_X2_at l D cI g0 g1 n2 f2 x2 hn2) (cwV 1 hts gX2_takeOver_X2_at rfl rfl rfl qd_X2_at ⟨Nat.le_of_ble_eq_true rfl, Nat.le_of_ble_eq_true rfl⟩) ⟨z_Pr_blind, va_recv hK hP (ci := 2) (q0 := 2) rfl rfl, fun U hU hW => ⟨rfl, by rw [hU]; exact hP.sub (ws' := [(g0, .inr (2, [.ref g1])), (g1, .inl (cI, n2, .inl f2))]) [2, 3] rfl, va_K.moved hW.alike hK⟩⟩ rfl rfl hl.1 rfl (lv_room (Nat.le_of_ble_eq_true rfl)) dX2_takeOver_18 ⟨Nat.le_of_ble_eq_true rfl, Nat.le_of_ble_eq_true rfl⟩) ?_
        refine va_iast hx hb hK hP hD hS 1 0 rfl rfl (by rw [ex2]; exact vp_in_nI (z_jlt hn ex2 c_1) hn) dX2_takeOver_21 (fun H locs hP hD hS => ?_)
        have hP : va_P D vwCl [(h0, .inr (2, [.ref h1])), (h1, .inl (cI, n, .inl (upd f1 x2.toNatClampNeg (r_at n2 f2 x2)))), (g0, .inr (2, [.ref g1])), (g1, .inl (cI, n2, .inl f2))] H := hP
        have hD : va_D A [(h0, .inr (2, [.ref h1])), (h1, .inl (cI, n, .inl (upd f1 x2.toNatClampNeg (r_at n2 f2 x2)))), (g0, .inr (2, [.ref g1])), (g1, .inl (cI, n2, .inl f2))] := hD
        refine lv_iinc (v := x2 + 1) (lv' := [(2, .int (x2 + 1)), (0, .ref h0), (1, .ref g0)]) hx hb dX2_takeOver_22 hl (k := 2) rfl (by rfl) (by decide) rfl (fun ls hl => ?_)
        refine lv_goto (tgt := 2) hx hb dX2_takeOver_25 (by decide) ?_
        exact ih (j + 1) (x2 + 1) (upd f1 x2.toNatClampNeg (r_at n2 f2 x2)) (z_jlt hn ex2 c_1) (by omega) (by rw [ex2, nI_succ]) (by rw [ef1]; exact r_tk_s ex2 (Nat.lt_of_le_of_lt hj hn)) H locs ls hP hD hS (lv_sub hl [1, 2, 0] rfl)
  refine lv_iconst (v := 0) hx hb dX2_takeOver_0 (by decide) ?_
  refine lv_istore_n (lv' := [(2, .int 0), (0, .ref h0), (1, .ref g0)]) hx hb dX2_takeOver_1 rfl hl (by decide) rfl (fun ls hl => ?_)
  exact L2 (n + 1) 0 0 f (Nat.zero_le _) (by omega) nI_0.symm (r_tk_0 _ _ _).symm H locs ls hP hD hS (lv_sub hl [1, 2, 0] rfl)
end
section
theorem z_b0 {b : Bool} (h : zb b = 0) : b = false := by cases b <;> simp_all [zb]
theorem z_b1 {b : Bool} (h : ¬ zb b = 0) : b = true := by cases b <;> simp_all [zb]
theorem z_b1f {b : Bool} (h : ¬ zb b = 0) : ¬ b = false := by cases b <;> simp_all [zb]
theorem qd_X1_isUp : yX1_isUp.cls = RX1 ∧ yX1_isUp.cls ≠ "java/lang/invoke/MethodHandle" ∧ yX1_isUp.cls ≠ "java/lang/invoke/VarHandle" ∧ (parseMethodDescriptor yX1_isUp.desc).map (fun d => d.parameters.length) = some 0 := by decide +kernel
set_option maxHeartbeats 4000000 in
set_option maxRecDepth 100000 in
/-- Power.isUp -/
theorem c_X1_isUp (l : Launch) (D : va_G) (cI : ClassId) (h0 : Nat) (up : Bool) (left : Int32) (cnt : Int32) : Met l yX1_isUp wsX1_isUp ({ frames := 0, cells := 0, slots := 0, locals := 0 }) (z_Pr D cI [.ref h0] [(h0, .inr (1, [.int (zb up), .int left, .int cnt]))]) (z_Ro (some (.int (zb up)))) 0 0 (fun _ => False) := by
  refine Met.ofW (cc := cX1_isUp) (maxL := 1) (ret := (some .boolean)) (by decide) rfl ?_
  intro p e s m args below meth c s₁ B hml hv
  obtain ⟨rfl, hP, hK⟩ := hv
  have hx := B.exec
  have hb := B.bytes
  have hr := B.returns
  have hts := atoms_spec (ws := wsX1_isUp) B.pre
  have hown : s.vm.findClass RX1 = some m.cls := findClass_of_methodNamed B.named
  have hlocks := B.notSynchronized
  have hP : va_P D vwCl [(h0, .inr (1, [.int (zb up), .int left, .int cnt]))] s.heap := hP
  have hl := lv_entry ([.ref h0]) (n := 1) (Nat.le_of_ble_eq_true rfl)
  rw [lg_entry_eq]
  generalize (lg_sl ([.ref h0]) ++ List.replicate (1 - (lg_sl ([.ref h0])).length) Slot.unset).toArray = ls at hl ⊢
  have hl : lv_has ls 1 [(0, .ref h0)] := hl
  have hin1 : ∀ w ∈ wsX10, w ∈ wsX1_isUp := by decide +kernel
  have hf9 : (Cond.fieldLink RX1 9 "SqueezedVolume$Power" "up" "Z").before args s = true := hts _ (by decide +kernel)
  refine lv_aload_n hx hb dX1_isUp_0 rfl (lv_at hl 0 rfl) ?_
  refine va_get (D := D) (ci := 1) (v := .int (zb up)) (C := RX1) (T := TX1) (N := 3) hx hb hts hin1 hown hK hP 0 rfl rfl 0 (by decide) hf9 (fun _ h9 => h9) rfl dX1_isUp_1 ?_
  exact W.zret (v := zb up) (ty := .boolean) hx hb hr (z_nb _) (fun t ht hW => ⟨z_ret rfl, ht⟩) (fun _ h => nomatch h) dX1_isUp_4
theorem qd_X1_made : yX1_made.cls = RX1 ∧ yX1_made.cls ≠ "java/lang/invoke/MethodHandle" ∧ yX1_made.cls ≠ "java/lang/invoke/VarHandle" ∧ (parseMethodDescriptor yX1_made.desc).map (fun d => d.parameters.length) = some 0 := by decide +kernel
set_option maxHeartbeats 4000000 in
set_option maxRecDepth 100000 in
/-- Power.made -/
theorem c_X1_made (l : Launch) (D : va_G) (cI : ClassId) (h0 : Nat) (up : Bool) (left : Int32) (cnt : Int32) : Met l yX1_made wsX1_made ({ frames := 0, cells := 0, slots := 0, locals := 0 }) (z_Pr D cI [.ref h0] [(h0, .inr (1, [.int (zb up), .int left, .int cnt]))]) (z_Ro (some (.int cnt))) 0 0 (fun _ => False) := by
  refine Met.ofW (cc := cX1_made) (maxL := 1) (ret := (some .int)) (by decide) rfl ?_
  intro p e s m args below meth c s₁ B hml hv
  obtain ⟨rfl, hP, hK⟩ := hv
  have hx := B.exec
  have hb := B.bytes
  have hr := B.returns
  have hts := atoms_spec (ws := wsX1_made) B.pre
  have hown : s.vm.findClass RX1 = some m.cls := findClass_of_methodNamed B.named
  have hlocks := B.notSynchronized
  have hP : va_P D vwCl [(h0, .inr (1, [.int (zb up), .int left, .int cnt]))] s.heap := hP
  have hl := lv_entry ([.ref h0]) (n := 1) (Nat.le_of_ble_eq_true rfl)
  rw [lg_entry_eq]
  generalize (lg_sl ([.ref h0]) ++ List.replicate (1 - (lg_sl ([.ref h0])).length) Slot.unset).toArray = ls at hl ⊢
  have hl : lv_has ls 1 [(0, .ref h0)] := hl
  have hin1 : ∀ w ∈ wsX10, w ∈ wsX1_made := by decide +kernel
  have hf19 : (Cond.fieldLink RX1 19 "SqueezedVolume$Power" "count" "I").before args s = true := hts _ (by decide +kernel)
  refine lv_aload_n hx hb dX1_made_0 rfl (lv_at hl 0 rfl) ?_
  refine va_get (D := D) (ci := 1) (v := .int cnt) (C := RX1) (T := TX1) (N := 3) hx hb hts hin1 hown hK hP 0 rfl rfl 2 (by decide) hf19 (fun _ h9 => h9) rfl dX1_made_1 ?_
  exact W.iret (v := cnt) hx hb hr (fun t ht hW => ⟨z_ret rfl, ht⟩) (fun _ h => nomatch h) dX1_made_4
theorem qd_X1_failAfter : yX1_failAfter.cls = RX1 ∧ yX1_failAfter.cls ≠ "java/lang/invoke/MethodHandle" ∧ yX1_failAfter.cls ≠ "java/lang/invoke/VarHandle" ∧ (parseMethodDescriptor yX1_failAfter.desc).map (fun d => d.parameters.length) = some 1 := by decide +kernel
set_option maxHeartbeats 4000000 in
set_option maxRecDepth 100000 in
/-- Power.failAfter -/
theorem c_X1_failAfter (l : Launch) (D : va_G) (cI : ClassId) (h0 : Nat) (up : Bool) (left : Int32) (cnt : Int32) (p0 : Int32) (sz : Nat) : Met l yX1_failAfter wsX1_failAfter ({ frames := 0, cells := 0, slots := 0, locals := 0 }) (z_Pw D cI [.ref h0, .int p0] [(h0, .inr (1, [.int (zb up), .int left, .int cnt]))] sz) (z_Wo D none [(h0, .inr (1, [.int (zb up), .int p0, .int cnt]))] (va_A [(h0, .inr (1, [.int (zb up), .int left, .int cnt]))] sz)) 0 0 (va_A [(h0, .inr (1, [.int (zb up), .int left, .int cnt]))] sz) := by
  refine Met.ofW (cc := cX1_failAfter) (maxL := 2) (ret := none) (by decide) rfl ?_
  intro p e s m args below meth c s₁ B hml hv
  obtain ⟨rfl, hsz, hP, hK, hD0⟩ := hv
  have hx := B.exec
  have hb := B.bytes
  have hr := B.returns
  have hts := atoms_spec (ws := wsX1_failAfter) B.pre
  have hown : s.vm.findClass RX1 = some m.cls := findClass_of_methodNamed B.named
  have hlocks := B.notSynchronized
  subst hsz
  have hD := hD0.self (sz := s.heap.size)
  generalize hAe : va_A [(h0, .inr (1, [.int (zb up), .int left, .int cnt]))] s.heap.size = A at hD ⊢
  have hA : ∀ q : Nat, s.heap.size ≤ q → A q := fun q h => by rw [← hAe]; exact Or.inr h
  have hS : va_S A s.heap s.heap [] := va_S.rf
  have hP : va_P D vwCl [(h0, .inr (1, [.int (zb up), .int left, .int cnt]))] s.heap := hP
  have hl := lv_entry ([.ref h0, .int p0]) (n := 2) (Nat.le_of_ble_eq_true rfl)
  rw [lg_entry_eq]
  generalize (lg_sl ([.ref h0, .int p0]) ++ List.replicate (2 - (lg_sl ([.ref h0, .int p0])).length) Slot.unset).toArray = ls at hl ⊢
  have hl : lv_has ls 2 [(0, .ref h0), (1, .int p0)] := hl
  refine z_start hP hS (fun H hP hS => ?_)
  have hin1 : ∀ w ∈ wsX10, w ∈ wsX1_failAfter := by decide +kernel
  have hf15 : (Cond.fieldLink RX1 15 "SqueezedVolume$Power" "left" "I").before args s = true := hts _ (by decide +kernel)
  refine lv_aload_n hx hb dX1_failAfter_0 rfl (lv_at hl 0 rfl) ?_
  refine lv_iload_n hx hb dX1_failAfter_1 rfl (lv_at hl 1 rfl) ?_
  refine va_put (D := D) (ci := 1) (v := .int p0) (ty := .int) (C := RX1) (T := TX1) (N := 3) hx hb hts hin1 tyX1 tyX1_ok nmX1 hown hK hP hD hS 0 rfl rfl 1 (by decide) hf15 (fun _ h9 => h9) rfl (by decide +kernel) rfl rfl (Nat.le_of_ble_eq_true rfl) dX1_failAfter_2 (fun H locs hP hD hS => ?_)
  have hP : va_P D vwCl [(h0, .inr (1, [.int (zb up), .int p0, .int cnt]))] H := hP
  have hD : va_D A [(h0, .inr (1, [.int (zb up), .int p0, .int cnt]))] := hD
  have hPz : va_P D vwCl [(h0, .inr (1, [.int (zb up), .int p0, .int cnt]))] H := hP
  exact W.vret hx hb hr (fun t ht hW => ⟨⟨rfl, by rw [ht]; exact hPz⟩, hS.F ht⟩) hS.2.2 dX1_failAfter_5
theorem qd_X1_comeAgain : yX1_comeAgain.cls = RX1 ∧ yX1_comeAgain.cls ≠ "java/lang/invoke/MethodHandle" ∧ yX1_comeAgain.cls ≠ "java/lang/invoke/VarHandle" ∧ (parseMethodDescriptor yX1_comeAgain.desc).map (fun d => d.parameters.length) = some 0 := by decide +kernel
set_option maxHeartbeats 4000000 in
set_option maxRecDepth 100000 in
/-- Power.comeAgain -/
theorem c_X1_comeAgain (l : Launch) (D : va_G) (cI : ClassId) (h0 : Nat) (up : Bool) (left : Int32) (cnt : Int32) (sz : Nat) : Met l yX1_comeAgain wsX1_comeAgain ({ frames := 0, cells := 0, slots := 0, locals := 0 }) (z_Pw D cI [.ref h0] [(h0, .inr (1, [.int (zb up), .int left, .int cnt]))] sz) (z_Wo D none [(h0, .inr (1, [.int (zb true), .int (-1), .int cnt]))] (va_A [(h0, .inr (1, [.int (zb up), .int left, .int cnt]))] sz)) 0 0 (va_A [(h0, .inr (1, [.int (zb up), .int left, .int cnt]))] sz) := by
  refine Met.ofW (cc := cX1_comeAgain) (maxL := 1) (ret := none) (by decide) rfl ?_
  intro p e s m args below meth c s₁ B hml hv
  obtain ⟨rfl, hsz, hP, hK, hD0⟩ := hv
  have hx := B.exec
  have hb := B.bytes
  have hr := B.returns
  have hts := atoms_spec (ws := wsX1_comeAgain) B.pre
  have hown : s.vm.findClass RX1 = some m.cls := findClass_of_methodNamed B.named
  have hlocks := B.notSynchronized
  subst hsz
  have hD := hD0.self (sz := s.heap.size)
  generalize hAe : va_A [(h0, .inr (1, [.int (zb up), .int left, .int cnt]))] s.heap.size = A at hD ⊢
  have hA : ∀ q : Nat, s.heap.size ≤ q → A q := fun q h => by rw [← hAe]; exact Or.inr h
  have hS : va_S A s.heap s.heap [] := va_S.rf
  have hP : va_P D vwCl [(h0, .inr (1, [.int (zb up), .int left, .int cnt]))] s.heap := hP
  have hl := lv_entry ([.ref h0]) (n := 1) (Nat.le_of_ble_eq_true rfl)
  rw [lg_entry_eq]
  generalize (lg_sl ([.ref h0]) ++ List.replicate (1 - (lg_sl ([.ref h0])).length) Slot.unset).toArray = ls at hl ⊢
  have hl : lv_has ls 1 [(0, .ref h0)] := hl
  refine z_start hP hS (fun H hP hS => ?_)
  have hin1 : ∀ w ∈ wsX10, w ∈ wsX1_comeAgain := by decide +kernel
  have hf9 : (Cond.fieldLink RX1 9 "SqueezedVolume$Power" "up" "Z").before args s = true := hts _ (by decide +kernel)
  have hf15 : (Cond.fieldLink RX1 15 "SqueezedVolume$Power" "left" "I").before args s = true := hts _ (by decide +kernel)
  refine lv_aload_n hx hb dX1_comeAgain_0 rfl (lv_at hl 0 rfl) ?_
  refine lv_iconst (v := 1) hx hb dX1_comeAgain_1 (by decide) ?_
  refine va_put (D := D) (ci := 1) (v := .int (zb true)) (ty := .boolean) (C := RX1) (T := TX1) (N := 3) hx hb hts hin1 tyX1 tyX1_ok nmX1 hown hK hP hD hS 0 rfl rfl 0 (by decide) hf9 (fun _ h9 => h9) rfl (by decide +kernel) (z_nb _) (z_fb _) (Nat.le_of_ble_eq_true rfl) dX1_comeAgain_2 (fun H locs hP hD hS => ?_)
  have hP : va_P D vwCl [(h0, .inr (1, [.int (zb true), .int left, .int cnt]))] H := hP
  have hD : va_D A [(h0, .inr (1, [.int (zb true), .int left, .int cnt]))] := hD
  refine lv_aload_n hx hb dX1_comeAgain_5 rfl (lv_at hl 0 rfl) ?_
  refine lv_iconst (v := -1) hx hb dX1_comeAgain_6 (by decide) ?_
  refine va_put (D := D) (ci := 1) (v := .int (-1)) (ty := .int) (C := RX1) (T := TX1) (N := 3) hx hb hts hin1 tyX1 tyX1_ok nmX1 hown hK hP hD hS 0 rfl rfl 1 (by decide) hf15 (fun _ h9 => h9) rfl (by decide +kernel) rfl rfl (Nat.le_of_ble_eq_true rfl) dX1_comeAgain_7 (fun H locs hP hD hS => ?_)
  have hP : va_P D vwCl [(h0, .inr (1, [.int (zb true), .int (-1), .int cnt]))] H := hP
  have hD : va_D A [(h0, .inr (1, [.int (zb true), .int (-1), .int cnt]))] := hD
  have hPz : va_P D vwCl [(h0, .inr (1, [.int (zb true), .int (-1), .int cnt]))] H := hP
  exact W.vret hx hb hr (fun t ht hW => ⟨⟨rfl, by rw [ht]; exact hPz⟩, hS.F ht⟩) hS.2.2 dX1_comeAgain_10
theorem qd_X1_countWrite : yX1_countWrite.cls = RX1 ∧ yX1_countWrite.cls ≠ "java/lang/invoke/MethodHandle" ∧ yX1_countWrite.cls ≠ "java/lang/invoke/VarHandle" ∧ (parseMethodDescriptor yX1_countWrite.desc).map (fun d => d.parameters.length) = some 0 := by decide +kernel
set_option maxHeartbeats 4000000 in
set_option maxRecDepth 100000 in
/-- Power.countWrite -/
theorem c_X1_countWrite (l : Launch) (D : va_G) (cI : ClassId) (h0 : Nat) (up : Bool) (left : Int32) (cnt : Int32) (sz : Nat) : Met l yX1_countWrite wsX1_countWrite ({ frames := 0, cells := 0, slots := 0, locals := 0 }) (z_Pw D cI [.ref h0] [(h0, .inr (1, [.int (zb up), .int left, .int cnt]))] sz) (z_Wo D (some (.int (zb (pw_write up left cnt).1))) [(h0, .inr (1, [.int (zb (pw_write up left cnt).2.1), .int ((pw_write up left cnt).2.2.1), .int ((pw_write up left cnt).2.2.2)]))] (va_A [(h0, .inr (1, [.int (zb up), .int left, .int cnt]))] sz)) 0 0 (va_A [(h0, .inr (1, [.int (zb up), .int left, .int cnt]))] sz) := by
  refine Met.ofW (cc := cX1_countWrite) (maxL := 1) (ret := (some .boolean)) (by decide) rfl ?_
  intro p e s m args below meth c s₁ B hml hv
  obtain ⟨rfl, hsz, hP, hK, hD0⟩ := hv
  have hx := B.exec
  have hb := B.bytes
  have hr := B.returns
  have hts := atoms_spec (ws := wsX1_countWrite) B.pre
  have hown : s.vm.findClass RX1 = some m.cls := findClass_of_methodNamed B.named
  have hlocks := B.notSynchronized
  subst hsz
  have hD := hD0.self (sz := s.heap.size)
  generalize hAe : va_A [(h0, .inr (1, [.int (zb up), .int left, .int cnt]))] s.heap.size = A at hD ⊢
  have hA : ∀ q : Nat, s.heap.size ≤ q → A q := fun q h => by rw [← hAe]; exact Or.inr h
  have hS : va_S A s.heap s.heap [] := va_S.rf
  have hP : va_P D vwCl [(h0, .inr (1, [.int (zb up), .int left, .int cnt]))] s.heap := hP
  have hl := lv_entry ([.ref h0]) (n := 1) (Nat.le_of_ble_eq_true rfl)
  rw [lg_entry_eq]
  generalize (lg_sl ([.ref h0]) ++ List.replicate (1 - (lg_sl ([.ref h0])).length) Slot.unset).toArray = ls at hl ⊢
  have hl : lv_has ls 1 [(0, .ref h0)] := hl
  refine z_start hP hS (fun H hP hS => ?_)
  have hin1 : ∀ w ∈ wsX10, w ∈ wsX1_countWrite := by decide +kernel
  have hf15 : (Cond.fieldLink RX1 15 "SqueezedVolume$Power" "left" "I").before args s = true := hts _ (by decide +kernel)
  have hf9 : (Cond.fieldLink RX1 9 "SqueezedVolume$Power" "up" "Z").before args s = true := hts _ (by decide +kernel)
  have hf19 : (Cond.fieldLink RX1 19 "SqueezedVolume$Power" "count" "I").before args s = true := hts _ (by decide +kernel)
  refine lv_aload_n hx hb dX1_countWrite_0 rfl (lv_at hl 0 rfl) ?_
  refine va_get (D := D) (ci := 1) (v := .int left) (C := RX1) (T := TX1) (N := 3) hx hb hts hin1 hown hK hP 0 rfl rfl 1 (by decide) hf15 (fun _ h9 => h9) rfl dX1_countWrite_1 ?_
  refine lv_if_ne (tgt := 12) hx hb dX1_countWrite_4 (by decide) (fun c_1 => ?_) (fun c_1 => ?_)
  · skip
    refine lv_aload_n hx hb dX1_countWrite_12 rfl (lv_at hl 0 rfl) ?_
    refine va_get (D := D) (ci := 1) (v := .int (zb up)) (C := RX1) (T := TX1) (N := 3) hx hb hts hin1 hown hK hP 0 rfl rfl 0 (by decide) hf9 (fun _ h9 => h9) rfl dX1_countWrite_13 ?_
    refine lv_if_ne (tgt := 21) hx hb dX1_countWrite_16 (by decide) (fun c_2 => ?_) (fun c_2 => ?_)
    · skip
      refine lv_aload_n hx hb dX1_countWrite_21 rfl (lv_at hl 0 rfl) ?_
      refine va_get (D := D) (ci := 1) (v := .int left) (C := RX1) (T := TX1) (N := 3) hx hb hts hin1 hown hK hP 0 rfl rfl 1 (by decide) hf15 (fun _ h9 => h9) rfl dX1_countWrite_22 ?_
      refine lv_if_le (tgt := 38) hx hb dX1_countWrite_25 (by decide) (fun c_3 => ?_) (fun c_3 => ?_)
      · skip
        refine lv_aload_n hx hb dX1_countWrite_38 rfl (lv_at hl 0 rfl) ?_
        refine lv_dup hx hb dX1_countWrite_39 rfl ?_
        refine va_get (D := D) (ci := 1) (v := .int cnt) (C := RX1) (T := TX1) (N := 3) hx hb hts hin1 hown hK hP 0 rfl rfl 2 (by decide) hf19 (fun _ h9 => h9) rfl dX1_countWrite_40 ?_
        refine lv_iconst (v := 1) hx hb dX1_countWrite_43 (by decide) ?_
        refine lv_iadd hx hb dX1_countWrite_44 ?_
        refine va_put (D := D) (ci := 1) (v := .int (cnt + 1)) (ty := .int) (C := RX1) (T := TX1) (N := 3) hx hb hts hin1 tyX1 tyX1_ok nmX1 hown hK hP hD hS 0 rfl rfl 2 (by decide) hf19 (fun _ h9 => h9) rfl (by decide +kernel) rfl rfl (Nat.le_of_ble_eq_true rfl) dX1_countWrite_45 (fun H locs hP hD hS => ?_)
        have hP : va_P D vwCl [(h0, .inr (1, [.int (zb up), .int left, .int (cnt + 1)]))] H := hP
        have hD : va_D A [(h0, .inr (1, [.int (zb up), .int left, .int (cnt + 1)]))] := hD
        refine lv_iconst (v := 1) hx hb dX1_countWrite_48 (by decide) ?_
        have e9_0 : zb up = zb (pw_write up left cnt).2.1 := by simp only [pw_write, if_neg c_1, if_neg (z_b1f c_2), if_pos c_3]
        have e9_1 : left = (pw_write up left cnt).2.2.1 := by simp only [pw_write, if_neg c_1, if_neg (z_b1f c_2), if_pos c_3]
        have e9_2 : cnt + 1 = (pw_write up left cnt).2.2.2 := by simp only [pw_write, if_neg c_1, if_neg (z_b1f c_2), if_pos c_3]
        have hPz : va_P D vwCl [(h0, .inr (1, [.int (zb (pw_write up left cnt).2.1), .int ((pw_write up left cnt).2.2.1), .int ((pw_write up left cnt).2.2.2)]))] H := by rw [← e9_0, ← e9_1, ← e9_2]; exact hP
        exact W.zret (v := 1) (ty := .boolean) hx hb hr rfl (fun t ht hW => ⟨⟨z_ret (by simp only [pw_write, if_neg c_1, if_neg (z_b1f c_2), if_pos c_3]), by rw [ht]; exact hPz⟩, hS.F ht⟩) hS.2.2 dX1_countWrite_49
      · skip
        refine lv_aload_n hx hb dX1_countWrite_28 rfl (lv_at hl 0 rfl) ?_
        refine lv_dup hx hb dX1_countWrite_29 rfl ?_
        refine va_get (D := D) (ci := 1) (v := .int left) (C := RX1) (T := TX1) (N := 3) hx hb hts hin1 hown hK hP 0 rfl rfl 1 (by decide) hf15 (fun _ h9 => h9) rfl dX1_countWrite_30 ?_
        refine lv_iconst (v := 1) hx hb dX1_countWrite_33 (by decide) ?_
        refine lv_isub hx hb dX1_countWrite_34 ?_
        refine va_put (D := D) (ci := 1) (v := .int (left - 1)) (ty := .int) (C := RX1) (T := TX1) (N := 3) hx hb hts hin1 tyX1 tyX1_ok nmX1 hown hK hP hD hS 0 rfl rfl 1 (by decide) hf15 (fun _ h9 => h9) rfl (by decide +kernel) rfl rfl (Nat.le_of_ble_eq_true rfl) dX1_countWrite_35 (fun H locs hP hD hS => ?_)
        have hP : va_P D vwCl [(h0, .inr (1, [.int (zb up), .int (left - 1), .int cnt]))] H := hP
        have hD : va_D A [(h0, .inr (1, [.int (zb up), .int (left - 1), .int cnt]))] := hD
        refine lv_aload_n hx hb dX1_countWrite_38 rfl (lv_at hl 0 rfl) ?_
        refine lv_dup hx hb dX1_countWrite_39 rfl ?_
        refine va_get (D := D) (ci := 1) (v := .int cnt) (C := RX1) (T := TX1) (N := 3) hx hb hts hin1 hown hK hP 0 rfl rfl 2 (by decide) hf19 (fun _ h9 => h9) rfl dX1_countWrite_40 ?_
        refine lv_iconst (v := 1) hx hb dX1_countWrite_43 (by decide) ?_
        refine lv_iadd hx hb dX1_countWrite_44 ?_
        refine va_put (D := D) (ci := 1) (v := .int (cnt + 1)) (ty := .int) (C := RX1) (T := TX1) (N := 3) hx hb hts hin1 tyX1 tyX1_ok nmX1 hown hK hP hD hS 0 rfl rfl 2 (by decide) hf19 (fun _ h9 => h9) rfl (by decide +kernel) rfl rfl (Nat.le_of_ble_eq_true rfl) dX1_countWrite_45 (fun H locs hP hD hS => ?_)
        have hP : va_P D vwCl [(h0, .inr (1, [.int (zb up), .int (left - 1), .int (cnt + 1)]))] H := hP
        have hD : va_D A [(h0, .inr (1, [.int (zb up), .int (left - 1), .int (cnt + 1)]))] := hD
        refine lv_iconst (v := 1) hx hb dX1_countWrite_48 (by decide) ?_
        have e9_0 : zb up = zb (pw_write up left cnt).2.1 := by simp only [pw_write, if_neg c_1, if_neg (z_b1f c_2), if_neg c_3]
        have e9_1 : left - 1 = (pw_write up left cnt).2.2.1 := by simp only [pw_write, if_neg c_1, if_neg (z_b1f c_2), if_neg c_3]
        have e9_2 : cnt + 1 = (pw_write up left cnt).2.2.2 := by simp only [pw_write, if_neg c_1, if_neg (z_b1f c_2), if_neg c_3]
        have hPz : va_P D vwCl [(h0, .inr (1, [.int (zb (pw_write up left cnt).2.1), .int ((pw_write up left cnt).2.2.1), .int ((pw_write up left cnt).2.2.2)]))] H := by rw [← e9_0, ← e9_1, ← e9_2]; exact hP
        exact W.zret (v := 1) (ty := .boolean) hx hb hr rfl (fun t ht hW => ⟨⟨z_ret (by simp only [pw_write, if_neg c_1, if_neg (z_b1f c_2), if_neg c_3]), by rw [ht]; exact hPz⟩, hS.F ht⟩) hS.2.2 dX1_countWrite_49
    · skip
      refine lv_iconst (v := 0) hx hb dX1_countWrite_19 (by decide) ?_
      have e9_0 : zb up = zb (pw_write up left cnt).2.1 := by simp only [pw_write, if_neg c_1, if_pos (z_b0 c_2)]
      have e9_1 : left = (pw_write up left cnt).2.2.1 := by simp only [pw_write, if_neg c_1, if_pos (z_b0 c_2)]
      have e9_2 : cnt = (pw_write up left cnt).2.2.2 := by simp only [pw_write, if_neg c_1, if_pos (z_b0 c_2)]
      have hPz : va_P D vwCl [(h0, .inr (1, [.int (zb (pw_write up left cnt).2.1), .int ((pw_write up left cnt).2.2.1), .int ((pw_write up left cnt).2.2.2)]))] H := by rw [← e9_0, ← e9_1, ← e9_2]; exact hP
      exact W.zret (v := 0) (ty := .boolean) hx hb hr rfl (fun t ht hW => ⟨⟨z_ret (by simp only [pw_write, if_neg c_1, if_pos (z_b0 c_2)]), by rw [ht]; exact hPz⟩, hS.F ht⟩) hS.2.2 dX1_countWrite_20
  · skip
    refine lv_aload_n hx hb dX1_countWrite_7 rfl (lv_at hl 0 rfl) ?_
    refine lv_iconst (v := 0) hx hb dX1_countWrite_8 (by decide) ?_
    refine va_put (D := D) (ci := 1) (v := .int (zb false)) (ty := .boolean) (C := RX1) (T := TX1) (N := 3) hx hb hts hin1 tyX1 tyX1_ok nmX1 hown hK hP hD hS 0 rfl rfl 0 (by decide) hf9 (fun _ h9 => h9) rfl (by decide +kernel) (z_nb _) (z_fb _) (Nat.le_of_ble_eq_true rfl) dX1_countWrite_9 (fun H locs hP hD hS => ?_)
    have hP : va_P D vwCl [(h0, .inr (1, [.int (zb false), .int left, .int cnt]))] H := hP
    have hD : va_D A [(h0, .inr (1, [.int (zb false), .int left, .int cnt]))] := hD
    refine lv_aload_n hx hb dX1_countWrite_12 rfl (lv_at hl 0 rfl) ?_
    refine va_get (D := D) (ci := 1) (v := .int (zb false)) (C := RX1) (T := TX1) (N := 3) hx hb hts hin1 hown hK hP 0 rfl rfl 0 (by decide) hf9 (fun _ h9 => h9) rfl dX1_countWrite_13 ?_
    refine lv_if_ne (tgt := 21) hx hb dX1_countWrite_16 (by decide) (fun c_4 => ?_) (fun c_4 => ?_)
    · skip
      exact absurd (by decide) c_4
    · skip
      refine lv_iconst (v := 0) hx hb dX1_countWrite_19 (by decide) ?_
      have e9_0 : zb false = zb (pw_write up left cnt).2.1 := by simp only [pw_write, if_pos c_1]
      have e9_1 : left = (pw_write up left cnt).2.2.1 := by simp only [pw_write, if_pos c_1]
      have e9_2 : cnt = (pw_write up left cnt).2.2.2 := by simp only [pw_write, if_pos c_1]
      have hPz : va_P D vwCl [(h0, .inr (1, [.int (zb (pw_write up left cnt).2.1), .int ((pw_write up left cnt).2.2.1), .int ((pw_write up left cnt).2.2.2)]))] H := by rw [← e9_0, ← e9_1, ← e9_2]; exact hP
      exact W.zret (v := 0) (ty := .boolean) hx hb hr rfl (fun t ht hW => ⟨⟨z_ret (by simp only [pw_write, if_pos c_1]), by rw [ht]; exact hPz⟩, hS.F ht⟩) hS.2.2 dX1_countWrite_20
end

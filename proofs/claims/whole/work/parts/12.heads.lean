/-! the heads of the methods among the words: by program (wip/whole/asm.py) -/
def gHd (M : gM) : Cond := match mH M with
  | [] => .code (mN M) (mB M) (mL M) (mR M)
  | hh => .codeWith (mN M) (mB M) (mL M) (mR M) hh
set_option maxRecDepth 20000 in
theorem gH0 : gHd m_ET_init ∈ gT := gT_of (List.mem_append_right _ (List.mem_of_getElem? (i := 19) rfl)) rfl
set_option maxRecDepth 20000 in
theorem gH1 : gHd m_ET_put ∈ gT := gT_of (List.mem_append_right _ (List.mem_of_getElem? (i := 150) rfl)) rfl
set_option maxRecDepth 20000 in
theorem gH2 : gHd m_ET_spread ∈ gT := gT_of (List.mem_append_right _ (List.mem_of_getElem? (i := 442) rfl)) rfl
set_option maxRecDepth 20000 in
theorem gH3 : gHd m_ET_punch ∈ gT := gT_of (List.mem_append_right _ (List.mem_of_getElem? (i := 453) rfl)) rfl
set_option maxRecDepth 20000 in
theorem gH4 : gHd m_ET_strip ∈ gT := gT_of (List.mem_append_right _ (List.mem_of_getElem? (i := 476) rfl)) rfl
set_option maxRecDepth 20000 in
theorem gH5 : gHd m_ET_write ∈ gT := gT_of (List.mem_append_right _ (List.mem_of_getElem? (i := 484) rfl)) rfl
set_option maxRecDepth 20000 in
theorem gH6 : gHd m_ET_look ∈ gT := gT_of (List.mem_append_right _ (List.mem_of_getElem? (i := 504) rfl)) rfl
set_option maxRecDepth 20000 in
theorem gH7 : gHd m_ET_written ∈ gT := gT_of (List.mem_append_right _ (List.mem_of_getElem? (i := 512) rfl)) rfl
set_option maxRecDepth 20000 in
theorem gH8 : gHd m_ET_reach ∈ gT := gT_of (List.mem_append_right _ (List.mem_of_getElem? (i := 523) rfl)) rfl
set_option maxRecDepth 20000 in
theorem gH9 : gHd m_ET_count ∈ gT := gT_of (List.mem_append_right _ (List.mem_of_getElem? (i := 534) rfl)) rfl
set_option maxRecDepth 20000 in
theorem gH10 : gHd m_ET_free ∈ gT := gT_of (List.mem_append_right _ (List.mem_of_getElem? (i := 137) rfl)) rfl
set_option maxRecDepth 20000 in
theorem gH11 : gHd m_ET_rootByte ∈ gT := gT_of (List.mem_append_right _ (List.mem_of_getElem? (i := 547) rfl)) rfl
set_option maxRecDepth 20000 in
theorem gH12 : gHd m_ET_nodeByte ∈ gT := gT_of (List.mem_append_right _ (List.mem_of_getElem? (i := 580) rfl)) rfl
set_option maxRecDepth 20000 in
theorem gH13 : gHd m_ET_isFile ∈ gT := gT_of (List.mem_append_right _ (List.mem_of_getElem? (i := 153) rfl)) rfl
set_option maxRecDepth 20000 in
theorem gH14 : gHd m_ET_areFileBlocks ∈ gT := gT_of (List.mem_append_right _ (List.mem_of_getElem? (i := 156) rfl)) rfl
set_option maxRecDepth 20000 in
theorem gH15 : gHd m_ET_areVolumeBlocks ∈ gT := gT_of (List.mem_append_right _ (List.mem_of_getElem? (i := 164) rfl)) rfl
set_option maxRecDepth 20000 in
theorem gH16 : gHd m_ET_isSeries ∈ gT := gT_of (List.mem_append_right _ (List.mem_of_getElem? (i := 445) rfl)) rfl
set_option maxRecDepth 20000 in
theorem gH17 : gHd m_ET_longest ∈ gT := gT_of (List.mem_append_right _ (List.mem_of_getElem? (i := 160) rfl)) rfl
set_option maxRecDepth 20000 in
theorem gH18 : gHd m_Mod_init ∈ gT := gT_of (List.mem_append_right _ (List.mem_of_getElem? (i := 592) rfl)) rfl
set_option maxRecDepth 20000 in
theorem gH19 : gHd m_Mod_thrown ∈ gT := gT_of (List.mem_append_right _ (List.mem_of_getElem? (i := 647) rfl)) rfl
set_option maxRecDepth 20000 in
theorem gH20 : gHd m_Mod_takeBlock ∈ gT := gT_of (List.mem_append_right _ (List.mem_of_getElem? (i := 728) rfl)) rfl
set_option maxRecDepth 20000 in
theorem gH21 : gHd m_Mod_free ∈ gT := gT_of (List.mem_append_right _ (List.mem_of_getElem? (i := 651) rfl)) rfl
set_option maxRecDepth 20000 in
theorem gH22 : gHd m_Mod_freeBlocks ∈ gT := gT_of (List.mem_append_right _ (List.mem_of_getElem? (i := 655) rfl)) rfl
set_option maxRecDepth 20000 in
theorem gH23 : gHd m_Mod_levelOf ∈ gT := gT_of (List.mem_append_right _ (List.mem_of_getElem? (i := 703) rfl)) rfl
set_option maxRecDepth 20000 in
theorem gH24 : gHd m_Mod_levelEnd ∈ gT := gT_of (List.mem_append_right _ (List.mem_of_getElem? (i := 711) rfl)) rfl
set_option maxRecDepth 20000 in
theorem gH25 : gHd m_Mod_insertNode ∈ gT := gT_of (List.mem_append_right _ (List.mem_of_getElem? (i := 732) rfl)) rfl
set_option maxRecDepth 20000 in
theorem gH26 : gHd m_Mod_removeNode ∈ gT := gT_of (List.mem_append_right _ (List.mem_of_getElem? (i := 707) rfl)) rfl
set_option maxRecDepth 20000 in
theorem gH27 : gHd m_Mod_findWay ∈ gT := gT_of (List.mem_append_right _ (List.mem_of_getElem? (i := 699) rfl)) rfl
set_option maxRecDepth 20000 in
theorem gH28 : gHd m_Mod_enter ∈ gT := gT_of (List.mem_append_right _ (List.mem_of_getElem? (i := 724) rfl)) rfl
set_option maxRecDepth 20000 in
theorem gH29 : gHd m_Mod_leave ∈ gT := gT_of (List.mem_append_right _ (List.mem_of_getElem? (i := 695) rfl)) rfl
set_option maxRecDepth 20000 in
theorem gH30 : gHd m_Mod_shrink ∈ gT := gT_of (List.mem_append_right _ (List.mem_of_getElem? (i := 740) rfl)) rfl
set_option maxRecDepth 20000 in
theorem gH31 : gHd m_Mod_runs ∈ gT := gT_of (List.mem_append_right _ (List.mem_of_getElem? (i := 744) rfl)) rfl
set_option maxRecDepth 20000 in
theorem gH32 : gHd m_Mod_insertRun ∈ gT := gT_of (List.mem_append_right _ (List.mem_of_getElem? (i := 736) rfl)) rfl
set_option maxRecDepth 20000 in
theorem gH33 : gHd m_Mod_removeRun ∈ gT := gT_of (List.mem_append_right _ (List.mem_of_getElem? (i := 715) rfl)) rfl
set_option maxRecDepth 20000 in
theorem gH34 : gHd m_Mod_shift ∈ gT := gT_of (List.mem_append_right _ (List.mem_of_getElem? (i := 719) rfl)) rfl
set_option maxRecDepth 20000 in
theorem gH35 : gHd m_Mod_behind ∈ gT := gT_of (List.mem_append_right _ (List.mem_of_getElem? (i := 679) rfl)) rfl
set_option maxRecDepth 20000 in
theorem gH36 : gHd m_Mod_joins ∈ gT := gT_of (List.mem_append_right _ (List.mem_of_getElem? (i := 691) rfl)) rfl
set_option maxRecDepth 20000 in
theorem gH37 : gHd m_Mod_enterRun ∈ gT := gT_of (List.mem_append_right _ (List.mem_of_getElem? (i := 687) rfl)) rfl
set_option maxRecDepth 20000 in
theorem gH38 : gHd m_Mod_takeOut ∈ gT := gT_of (List.mem_append_right _ (List.mem_of_getElem? (i := 760) rfl)) rfl
set_option maxRecDepth 20000 in
theorem gH39 : gHd m_Mod_noRange ∈ gT := gT_of (List.mem_append_right _ (List.mem_of_getElem? (i := 664) rfl)) rfl
set_option maxRecDepth 20000 in
theorem gH40 : gHd m_Mod_isTight ∈ gT := gT_of (List.mem_append_right _ (List.mem_of_getElem? (i := 683) rfl)) rfl
set_option maxRecDepth 20000 in
theorem gH41 : gHd m_Mod_noVolume ∈ gT := gT_of (List.mem_append_right _ (List.mem_of_getElem? (i := 670) rfl)) rfl
set_option maxRecDepth 20000 in
theorem gH42 : gHd m_Mod_tryPut ∈ gT := gT_of (List.mem_append_right _ (List.mem_of_getElem? (i := 675) rfl)) rfl
set_option maxRecDepth 20000 in
theorem gH43 : gHd m_Mod_put ∈ gT := gT_of (List.mem_append_right _ (List.mem_of_getElem? (i := 659) rfl)) rfl
set_option maxRecDepth 20000 in
theorem gH44 : gHd m_Mod_noSteps ∈ gT := gT_of (List.mem_append_right _ (List.mem_of_getElem? (i := 752) rfl)) rfl
set_option maxRecDepth 20000 in
theorem gH45 : gHd m_Mod_spread ∈ gT := gT_of (List.mem_append_right _ (List.mem_of_getElem? (i := 748) rfl)) rfl
set_option maxRecDepth 20000 in
theorem gH46 : gHd m_Mod_punch ∈ gT := gT_of (List.mem_append_right _ (List.mem_of_getElem? (i := 756) rfl)) rfl
set_option maxRecDepth 20000 in
theorem gH47 : gHd m_Mod_strip ∈ gT := gT_of (List.mem_append_right _ (List.mem_of_getElem? (i := 764) rfl)) rfl
set_option maxRecDepth 20000 in
theorem gH48 : gHd m_Mod_write ∈ gT := gT_of (List.mem_append_right _ (List.mem_of_getElem? (i := 768) rfl)) rfl
set_option maxRecDepth 20000 in
theorem gH49 : gHd m_Mod_noBlock ∈ gT := gT_of (List.mem_append_right _ (List.mem_of_getElem? (i := 776) rfl)) rfl
set_option maxRecDepth 20000 in
theorem gH50 : gHd m_Mod_look ∈ gT := gT_of (List.mem_append_right _ (List.mem_of_getElem? (i := 772) rfl)) rfl
set_option maxRecDepth 20000 in
theorem gH51 : gHd m_Mod_written ∈ gT := gT_of (List.mem_append_right _ (List.mem_of_getElem? (i := 780) rfl)) rfl
set_option maxRecDepth 20000 in
theorem gH52 : gHd m_Mod_reach ∈ gT := gT_of (List.mem_append_right _ (List.mem_of_getElem? (i := 784) rfl)) rfl
set_option maxRecDepth 20000 in
theorem gH53 : gHd m_Mod_count ∈ gT := gT_of (List.mem_append_right _ (List.mem_of_getElem? (i := 788) rfl)) rfl
set_option maxRecDepth 20000 in
theorem gH54 : gHd m_Mod_byteIn ∈ gT := gT_of (List.mem_append_right _ (List.mem_of_getElem? (i := 805) rfl)) rfl
set_option maxRecDepth 20000 in
theorem gH55 : gHd m_Mod_headByte ∈ gT := gT_of (List.mem_append_right _ (List.mem_of_getElem? (i := 800) rfl)) rfl
set_option maxRecDepth 20000 in
theorem gH56 : gHd m_Mod_firstRun ∈ gT := gT_of (List.mem_append_right _ (List.mem_of_getElem? (i := 817) rfl)) rfl
set_option maxRecDepth 20000 in
theorem gH57 : gHd m_Mod_runByte ∈ gT := gT_of (List.mem_append_right _ (List.mem_of_getElem? (i := 809) rfl)) rfl
set_option maxRecDepth 20000 in
theorem gH58 : gHd m_Mod_nodeEntryByte ∈ gT := gT_of (List.mem_append_right _ (List.mem_of_getElem? (i := 813) rfl)) rfl
set_option maxRecDepth 20000 in
theorem gH59 : gHd m_Mod_bytesOf ∈ gT := gT_of (List.mem_append_right _ (List.mem_of_getElem? (i := 796) rfl)) rfl
set_option maxRecDepth 20000 in
theorem gH60 : gHd m_Mod_rootByte ∈ gT := gT_of (List.mem_append_right _ (List.mem_of_getElem? (i := 792) rfl)) rfl
set_option maxRecDepth 20000 in
theorem gH61 : gHd m_Mod_nodeByte ∈ gT := gT_of (List.mem_append_right _ (List.mem_of_getElem? (i := 821) rfl)) rfl
set_option maxRecDepth 20000 in
theorem gH62 : gHd m_Node_init ∈ gT := gT_of (List.mem_append_right _ (List.mem_of_getElem? (i := 40) rfl)) rfl
set_option maxRecDepth 20000 in
theorem gH63 : gHd m_Node_isFull ∈ gT := gT_of (List.mem_append_right _ (List.mem_of_getElem? (i := 309) rfl)) rfl
set_option maxRecDepth 20000 in
theorem gH64 : gHd m_Node_hasEntry ∈ gT := gT_of (List.mem_append_right _ (List.mem_of_getElem? (i := 258) rfl)) rfl
set_option maxRecDepth 20000 in
theorem gH65 : gHd m_Node_word ∈ gT := gT_of (List.mem_append_right _ (List.mem_of_getElem? (i := 254) rfl)) rfl
set_option maxRecDepth 20000 in
theorem gH66 : gHd m_Node_firstAt ∈ gT := gT_of (List.mem_append_right _ (List.mem_of_getElem? (i := 250) rfl)) rfl
set_option maxRecDepth 20000 in
theorem gH67 : gHd m_Node_belowAt ∈ gT := gT_of (List.mem_append_right _ (List.mem_of_getElem? (i := 263) rfl)) rfl
set_option maxRecDepth 20000 in
theorem gH68 : gHd m_Node_lengthAt ∈ gT := gT_of (List.mem_append_right _ (List.mem_of_getElem? (i := 284) rfl)) rfl
set_option maxRecDepth 20000 in
theorem gH69 : gHd m_Node_isWrittenAt ∈ gT := gT_of (List.mem_append_right _ (List.mem_of_getElem? (i := 353) rfl)) rfl
set_option maxRecDepth 20000 in
theorem gH70 : gHd m_Node_volumeAt ∈ gT := gT_of (List.mem_append_right _ (List.mem_of_getElem? (i := 345) rfl)) rfl
set_option maxRecDepth 20000 in
theorem gH71 : gHd m_Node_setFirst ∈ gT := gT_of (List.mem_append_right _ (List.mem_of_getElem? (i := 378) rfl)) rfl
set_option maxRecDepth 20000 in
theorem gH72 : gHd m_Node_setEntry ∈ gT := gT_of (List.mem_append_right _ (List.mem_of_getElem? (i := 370) rfl)) rfl
set_option maxRecDepth 20000 in
theorem gH73 : gHd m_Node_lastUpTo ∈ gT := gT_of (List.mem_append_right _ (List.mem_of_getElem? (i := 246) rfl)) rfl
set_option maxRecDepth 20000 in
theorem gH74 : gHd m_Node_insert ∈ gT := gT_of (List.mem_append_right _ (List.mem_of_getElem? (i := 425) rfl)) rfl
set_option maxRecDepth 20000 in
theorem gH75 : gHd m_Node_remove ∈ gT := gT_of (List.mem_append_right _ (List.mem_of_getElem? (i := 386) rfl)) rfl
set_option maxRecDepth 20000 in
theorem gH76 : gHd m_Node_moveTail ∈ gT := gT_of (List.mem_append_right _ (List.mem_of_getElem? (i := 421) rfl)) rfl
set_option maxRecDepth 20000 in
theorem gH77 : gHd m_Node_byteAt ∈ gT := gT_of (List.mem_append_right _ (List.mem_of_getElem? (i := 568) rfl)) rfl
set_option maxRecDepth 20000 in
theorem gH78 : gHd m_Node_wordOfBytes ∈ gT := gT_of (List.mem_append_right _ (List.mem_of_getElem? (i := 572) rfl)) rfl
set_option maxRecDepth 20000 in
theorem gH79 : gHd m_Pool_init ∈ gT := gT_of (List.mem_append_right _ (List.mem_of_getElem? (i := 33) rfl)) rfl
set_option maxRecDepth 20000 in
theorem gH80 : gHd m_Pool_node ∈ gT := gT_of (List.mem_append_right _ (List.mem_of_getElem? (i := 267) rfl)) rfl
set_option maxRecDepth 20000 in
theorem gH81 : gHd m_Pool_isTaken ∈ gT := gT_of (List.mem_append_right _ (List.mem_of_getElem? (i := 584) rfl)) rfl
set_option maxRecDepth 20000 in
theorem gH82 : gHd m_Pool_takeLeast ∈ gT := gT_of (List.mem_append_right _ (List.mem_of_getElem? (i := 413) rfl)) rfl
set_option maxRecDepth 20000 in
theorem gH83 : gHd m_Pool_giveBack ∈ gT := gT_of (List.mem_append_right _ (List.mem_of_getElem? (i := 401) rfl)) rfl
set_option maxRecDepth 20000 in
theorem gH84 : gHd m_Tree_init ∈ gT := gT_of (List.mem_append_right _ (List.mem_of_getElem? (i := 84) rfl)) rfl
set_option maxRecDepth 20000 in
theorem gH85 : gHd m_Tree_leaves ∈ gT := gT_of (List.mem_append_right _ (List.mem_of_getElem? (i := 539) rfl)) rfl
set_option maxRecDepth 20000 in
theorem gH86 : gHd m_Tree_roomForOne ∈ gT := gT_of (List.mem_append_right _ (List.mem_of_getElem? (i := 305) rfl)) rfl
set_option maxRecDepth 20000 in
theorem gH87 : gHd m_Tree_roomForTwo ∈ gT := gT_of (List.mem_append_right _ (List.mem_of_getElem? (i := 493) rfl)) rfl
set_option maxRecDepth 20000 in
theorem gH88 : gHd m_Tree_find ∈ gT := gT_of (List.mem_append_right _ (List.mem_of_getElem? (i := 242) rfl)) rfl
set_option maxRecDepth 20000 in
theorem gH89 : gHd m_Tree_runFirst ∈ gT := gT_of (List.mem_append_right _ (List.mem_of_getElem? (i := 275) rfl)) rfl
set_option maxRecDepth 20000 in
theorem gH90 : gHd m_Tree_runLength ∈ gT := gT_of (List.mem_append_right _ (List.mem_of_getElem? (i := 280) rfl)) rfl
set_option maxRecDepth 20000 in
theorem gH91 : gHd m_Tree_runEnd ∈ gT := gT_of (List.mem_append_right _ (List.mem_of_getElem? (i := 271) rfl)) rfl
set_option maxRecDepth 20000 in
theorem gH92 : gHd m_Tree_runVolume ∈ gT := gT_of (List.mem_append_right _ (List.mem_of_getElem? (i := 341) rfl)) rfl
set_option maxRecDepth 20000 in
theorem gH93 : gHd m_Tree_runIsWritten ∈ gT := gT_of (List.mem_append_right _ (List.mem_of_getElem? (i := 349) rfl)) rfl
set_option maxRecDepth 20000 in
theorem gH94 : gHd m_Tree_setRun ∈ gT := gT_of (List.mem_append_right _ (List.mem_of_getElem? (i := 362) rfl)) rfl
set_option maxRecDepth 20000 in
theorem gH95 : gHd m_Tree_marked ∈ gT := gT_of (List.mem_append_right _ (List.mem_of_getElem? (i := 365) rfl)) rfl
set_option maxRecDepth 20000 in
theorem gH96 : gHd m_Tree_nextFirst ∈ gT := gT_of (List.mem_append_right _ (List.mem_of_getElem? (i := 463) rfl)) rfl
set_option maxRecDepth 20000 in
theorem gH97 : gHd m_Tree_hasAny ∈ gT := gT_of (List.mem_append_right _ (List.mem_of_getElem? (i := 238) rfl)) rfl
set_option maxRecDepth 20000 in
theorem gH98 : gHd m_Tree_hasUnwritten ∈ gT := gT_of (List.mem_append_right _ (List.mem_of_getElem? (i := 488) rfl)) rfl
set_option maxRecDepth 20000 in
theorem gH99 : gHd m_Tree_volumeOf ∈ gT := gT_of (List.mem_append_right _ (List.mem_of_getElem? (i := 497) rfl)) rfl
set_option maxRecDepth 20000 in
theorem gH100 : gHd m_Tree_isWritten ∈ gT := gT_of (List.mem_append_right _ (List.mem_of_getElem? (i := 516) rfl)) rfl
set_option maxRecDepth 20000 in
theorem gH101 : gHd m_Tree_alikeFrom ∈ gT := gT_of (List.mem_append_right _ (List.mem_of_getElem? (i := 527) rfl)) rfl
set_option maxRecDepth 20000 in
theorem gH102 : gHd m_Tree_putIn ∈ gT := gT_of (List.mem_append_right _ (List.mem_of_getElem? (i := 329) rfl)) rfl
set_option maxRecDepth 20000 in
theorem gH103 : gHd m_Tree_lengthToJoinBefore ∈ gT := gT_of (List.mem_append_right _ (List.mem_of_getElem? (i := 337) rfl)) rfl
set_option maxRecDepth 20000 in
theorem gH104 : gHd m_Tree_lengthToJoinBehind ∈ gT := gT_of (List.mem_append_right _ (List.mem_of_getElem? (i := 358) rfl)) rfl
set_option maxRecDepth 20000 in
theorem gH105 : gHd m_Tree_takeOutAll ∈ gT := gT_of (List.mem_append_right _ (List.mem_of_getElem? (i := 458) rfl)) rfl
set_option maxRecDepth 20000 in
theorem gH106 : gHd m_Tree_takeOutOfRun ∈ gT := gT_of (List.mem_append_right _ (List.mem_of_getElem? (i := 469) rfl)) rfl
set_option maxRecDepth 20000 in
theorem gH107 : gHd m_Tree_countMapped ∈ gT := gT_of (List.mem_append_right _ (List.mem_of_getElem? (i := 333) rfl)) rfl
set_option maxRecDepth 20000 in
theorem gH108 : gHd m_Tree_insertRun ∈ gT := gT_of (List.mem_append_right _ (List.mem_of_getElem? (i := 405) rfl)) rfl
set_option maxRecDepth 20000 in
theorem gH109 : gHd m_Tree_levelWithRoom ∈ gT := gT_of (List.mem_append_right _ (List.mem_of_getElem? (i := 409) rfl)) rfl
set_option maxRecDepth 20000 in
theorem gH110 : gHd m_Tree_growRoot ∈ gT := gT_of (List.mem_append_right _ (List.mem_of_getElem? (i := 417) rfl)) rfl
set_option maxRecDepth 20000 in
theorem gH111 : gHd m_Tree_splitBlock ∈ gT := gT_of (List.mem_append_right _ (List.mem_of_getElem? (i := 431) rfl)) rfl
set_option maxRecDepth 20000 in
theorem gH112 : gHd m_Tree_removeRun ∈ gT := gT_of (List.mem_append_right _ (List.mem_of_getElem? (i := 382) rfl)) rfl
set_option maxRecDepth 20000 in
theorem gH113 : gHd m_Tree_refreshFirsts ∈ gT := gT_of (List.mem_append_right _ (List.mem_of_getElem? (i := 374) rfl)) rfl
set_option maxRecDepth 20000 in
theorem gH114 : gHd m_Tree_settle ∈ gT := gT_of (List.mem_append_right _ (List.mem_of_getElem? (i := 435) rfl)) rfl
set_option maxRecDepth 20000 in
theorem gH115 : gHd m_Tree_giveBack ∈ gT := gT_of (List.mem_append_right _ (List.mem_of_getElem? (i := 393) rfl)) rfl
set_option maxRecDepth 20000 in
theorem gH116 : gHd m_Tree_countBlock ∈ gT := gT_of (List.mem_append_right _ (List.mem_of_getElem? (i := 397) rfl)) rfl
set_option maxRecDepth 20000 in
theorem gH117 : gHd m_Law_cell ∈ gT := gT_of (List.mem_append_right _ (List.mem_of_getElem? (i := 140) rfl)) rfl
set_option maxRecDepth 20000 in
theorem gH118 : gHd m_Law_put ∈ gT := gT_of (List.mem_append_right _ (List.mem_of_getElem? (i := 143) rfl)) rfl
set_option maxRecDepth 20000 in
theorem gH119 : gHd m_Law_spread ∈ gT := gT_of (List.mem_append_right _ (List.mem_of_getElem? (i := 438) rfl)) rfl
set_option maxRecDepth 20000 in
theorem gH120 : gHd m_Law_punch ∈ gT := gT_of (List.mem_append_right _ (List.mem_of_getElem? (i := 449) rfl)) rfl
set_option maxRecDepth 20000 in
theorem gH121 : gHd m_Law_strip ∈ gT := gT_of (List.mem_append_right _ (List.mem_of_getElem? (i := 472) rfl)) rfl
set_option maxRecDepth 20000 in
theorem gH122 : gHd m_Law_write ∈ gT := gT_of (List.mem_append_right _ (List.mem_of_getElem? (i := 480) rfl)) rfl
set_option maxRecDepth 20000 in
theorem gH123 : gHd m_Law_look ∈ gT := gT_of (List.mem_append_right _ (List.mem_of_getElem? (i := 500) rfl)) rfl
set_option maxRecDepth 20000 in
theorem gH124 : gHd m_Law_written ∈ gT := gT_of (List.mem_append_right _ (List.mem_of_getElem? (i := 508) rfl)) rfl
set_option maxRecDepth 20000 in
theorem gH125 : gHd m_Law_reach ∈ gT := gT_of (List.mem_append_right _ (List.mem_of_getElem? (i := 519) rfl)) rfl
set_option maxRecDepth 20000 in
theorem gH126 : gHd m_Law_count ∈ gT := gT_of (List.mem_append_right _ (List.mem_of_getElem? (i := 530) rfl)) rfl
set_option maxRecDepth 20000 in
theorem gH127 : gHd m_Law_rootByte ∈ gT := gT_of (List.mem_append_right _ (List.mem_of_getElem? (i := 542) rfl)) rfl
set_option maxRecDepth 20000 in
theorem gH128 : gHd m_Law_nodeByte ∈ gT := gT_of (List.mem_append_right _ (List.mem_of_getElem? (i := 576) rfl)) rfl
set_option maxRecDepth 100000 in
theorem gHd_in : ∀ (k : Nat) (M : gM), gMs[k]? = some M → gHd M ∈ gT := by
  intro k M h
  match k, h with
  | 0, h => cases h; exact gH0
  | 1, h => cases h; exact gH1
  | 2, h => cases h; exact gH2
  | 3, h => cases h; exact gH3
  | 4, h => cases h; exact gH4
  | 5, h => cases h; exact gH5
  | 6, h => cases h; exact gH6
  | 7, h => cases h; exact gH7
  | 8, h => cases h; exact gH8
  | 9, h => cases h; exact gH9
  | 10, h => cases h; exact gH10
  | 11, h => cases h; exact gH11
  | 12, h => cases h; exact gH12
  | 13, h => cases h; exact gH13
  | 14, h => cases h; exact gH14
  | 15, h => cases h; exact gH15
  | 16, h => cases h; exact gH16
  | 17, h => cases h; exact gH17
  | 18, h => cases h; exact gH18
  | 19, h => cases h; exact gH19
  | 20, h => cases h; exact gH20
  | 21, h => cases h; exact gH21
  | 22, h => cases h; exact gH22
  | 23, h => cases h; exact gH23
  | 24, h => cases h; exact gH24
  | 25, h => cases h; exact gH25
  | 26, h => cases h; exact gH26
  | 27, h => cases h; exact gH27
  | 28, h => cases h; exact gH28
  | 29, h => cases h; exact gH29
  | 30, h => cases h; exact gH30
  | 31, h => cases h; exact gH31
  | 32, h => cases h; exact gH32
  | 33, h => cases h; exact gH33
  | 34, h => cases h; exact gH34
  | 35, h => cases h; exact gH35
  | 36, h => cases h; exact gH36
  | 37, h => cases h; exact gH37
  | 38, h => cases h; exact gH38
  | 39, h => cases h; exact gH39
  | 40, h => cases h; exact gH40
  | 41, h => cases h; exact gH41
  | 42, h => cases h; exact gH42
  | 43, h => cases h; exact gH43
  | 44, h => cases h; exact gH44
  | 45, h => cases h; exact gH45
  | 46, h => cases h; exact gH46
  | 47, h => cases h; exact gH47
  | 48, h => cases h; exact gH48
  | 49, h => cases h; exact gH49
  | 50, h => cases h; exact gH50
  | 51, h => cases h; exact gH51
  | 52, h => cases h; exact gH52
  | 53, h => cases h; exact gH53
  | 54, h => cases h; exact gH54
  | 55, h => cases h; exact gH55
  | 56, h => cases h; exact gH56
  | 57, h => cases h; exact gH57
  | 58, h => cases h; exact gH58
  | 59, h => cases h; exact gH59
  | 60, h => cases h; exact gH60
  | 61, h => cases h; exact gH61
  | 62, h => cases h; exact gH62
  | 63, h => cases h; exact gH63
  | 64, h => cases h; exact gH64
  | 65, h => cases h; exact gH65
  | 66, h => cases h; exact gH66
  | 67, h => cases h; exact gH67
  | 68, h => cases h; exact gH68
  | 69, h => cases h; exact gH69
  | 70, h => cases h; exact gH70
  | 71, h => cases h; exact gH71
  | 72, h => cases h; exact gH72
  | 73, h => cases h; exact gH73
  | 74, h => cases h; exact gH74
  | 75, h => cases h; exact gH75
  | 76, h => cases h; exact gH76
  | 77, h => cases h; exact gH77
  | 78, h => cases h; exact gH78
  | 79, h => cases h; exact gH79
  | 80, h => cases h; exact gH80
  | 81, h => cases h; exact gH81
  | 82, h => cases h; exact gH82
  | 83, h => cases h; exact gH83
  | 84, h => cases h; exact gH84
  | 85, h => cases h; exact gH85
  | 86, h => cases h; exact gH86
  | 87, h => cases h; exact gH87
  | 88, h => cases h; exact gH88
  | 89, h => cases h; exact gH89
  | 90, h => cases h; exact gH90
  | 91, h => cases h; exact gH91
  | 92, h => cases h; exact gH92
  | 93, h => cases h; exact gH93
  | 94, h => cases h; exact gH94
  | 95, h => cases h; exact gH95
  | 96, h => cases h; exact gH96
  | 97, h => cases h; exact gH97
  | 98, h => cases h; exact gH98
  | 99, h => cases h; exact gH99
  | 100, h => cases h; exact gH100
  | 101, h => cases h; exact gH101
  | 102, h => cases h; exact gH102
  | 103, h => cases h; exact gH103
  | 104, h => cases h; exact gH104
  | 105, h => cases h; exact gH105
  | 106, h => cases h; exact gH106
  | 107, h => cases h; exact gH107
  | 108, h => cases h; exact gH108
  | 109, h => cases h; exact gH109
  | 110, h => cases h; exact gH110
  | 111, h => cases h; exact gH111
  | 112, h => cases h; exact gH112
  | 113, h => cases h; exact gH113
  | 114, h => cases h; exact gH114
  | 115, h => cases h; exact gH115
  | 116, h => cases h; exact gH116
  | 117, h => cases h; exact gH117
  | 118, h => cases h; exact gH118
  | 119, h => cases h; exact gH119
  | 120, h => cases h; exact gH120
  | 121, h => cases h; exact gH121
  | 122, h => cases h; exact gH122
  | 123, h => cases h; exact gH123
  | 124, h => cases h; exact gH124
  | 125, h => cases h; exact gH125
  | 126, h => cases h; exact gH126
  | 127, h => cases h; exact gH127
  | 128, h => cases h; exact gH128
  | k + 129, h => simp [gMs] at h

theorem g_655 : Cond.methodLink RL 13 yX6_row ∈ gt := gt_of (List.mem_of_getElem? (i := 288) (by decide +kernel)) rfl
theorem g_656 : Cond.instanceMethod yX6_row ∈ gt := gt_of (List.mem_of_getElem? (i := 289) (by decide +kernel)) rfl
theorem g_657 : Cond.selects RX6 yX6_row yX6_row ∈ gt := gt_of (List.mem_of_getElem? (i := 290) (by decide +kernel)) rfl
theorem g_658 : Cond.code yX6_row cX6_row 4 (some .int) ∈ gt := gt_of (List.mem_of_getElem? (i := 291) (by decide +kernel)) rfl
theorem g_659 : Cond.methodLink RL 17 yX7_row ∈ gt := gt_of (List.mem_of_getElem? (i := 861) (by decide +kernel)) rfl
theorem g_660 : Cond.instanceMethod yX7_row ∈ gt := gt_of (List.mem_of_getElem? (i := 862) (by decide +kernel)) rfl
theorem g_661 : Cond.selects RX7 yX7_row yX7_row ∈ gt := gt_of (List.mem_of_getElem? (i := 863) (by decide +kernel)) rfl
theorem g_662 : Cond.code yX7_row cX7_row 5 (some .int) ∈ gt := gt_of (List.mem_of_getElem? (i := 864) (by decide +kernel)) rfl
theorem g_663 : Cond.methodLink RL 18 yX6_set ∈ gt := gt_of (List.mem_of_getElem? (i := 314) (by decide +kernel)) rfl
theorem g_664 : Cond.instanceMethod yX6_set ∈ gt := gt_of (List.mem_of_getElem? (i := 315) (by decide +kernel)) rfl
theorem g_665 : Cond.selects RX6 yX6_set yX6_set ∈ gt := gt_of (List.mem_of_getElem? (i := 316) (by decide +kernel)) rfl
theorem g_666 : Cond.code yX6_set cX6_set 4 (some .int) ∈ gt := gt_of (List.mem_of_getElem? (i := 317) (by decide +kernel)) rfl
theorem g_667 : Cond.methodLink RL 21 yX7_set ∈ gt := gt_of (List.mem_of_getElem? (i := 881) (by decide +kernel)) rfl
theorem g_668 : Cond.instanceMethod yX7_set ∈ gt := gt_of (List.mem_of_getElem? (i := 882) (by decide +kernel)) rfl
theorem g_669 : Cond.selects RX7 yX7_set yX7_set ∈ gt := gt_of (List.mem_of_getElem? (i := 883) (by decide +kernel)) rfl
theorem g_670 : Cond.code yX7_set cX7_set 4 (some .int) ∈ gt := gt_of (List.mem_of_getElem? (i := 884) (by decide +kernel)) rfl
theorem g_671 : Cond.methodLink RL 22 yX6_copy ∈ gt := gt_of (List.mem_of_getElem? (i := 330) (by decide +kernel)) rfl
theorem g_672 : Cond.instanceMethod yX6_copy ∈ gt := gt_of (List.mem_of_getElem? (i := 331) (by decide +kernel)) rfl
theorem g_673 : Cond.selects RX6 yX6_copy yX6_copy ∈ gt := gt_of (List.mem_of_getElem? (i := 332) (by decide +kernel)) rfl
theorem g_674 : Cond.code yX6_copy cX6_copy 6 (some .int) ∈ gt := gt_of (List.mem_of_getElem? (i := 333) (by decide +kernel)) rfl
theorem g_675 : Cond.methodLink RL 26 yX7_copy ∈ gt := gt_of (List.mem_of_getElem? (i := 892) (by decide +kernel)) rfl
theorem g_676 : Cond.instanceMethod yX7_copy ∈ gt := gt_of (List.mem_of_getElem? (i := 893) (by decide +kernel)) rfl
theorem g_677 : Cond.selects RX7 yX7_copy yX7_copy ∈ gt := gt_of (List.mem_of_getElem? (i := 894) (by decide +kernel)) rfl
theorem g_678 : Cond.code yX7_copy cX7_copy 7 (some .int) ∈ gt := gt_of (List.mem_of_getElem? (i := 895) (by decide +kernel)) rfl
theorem g_679 : Cond.methodLink RL 27 yX6_drop ∈ gt := gt_of (List.mem_of_getElem? (i := 337) (by decide +kernel)) rfl
theorem g_680 : Cond.instanceMethod yX6_drop ∈ gt := gt_of (List.mem_of_getElem? (i := 338) (by decide +kernel)) rfl
theorem g_681 : Cond.selects RX6 yX6_drop yX6_drop ∈ gt := gt_of (List.mem_of_getElem? (i := 339) (by decide +kernel)) rfl
theorem g_682 : Cond.code yX6_drop cX6_drop 2 (some .int) ∈ gt := gt_of (List.mem_of_getElem? (i := 340) (by decide +kernel)) rfl
theorem g_683 : Cond.methodLink RL 31 yX7_drop ∈ gt := gt_of (List.mem_of_getElem? (i := 900) (by decide +kernel)) rfl
theorem g_684 : Cond.instanceMethod yX7_drop ∈ gt := gt_of (List.mem_of_getElem? (i := 901) (by decide +kernel)) rfl
theorem g_685 : Cond.selects RX7 yX7_drop yX7_drop ∈ gt := gt_of (List.mem_of_getElem? (i := 902) (by decide +kernel)) rfl
theorem g_686 : Cond.code yX7_drop cX7_drop 2 (some .int) ∈ gt := gt_of (List.mem_of_getElem? (i := 903) (by decide +kernel)) rfl
theorem g_687 : Cond.methodLink RL 32 yX6_feed ∈ gt := gt_of (List.mem_of_getElem? (i := 345) (by decide +kernel)) rfl
theorem g_688 : Cond.instanceMethod yX6_feed ∈ gt := gt_of (List.mem_of_getElem? (i := 346) (by decide +kernel)) rfl
theorem g_689 : Cond.selects RX6 yX6_feed yX6_feed ∈ gt := gt_of (List.mem_of_getElem? (i := 347) (by decide +kernel)) rfl
theorem g_690 : Cond.code yX6_feed cX6_feed 2 (some .int) ∈ gt := gt_of (List.mem_of_getElem? (i := 348) (by decide +kernel)) rfl
theorem g_691 : Cond.methodLink RL 35 yX7_feed ∈ gt := gt_of (List.mem_of_getElem? (i := 904) (by decide +kernel)) rfl
theorem g_692 : Cond.instanceMethod yX7_feed ∈ gt := gt_of (List.mem_of_getElem? (i := 905) (by decide +kernel)) rfl
theorem g_693 : Cond.selects RX7 yX7_feed yX7_feed ∈ gt := gt_of (List.mem_of_getElem? (i := 906) (by decide +kernel)) rfl
theorem g_694 : Cond.code yX7_feed cX7_feed 2 (some .int) ∈ gt := gt_of (List.mem_of_getElem? (i := 907) (by decide +kernel)) rfl
theorem g_695 : Cond.methodLink RL 36 yX6_map ∈ gt := gt_of (List.mem_of_getElem? (i := 354) (by decide +kernel)) rfl
theorem g_696 : Cond.instanceMethod yX6_map ∈ gt := gt_of (List.mem_of_getElem? (i := 355) (by decide +kernel)) rfl
theorem g_697 : Cond.selects RX6 yX6_map yX6_map ∈ gt := gt_of (List.mem_of_getElem? (i := 356) (by decide +kernel)) rfl
theorem g_698 : Cond.code yX6_map cX6_map 2 (some .int) ∈ gt := gt_of (List.mem_of_getElem? (i := 357) (by decide +kernel)) rfl
theorem g_699 : Cond.methodLink RL 40 yX7_map ∈ gt := gt_of (List.mem_of_getElem? (i := 909) (by decide +kernel)) rfl
theorem g_700 : Cond.instanceMethod yX7_map ∈ gt := gt_of (List.mem_of_getElem? (i := 910) (by decide +kernel)) rfl
theorem g_701 : Cond.selects RX7 yX7_map yX7_map ∈ gt := gt_of (List.mem_of_getElem? (i := 911) (by decide +kernel)) rfl
theorem g_702 : Cond.code yX7_map cX7_map 2 (some .int) ∈ gt := gt_of (List.mem_of_getElem? (i := 912) (by decide +kernel)) rfl
theorem g_703 : Cond.methodLink RL 41 yX6_fault ∈ gt := gt_of (List.mem_of_getElem? (i := 430) (by decide +kernel)) rfl
theorem g_704 : Cond.instanceMethod yX6_fault ∈ gt := gt_of (List.mem_of_getElem? (i := 431) (by decide +kernel)) rfl
theorem g_705 : Cond.selects RX6 yX6_fault yX6_fault ∈ gt := gt_of (List.mem_of_getElem? (i := 432) (by decide +kernel)) rfl
theorem g_706 : Cond.code yX6_fault cX6_fault 1 (some .int) ∈ gt := gt_of (List.mem_of_getElem? (i := 433) (by decide +kernel)) rfl
theorem g_707 : Cond.methodLink RL 44 yX7_fault ∈ gt := gt_of (List.mem_of_getElem? (i := 963) (by decide +kernel)) rfl
theorem g_708 : Cond.instanceMethod yX7_fault ∈ gt := gt_of (List.mem_of_getElem? (i := 964) (by decide +kernel)) rfl
theorem g_709 : Cond.selects RX7 yX7_fault yX7_fault ∈ gt := gt_of (List.mem_of_getElem? (i := 965) (by decide +kernel)) rfl
theorem g_710 : Cond.code yX7_fault cX7_fault 1 (some .int) ∈ gt := gt_of (List.mem_of_getElem? (i := 966) (by decide +kernel)) rfl
theorem g_711 : Cond.methodLink RL 45 yX6_times ∈ gt := gt_of (List.mem_of_getElem? (i := 434) (by decide +kernel)) rfl
theorem g_712 : Cond.instanceMethod yX6_times ∈ gt := gt_of (List.mem_of_getElem? (i := 435) (by decide +kernel)) rfl
theorem g_713 : Cond.selects RX6 yX6_times yX6_times ∈ gt := gt_of (List.mem_of_getElem? (i := 436) (by decide +kernel)) rfl
theorem g_714 : Cond.code yX6_times cX6_times 3 (some .int) ∈ gt := gt_of (List.mem_of_getElem? (i := 437) (by decide +kernel)) rfl
theorem g_715 : Cond.methodLink RL 48 yX7_times ∈ gt := gt_of (List.mem_of_getElem? (i := 967) (by decide +kernel)) rfl
theorem g_716 : Cond.instanceMethod yX7_times ∈ gt := gt_of (List.mem_of_getElem? (i := 968) (by decide +kernel)) rfl
theorem g_717 : Cond.selects RX7 yX7_times yX7_times ∈ gt := gt_of (List.mem_of_getElem? (i := 969) (by decide +kernel)) rfl
theorem g_718 : Cond.code yX7_times cX7_times 3 (some .int) ∈ gt := gt_of (List.mem_of_getElem? (i := 970) (by decide +kernel)) rfl
theorem g_719 : Cond.methodLink RL 49 yX6_move ∈ gt := gt_of (List.mem_of_getElem? (i := 498) (by decide +kernel)) rfl
theorem g_720 : Cond.instanceMethod yX6_move ∈ gt := gt_of (List.mem_of_getElem? (i := 499) (by decide +kernel)) rfl
theorem g_721 : Cond.selects RX6 yX6_move yX6_move ∈ gt := gt_of (List.mem_of_getElem? (i := 500) (by decide +kernel)) rfl
theorem g_722 : Cond.code yX6_move cX6_move 4 (some .int) ∈ gt := gt_of (List.mem_of_getElem? (i := 501) (by decide +kernel)) rfl
theorem g_723 : Cond.methodLink RL 53 yX7_move ∈ gt := gt_of (List.mem_of_getElem? (i := 1005) (by decide +kernel)) rfl
theorem g_724 : Cond.instanceMethod yX7_move ∈ gt := gt_of (List.mem_of_getElem? (i := 1006) (by decide +kernel)) rfl
theorem g_725 : Cond.selects RX7 yX7_move yX7_move ∈ gt := gt_of (List.mem_of_getElem? (i := 1007) (by decide +kernel)) rfl
theorem g_726 : Cond.code yX7_move cX7_move 4 (some .int) ∈ gt := gt_of (List.mem_of_getElem? (i := 1008) (by decide +kernel)) rfl
theorem g_727 : Cond.methodLink RL 54 yX6_swap ∈ gt := gt_of (List.mem_of_getElem? (i := 510) (by decide +kernel)) rfl
theorem g_728 : Cond.instanceMethod yX6_swap ∈ gt := gt_of (List.mem_of_getElem? (i := 511) (by decide +kernel)) rfl
theorem g_729 : Cond.selects RX6 yX6_swap yX6_swap ∈ gt := gt_of (List.mem_of_getElem? (i := 512) (by decide +kernel)) rfl
theorem g_730 : Cond.code yX6_swap cX6_swap 3 (some .int) ∈ gt := gt_of (List.mem_of_getElem? (i := 513) (by decide +kernel)) rfl
theorem g_731 : Cond.methodLink RL 57 yX7_swap ∈ gt := gt_of (List.mem_of_getElem? (i := 1020) (by decide +kernel)) rfl
theorem g_732 : Cond.instanceMethod yX7_swap ∈ gt := gt_of (List.mem_of_getElem? (i := 1021) (by decide +kernel)) rfl
theorem g_733 : Cond.selects RX7 yX7_swap yX7_swap ∈ gt := gt_of (List.mem_of_getElem? (i := 1022) (by decide +kernel)) rfl
theorem g_734 : Cond.code yX7_swap cX7_swap 4 (some .int) ∈ gt := gt_of (List.mem_of_getElem? (i := 1023) (by decide +kernel)) rfl
theorem g_735 : Cond.methodLink RL 58 yX6_work ∈ gt := gt_of (List.mem_of_getElem? (i := 515) (by decide +kernel)) rfl
theorem g_736 : Cond.instanceMethod yX6_work ∈ gt := gt_of (List.mem_of_getElem? (i := 516) (by decide +kernel)) rfl
theorem g_737 : Cond.selects RX6 yX6_work yX6_work ∈ gt := gt_of (List.mem_of_getElem? (i := 517) (by decide +kernel)) rfl
theorem g_738 : Cond.code yX6_work cX6_work 4 (some .int) ∈ gt := gt_of (List.mem_of_getElem? (i := 518) (by decide +kernel)) rfl
theorem g_739 : Cond.methodLink RL 61 yX7_work ∈ gt := gt_of (List.mem_of_getElem? (i := 1024) (by decide +kernel)) rfl
theorem g_740 : Cond.instanceMethod yX7_work ∈ gt := gt_of (List.mem_of_getElem? (i := 1025) (by decide +kernel)) rfl
theorem g_741 : Cond.selects RX7 yX7_work yX7_work ∈ gt := gt_of (List.mem_of_getElem? (i := 1026) (by decide +kernel)) rfl
theorem g_742 : Cond.code yX7_work cX7_work 4 (some .int) ∈ gt := gt_of (List.mem_of_getElem? (i := 1027) (by decide +kernel)) rfl
theorem g_743 : Cond.methodLink RL 62 yX6_slip ∈ gt := gt_of (List.mem_of_getElem? (i := 519) (by decide +kernel)) rfl
theorem g_744 : Cond.instanceMethod yX6_slip ∈ gt := gt_of (List.mem_of_getElem? (i := 520) (by decide +kernel)) rfl
theorem g_745 : Cond.selects RX6 yX6_slip yX6_slip ∈ gt := gt_of (List.mem_of_getElem? (i := 521) (by decide +kernel)) rfl
theorem g_746 : Cond.code yX6_slip cX6_slip 3 (some .int) ∈ gt := gt_of (List.mem_of_getElem? (i := 522) (by decide +kernel)) rfl
theorem g_747 : Cond.methodLink RL 65 yX7_slip ∈ gt := gt_of (List.mem_of_getElem? (i := 1028) (by decide +kernel)) rfl
theorem g_748 : Cond.instanceMethod yX7_slip ∈ gt := gt_of (List.mem_of_getElem? (i := 1029) (by decide +kernel)) rfl
theorem g_749 : Cond.selects RX7 yX7_slip yX7_slip ∈ gt := gt_of (List.mem_of_getElem? (i := 1030) (by decide +kernel)) rfl
theorem g_750 : Cond.code yX7_slip cX7_slip 3 (some .int) ∈ gt := gt_of (List.mem_of_getElem? (i := 1031) (by decide +kernel)) rfl
theorem g_751 : Cond.methodLink RL 66 yX6_undo ∈ gt := gt_of (List.mem_of_getElem? (i := 523) (by decide +kernel)) rfl
theorem g_752 : Cond.instanceMethod yX6_undo ∈ gt := gt_of (List.mem_of_getElem? (i := 524) (by decide +kernel)) rfl
theorem g_753 : Cond.selects RX6 yX6_undo yX6_undo ∈ gt := gt_of (List.mem_of_getElem? (i := 525) (by decide +kernel)) rfl
theorem g_754 : Cond.code yX6_undo cX6_undo 1 (some .int) ∈ gt := gt_of (List.mem_of_getElem? (i := 526) (by decide +kernel)) rfl
theorem g_755 : Cond.methodLink RL 69 yX7_undo ∈ gt := gt_of (List.mem_of_getElem? (i := 1032) (by decide +kernel)) rfl
theorem g_756 : Cond.instanceMethod yX7_undo ∈ gt := gt_of (List.mem_of_getElem? (i := 1033) (by decide +kernel)) rfl
theorem g_757 : Cond.selects RX7 yX7_undo yX7_undo ∈ gt := gt_of (List.mem_of_getElem? (i := 1034) (by decide +kernel)) rfl
theorem g_758 : Cond.code yX7_undo cX7_undo 1 (some .int) ∈ gt := gt_of (List.mem_of_getElem? (i := 1035) (by decide +kernel)) rfl
theorem g_759 : Cond.methodLink RL 70 yX6_pin ∈ gt := gt_of (List.mem_of_getElem? (i := 531) (by decide +kernel)) rfl
theorem g_760 : Cond.instanceMethod yX6_pin ∈ gt := gt_of (List.mem_of_getElem? (i := 532) (by decide +kernel)) rfl
theorem g_761 : Cond.selects RX6 yX6_pin yX6_pin ∈ gt := gt_of (List.mem_of_getElem? (i := 533) (by decide +kernel)) rfl
theorem g_762 : Cond.code yX6_pin cX6_pin 3 (some .int) ∈ gt := gt_of (List.mem_of_getElem? (i := 534) (by decide +kernel)) rfl
theorem g_763 : Cond.methodLink RL 73 yX7_pin ∈ gt := gt_of (List.mem_of_getElem? (i := 1036) (by decide +kernel)) rfl
theorem g_764 : Cond.instanceMethod yX7_pin ∈ gt := gt_of (List.mem_of_getElem? (i := 1037) (by decide +kernel)) rfl
theorem g_765 : Cond.selects RX7 yX7_pin yX7_pin ∈ gt := gt_of (List.mem_of_getElem? (i := 1038) (by decide +kernel)) rfl
theorem g_766 : Cond.code yX7_pin cX7_pin 3 (some .int) ∈ gt := gt_of (List.mem_of_getElem? (i := 1039) (by decide +kernel)) rfl
theorem g_767 : Cond.methodLink RL 74 yX6_cell ∈ gt := gt_of (List.mem_of_getElem? (i := 536) (by decide +kernel)) rfl
theorem g_768 : Cond.instanceMethod yX6_cell ∈ gt := gt_of (List.mem_of_getElem? (i := 537) (by decide +kernel)) rfl
theorem g_769 : Cond.selects RX6 yX6_cell yX6_cell ∈ gt := gt_of (List.mem_of_getElem? (i := 538) (by decide +kernel)) rfl
theorem g_770 : Cond.code yX6_cell cX6_cell 3 (some .int) ∈ gt := gt_of (List.mem_of_getElem? (i := 539) (by decide +kernel)) rfl
theorem g_771 : Cond.methodLink RL 77 yX7_cell ∈ gt := gt_of (List.mem_of_getElem? (i := 1040) (by decide +kernel)) rfl
theorem g_772 : Cond.instanceMethod yX7_cell ∈ gt := gt_of (List.mem_of_getElem? (i := 1041) (by decide +kernel)) rfl
theorem g_773 : Cond.selects RX7 yX7_cell yX7_cell ∈ gt := gt_of (List.mem_of_getElem? (i := 1042) (by decide +kernel)) rfl
theorem g_774 : Cond.code yX7_cell cX7_cell 3 (some .int) ∈ gt := gt_of (List.mem_of_getElem? (i := 1043) (by decide +kernel)) rfl
theorem g_775 : Cond.methodLink RL 78 yX6_ahead ∈ gt := gt_of (List.mem_of_getElem? (i := 542) (by decide +kernel)) rfl
theorem g_776 : Cond.instanceMethod yX6_ahead ∈ gt := gt_of (List.mem_of_getElem? (i := 543) (by decide +kernel)) rfl
theorem g_777 : Cond.selects RX6 yX6_ahead yX6_ahead ∈ gt := gt_of (List.mem_of_getElem? (i := 544) (by decide +kernel)) rfl
theorem g_778 : Cond.code yX6_ahead cX6_ahead 3 (some .int) ∈ gt := gt_of (List.mem_of_getElem? (i := 545) (by decide +kernel)) rfl
theorem g_779 : Cond.methodLink RL 81 yX7_ahead ∈ gt := gt_of (List.mem_of_getElem? (i := 1044) (by decide +kernel)) rfl
theorem g_780 : Cond.instanceMethod yX7_ahead ∈ gt := gt_of (List.mem_of_getElem? (i := 1045) (by decide +kernel)) rfl
theorem g_781 : Cond.selects RX7 yX7_ahead yX7_ahead ∈ gt := gt_of (List.mem_of_getElem? (i := 1046) (by decide +kernel)) rfl
theorem g_782 : Cond.code yX7_ahead cX7_ahead 3 (some .int) ∈ gt := gt_of (List.mem_of_getElem? (i := 1047) (by decide +kernel)) rfl
theorem g_783 : Cond.methodLink RL 82 yX6_earned ∈ gt := gt_of (List.mem_of_getElem? (i := 552) (by decide +kernel)) rfl
theorem g_784 : Cond.instanceMethod yX6_earned ∈ gt := gt_of (List.mem_of_getElem? (i := 553) (by decide +kernel)) rfl
theorem g_785 : Cond.selects RX6 yX6_earned yX6_earned ∈ gt := gt_of (List.mem_of_getElem? (i := 554) (by decide +kernel)) rfl
theorem g_786 : Cond.code yX6_earned cX6_earned 2 (some .int) ∈ gt := gt_of (List.mem_of_getElem? (i := 555) (by decide +kernel)) rfl
theorem g_787 : Cond.methodLink RL 85 yX7_earned ∈ gt := gt_of (List.mem_of_getElem? (i := 1052) (by decide +kernel)) rfl
theorem g_788 : Cond.instanceMethod yX7_earned ∈ gt := gt_of (List.mem_of_getElem? (i := 1053) (by decide +kernel)) rfl
theorem g_789 : Cond.selects RX7 yX7_earned yX7_earned ∈ gt := gt_of (List.mem_of_getElem? (i := 1054) (by decide +kernel)) rfl
theorem g_790 : Cond.code yX7_earned cX7_earned 2 (some .int) ∈ gt := gt_of (List.mem_of_getElem? (i := 1055) (by decide +kernel)) rfl
theorem g_791 : Cond.methodLink RL 86 yX6_tomsk ∈ gt := gt_of (List.mem_of_getElem? (i := 556) (by decide +kernel)) rfl
theorem g_792 : Cond.instanceMethod yX6_tomsk ∈ gt := gt_of (List.mem_of_getElem? (i := 557) (by decide +kernel)) rfl
theorem g_793 : Cond.selects RX6 yX6_tomsk yX6_tomsk ∈ gt := gt_of (List.mem_of_getElem? (i := 558) (by decide +kernel)) rfl
theorem g_794 : Cond.code yX6_tomsk cX6_tomsk 3 (some .int) ∈ gt := gt_of (List.mem_of_getElem? (i := 559) (by decide +kernel)) rfl
theorem g_795 : Cond.methodLink RL 89 yX7_tomsk ∈ gt := gt_of (List.mem_of_getElem? (i := 1056) (by decide +kernel)) rfl
theorem g_796 : Cond.instanceMethod yX7_tomsk ∈ gt := gt_of (List.mem_of_getElem? (i := 1057) (by decide +kernel)) rfl
theorem g_797 : Cond.selects RX7 yX7_tomsk yX7_tomsk ∈ gt := gt_of (List.mem_of_getElem? (i := 1058) (by decide +kernel)) rfl
theorem g_798 : Cond.code yX7_tomsk cX7_tomsk 4 (some .int) ∈ gt := gt_of (List.mem_of_getElem? (i := 1059) (by decide +kernel)) rfl
theorem g_799 : Cond.methodLink RL 90 yX6_round ∈ gt := gt_of (List.mem_of_getElem? (i := 566) (by decide +kernel)) rfl
theorem g_800 : Cond.instanceMethod yX6_round ∈ gt := gt_of (List.mem_of_getElem? (i := 567) (by decide +kernel)) rfl
theorem g_801 : Cond.selects RX6 yX6_round yX6_round ∈ gt := gt_of (List.mem_of_getElem? (i := 568) (by decide +kernel)) rfl
theorem g_802 : Cond.code yX6_round cX6_round 1 (some .int) ∈ gt := gt_of (List.mem_of_getElem? (i := 569) (by decide +kernel)) rfl
theorem g_803 : Cond.methodLink RL 93 yX7_round ∈ gt := gt_of (List.mem_of_getElem? (i := 1060) (by decide +kernel)) rfl
theorem g_804 : Cond.instanceMethod yX7_round ∈ gt := gt_of (List.mem_of_getElem? (i := 1061) (by decide +kernel)) rfl
theorem g_805 : Cond.selects RX7 yX7_round yX7_round ∈ gt := gt_of (List.mem_of_getElem? (i := 1062) (by decide +kernel)) rfl
theorem g_806 : Cond.code yX7_round cX7_round 4 (some .int) ∈ gt := gt_of (List.mem_of_getElem? (i := 1063) (by decide +kernel)) rfl
theorem g_807 : Cond.methodLink RL 94 yX6_right ∈ gt := gt_of (List.mem_of_getElem? (i := 578) (by decide +kernel)) rfl
theorem g_808 : Cond.instanceMethod yX6_right ∈ gt := gt_of (List.mem_of_getElem? (i := 579) (by decide +kernel)) rfl
theorem g_809 : Cond.selects RX6 yX6_right yX6_right ∈ gt := gt_of (List.mem_of_getElem? (i := 580) (by decide +kernel)) rfl
theorem g_810 : Cond.code yX6_right cX6_right 2 (some .int) ∈ gt := gt_of (List.mem_of_getElem? (i := 581) (by decide +kernel)) rfl
theorem g_811 : Cond.methodLink RL 97 yX7_right ∈ gt := gt_of (List.mem_of_getElem? (i := 1064) (by decide +kernel)) rfl
theorem g_812 : Cond.instanceMethod yX7_right ∈ gt := gt_of (List.mem_of_getElem? (i := 1065) (by decide +kernel)) rfl
theorem g_813 : Cond.selects RX7 yX7_right yX7_right ∈ gt := gt_of (List.mem_of_getElem? (i := 1066) (by decide +kernel)) rfl
theorem g_814 : Cond.code yX7_right cX7_right 2 (some .int) ∈ gt := gt_of (List.mem_of_getElem? (i := 1067) (by decide +kernel)) rfl
theorem g_815 : Cond.methodLink RL 98 yX6_best ∈ gt := gt_of (List.mem_of_getElem? (i := 600) (by decide +kernel)) rfl
theorem g_816 : Cond.instanceMethod yX6_best ∈ gt := gt_of (List.mem_of_getElem? (i := 601) (by decide +kernel)) rfl
theorem g_817 : Cond.selects RX6 yX6_best yX6_best ∈ gt := gt_of (List.mem_of_getElem? (i := 602) (by decide +kernel)) rfl
theorem g_818 : Cond.code yX6_best cX6_best 2 (some .int) ∈ gt := gt_of (List.mem_of_getElem? (i := 603) (by decide +kernel)) rfl
theorem g_819 : Cond.methodLink RL 101 yX7_best ∈ gt := gt_of (List.mem_of_getElem? (i := 1075) (by decide +kernel)) rfl
theorem g_820 : Cond.instanceMethod yX7_best ∈ gt := gt_of (List.mem_of_getElem? (i := 1076) (by decide +kernel)) rfl
theorem g_821 : Cond.selects RX7 yX7_best yX7_best ∈ gt := gt_of (List.mem_of_getElem? (i := 1077) (by decide +kernel)) rfl
theorem g_822 : Cond.code yX7_best cX7_best 7 (some .int) ∈ gt := gt_of (List.mem_of_getElem? (i := 1078) (by decide +kernel)) rfl
theorem g_823 : Cond.methodLink RL 102 yX6_fits ∈ gt := gt_of (List.mem_of_getElem? (i := 628) (by decide +kernel)) rfl
theorem g_824 : Cond.instanceMethod yX6_fits ∈ gt := gt_of (List.mem_of_getElem? (i := 629) (by decide +kernel)) rfl
theorem g_825 : Cond.selects RX6 yX6_fits yX6_fits ∈ gt := gt_of (List.mem_of_getElem? (i := 630) (by decide +kernel)) rfl
theorem g_826 : Cond.code yX6_fits cX6_fits 7 (some .int) ∈ gt := gt_of (List.mem_of_getElem? (i := 631) (by decide +kernel)) rfl
theorem g_827 : Cond.methodLink RL 105 yX7_fits ∈ gt := gt_of (List.mem_of_getElem? (i := 1086) (by decide +kernel)) rfl
theorem g_828 : Cond.instanceMethod yX7_fits ∈ gt := gt_of (List.mem_of_getElem? (i := 1087) (by decide +kernel)) rfl
theorem g_829 : Cond.selects RX7 yX7_fits yX7_fits ∈ gt := gt_of (List.mem_of_getElem? (i := 1088) (by decide +kernel)) rfl
theorem g_830 : Cond.code yX7_fits cX7_fits 8 (some .int) ∈ gt := gt_of (List.mem_of_getElem? (i := 1089) (by decide +kernel)) rfl
theorem g_831 : Cond.methodLink RL 106 yX6_left ∈ gt := gt_of (List.mem_of_getElem? (i := 649) (by decide +kernel)) rfl
theorem g_832 : Cond.instanceMethod yX6_left ∈ gt := gt_of (List.mem_of_getElem? (i := 650) (by decide +kernel)) rfl
theorem g_833 : Cond.selects RX6 yX6_left yX6_left ∈ gt := gt_of (List.mem_of_getElem? (i := 651) (by decide +kernel)) rfl
theorem g_834 : Cond.code yX6_left cX6_left 4 (some .int) ∈ gt := gt_of (List.mem_of_getElem? (i := 652) (by decide +kernel)) rfl
theorem g_835 : Cond.methodLink RL 109 yX7_left ∈ gt := gt_of (List.mem_of_getElem? (i := 1102) (by decide +kernel)) rfl
theorem g_836 : Cond.instanceMethod yX7_left ∈ gt := gt_of (List.mem_of_getElem? (i := 1103) (by decide +kernel)) rfl
theorem g_837 : Cond.selects RX7 yX7_left yX7_left ∈ gt := gt_of (List.mem_of_getElem? (i := 1104) (by decide +kernel)) rfl
theorem g_838 : Cond.code yX7_left cX7_left 10 (some .int) ∈ gt := gt_of (List.mem_of_getElem? (i := 1105) (by decide +kernel)) rfl
theorem g_839 : Cond.methodLink RL 110 yX6_drawn ∈ gt := gt_of (List.mem_of_getElem? (i := 673) (by decide +kernel)) rfl
theorem g_840 : Cond.instanceMethod yX6_drawn ∈ gt := gt_of (List.mem_of_getElem? (i := 674) (by decide +kernel)) rfl
theorem g_841 : Cond.selects RX6 yX6_drawn yX6_drawn ∈ gt := gt_of (List.mem_of_getElem? (i := 675) (by decide +kernel)) rfl
theorem g_842 : Cond.code yX6_drawn cX6_drawn 4 (some .int) ∈ gt := gt_of (List.mem_of_getElem? (i := 676) (by decide +kernel)) rfl
theorem g_843 : Cond.methodLink RL 113 yX7_drawn ∈ gt := gt_of (List.mem_of_getElem? (i := 1109) (by decide +kernel)) rfl
theorem g_844 : Cond.instanceMethod yX7_drawn ∈ gt := gt_of (List.mem_of_getElem? (i := 1110) (by decide +kernel)) rfl
theorem g_845 : Cond.selects RX7 yX7_drawn yX7_drawn ∈ gt := gt_of (List.mem_of_getElem? (i := 1111) (by decide +kernel)) rfl
theorem g_846 : Cond.code yX7_drawn cX7_drawn 7 (some .int) ∈ gt := gt_of (List.mem_of_getElem? (i := 1112) (by decide +kernel)) rfl
theorem g_847 : Cond.methodLink RL 114 yX6_image ∈ gt := gt_of (List.mem_of_getElem? (i := 687) (by decide +kernel)) rfl
theorem g_848 : Cond.instanceMethod yX6_image ∈ gt := gt_of (List.mem_of_getElem? (i := 688) (by decide +kernel)) rfl
theorem g_849 : Cond.selects RX6 yX6_image yX6_image ∈ gt := gt_of (List.mem_of_getElem? (i := 689) (by decide +kernel)) rfl
theorem g_850 : Cond.code yX6_image cX6_image 2 (some .int) ∈ gt := gt_of (List.mem_of_getElem? (i := 690) (by decide +kernel)) rfl
theorem g_851 : Cond.methodLink RL 117 yX7_image ∈ gt := gt_of (List.mem_of_getElem? (i := 1116) (by decide +kernel)) rfl
theorem g_852 : Cond.instanceMethod yX7_image ∈ gt := gt_of (List.mem_of_getElem? (i := 1117) (by decide +kernel)) rfl
theorem g_853 : Cond.selects RX7 yX7_image yX7_image ∈ gt := gt_of (List.mem_of_getElem? (i := 1118) (by decide +kernel)) rfl
theorem g_854 : Cond.code yX7_image cX7_image 2 (some .int) ∈ gt := gt_of (List.mem_of_getElem? (i := 1119) (by decide +kernel)) rfl
theorem g_855 : Cond.methodLink RL 118 yX6_restore ∈ gt := gt_of (List.mem_of_getElem? (i := 691) (by decide +kernel)) rfl
theorem g_856 : Cond.instanceMethod yX6_restore ∈ gt := gt_of (List.mem_of_getElem? (i := 692) (by decide +kernel)) rfl
theorem g_857 : Cond.selects RX6 yX6_restore yX6_restore ∈ gt := gt_of (List.mem_of_getElem? (i := 693) (by decide +kernel)) rfl
theorem g_858 : Cond.code yX6_restore cX6_restore 2 (some .int) ∈ gt := gt_of (List.mem_of_getElem? (i := 694) (by decide +kernel)) rfl
theorem g_859 : Cond.methodLink RL 121 yX7_restore ∈ gt := gt_of (List.mem_of_getElem? (i := 1120) (by decide +kernel)) rfl
theorem g_860 : Cond.instanceMethod yX7_restore ∈ gt := gt_of (List.mem_of_getElem? (i := 1121) (by decide +kernel)) rfl
theorem g_861 : Cond.selects RX7 yX7_restore yX7_restore ∈ gt := gt_of (List.mem_of_getElem? (i := 1122) (by decide +kernel)) rfl
theorem g_862 : Cond.code yX7_restore cX7_restore 2 (some .int) ∈ gt := gt_of (List.mem_of_getElem? (i := 1123) (by decide +kernel)) rfl
theorem g_863 : Cond.methodLink RL 122 yX6_kind ∈ gt := gt_of (List.mem_of_getElem? (i := 695) (by decide +kernel)) rfl
theorem g_864 : Cond.instanceMethod yX6_kind ∈ gt := gt_of (List.mem_of_getElem? (i := 696) (by decide +kernel)) rfl
theorem g_865 : Cond.selects RX6 yX6_kind yX6_kind ∈ gt := gt_of (List.mem_of_getElem? (i := 697) (by decide +kernel)) rfl
theorem g_866 : Cond.code yX6_kind cX6_kind 2 (some .int) ∈ gt := gt_of (List.mem_of_getElem? (i := 698) (by decide +kernel)) rfl
theorem g_867 : Cond.methodLink RL 125 yX7_kind ∈ gt := gt_of (List.mem_of_getElem? (i := 1124) (by decide +kernel)) rfl
theorem g_868 : Cond.instanceMethod yX7_kind ∈ gt := gt_of (List.mem_of_getElem? (i := 1125) (by decide +kernel)) rfl
theorem g_869 : Cond.selects RX7 yX7_kind yX7_kind ∈ gt := gt_of (List.mem_of_getElem? (i := 1126) (by decide +kernel)) rfl
theorem g_870 : Cond.code yX7_kind cX7_kind 2 (some .int) ∈ gt := gt_of (List.mem_of_getElem? (i := 1127) (by decide +kernel)) rfl
theorem g_871 : Cond.methodLink RL 126 yX6_as ∈ gt := gt_of (List.mem_of_getElem? (i := 699) (by decide +kernel)) rfl
theorem g_872 : Cond.instanceMethod yX6_as ∈ gt := gt_of (List.mem_of_getElem? (i := 700) (by decide +kernel)) rfl
theorem g_873 : Cond.selects RX6 yX6_as yX6_as ∈ gt := gt_of (List.mem_of_getElem? (i := 701) (by decide +kernel)) rfl
theorem g_874 : Cond.code yX6_as cX6_as 3 (some .int) ∈ gt := gt_of (List.mem_of_getElem? (i := 702) (by decide +kernel)) rfl
theorem g_875 : Cond.methodLink RL 129 yX7_as ∈ gt := gt_of (List.mem_of_getElem? (i := 1132) (by decide +kernel)) rfl
theorem g_876 : Cond.instanceMethod yX7_as ∈ gt := gt_of (List.mem_of_getElem? (i := 1133) (by decide +kernel)) rfl
theorem g_877 : Cond.selects RX7 yX7_as yX7_as ∈ gt := gt_of (List.mem_of_getElem? (i := 1134) (by decide +kernel)) rfl
theorem g_878 : Cond.code yX7_as cX7_as 5 (some .int) ∈ gt := gt_of (List.mem_of_getElem? (i := 1135) (by decide +kernel)) rfl
theorem g_879 : Cond.methodLink RL 130 yX6_ask ∈ gt := gt_of (List.mem_of_getElem? (i := 706) (by decide +kernel)) rfl
theorem g_880 : Cond.instanceMethod yX6_ask ∈ gt := gt_of (List.mem_of_getElem? (i := 707) (by decide +kernel)) rfl
theorem g_881 : Cond.selects RX6 yX6_ask yX6_ask ∈ gt := gt_of (List.mem_of_getElem? (i := 708) (by decide +kernel)) rfl
theorem g_882 : Cond.code yX6_ask cX6_ask 3 (some .int) ∈ gt := gt_of (List.mem_of_getElem? (i := 709) (by decide +kernel)) rfl
theorem g_883 : Cond.methodLink RL 133 yX7_ask ∈ gt := gt_of (List.mem_of_getElem? (i := 1136) (by decide +kernel)) rfl
theorem g_884 : Cond.instanceMethod yX7_ask ∈ gt := gt_of (List.mem_of_getElem? (i := 1137) (by decide +kernel)) rfl
theorem g_885 : Cond.selects RX7 yX7_ask yX7_ask ∈ gt := gt_of (List.mem_of_getElem? (i := 1138) (by decide +kernel)) rfl
theorem g_886 : Cond.code yX7_ask cX7_ask 4 (some .int) ∈ gt := gt_of (List.mem_of_getElem? (i := 1139) (by decide +kernel)) rfl
theorem g_887 : Cond.methodLink RL 134 yX6_trace ∈ gt := gt_of (List.mem_of_getElem? (i := 759) (by decide +kernel)) rfl
theorem g_888 : Cond.instanceMethod yX6_trace ∈ gt := gt_of (List.mem_of_getElem? (i := 760) (by decide +kernel)) rfl
theorem g_889 : Cond.selects RX6 yX6_trace yX6_trace ∈ gt := gt_of (List.mem_of_getElem? (i := 761) (by decide +kernel)) rfl
theorem g_890 : Cond.code yX6_trace cX6_trace 2 (some .int) ∈ gt := gt_of (List.mem_of_getElem? (i := 762) (by decide +kernel)) rfl
theorem g_891 : Cond.methodLink RL 137 yX7_trace ∈ gt := gt_of (List.mem_of_getElem? (i := 1160) (by decide +kernel)) rfl
theorem g_892 : Cond.instanceMethod yX7_trace ∈ gt := gt_of (List.mem_of_getElem? (i := 1161) (by decide +kernel)) rfl
theorem g_893 : Cond.selects RX7 yX7_trace yX7_trace ∈ gt := gt_of (List.mem_of_getElem? (i := 1162) (by decide +kernel)) rfl
theorem g_894 : Cond.code yX7_trace cX7_trace 2 (some .int) ∈ gt := gt_of (List.mem_of_getElem? (i := 1163) (by decide +kernel)) rfl
theorem g_895 : Cond.methodLink RL 138 yX6_count ∈ gt := gt_of (List.mem_of_getElem? (i := 763) (by decide +kernel)) rfl
theorem g_896 : Cond.instanceMethod yX6_count ∈ gt := gt_of (List.mem_of_getElem? (i := 764) (by decide +kernel)) rfl
theorem g_897 : Cond.selects RX6 yX6_count yX6_count ∈ gt := gt_of (List.mem_of_getElem? (i := 765) (by decide +kernel)) rfl
theorem g_898 : Cond.code yX6_count cX6_count 2 (some .int) ∈ gt := gt_of (List.mem_of_getElem? (i := 766) (by decide +kernel)) rfl
theorem g_899 : Cond.methodLink RL 141 yX7_count ∈ gt := gt_of (List.mem_of_getElem? (i := 1164) (by decide +kernel)) rfl
theorem g_900 : Cond.instanceMethod yX7_count ∈ gt := gt_of (List.mem_of_getElem? (i := 1165) (by decide +kernel)) rfl
theorem g_901 : Cond.selects RX7 yX7_count yX7_count ∈ gt := gt_of (List.mem_of_getElem? (i := 1166) (by decide +kernel)) rfl
theorem g_902 : Cond.code yX7_count cX7_count 4 (some .int) ∈ gt := gt_of (List.mem_of_getElem? (i := 1167) (by decide +kernel)) rfl
theorem g_903 : Cond.methodLink RL 142 yX6_status ∈ gt := gt_of (List.mem_of_getElem? (i := 773) (by decide +kernel)) rfl
theorem g_904 : Cond.instanceMethod yX6_status ∈ gt := gt_of (List.mem_of_getElem? (i := 774) (by decide +kernel)) rfl
theorem g_905 : Cond.selects RX6 yX6_status yX6_status ∈ gt := gt_of (List.mem_of_getElem? (i := 775) (by decide +kernel)) rfl
theorem g_906 : Cond.code yX6_status cX6_status 1 (some .int) ∈ gt := gt_of (List.mem_of_getElem? (i := 776) (by decide +kernel)) rfl
theorem g_907 : Cond.methodLink RL 145 yX7_status ∈ gt := gt_of (List.mem_of_getElem? (i := 1168) (by decide +kernel)) rfl
theorem g_908 : Cond.instanceMethod yX7_status ∈ gt := gt_of (List.mem_of_getElem? (i := 1169) (by decide +kernel)) rfl
theorem g_909 : Cond.selects RX7 yX7_status yX7_status ∈ gt := gt_of (List.mem_of_getElem? (i := 1170) (by decide +kernel)) rfl
theorem g_910 : Cond.code yX7_status cX7_status 1 (some .int) ∈ gt := gt_of (List.mem_of_getElem? (i := 1171) (by decide +kernel)) rfl
theorem wv_P_row : WV yX6_row cX6_row 4 (some .int) 3 := ⟨g_656, g_657, g_2, g_658, by decide +kernel⟩
theorem wv_M_row : WV yX7_row cX7_row 5 (some .int) 3 := ⟨g_660, g_661, g_449, g_662, by decide +kernel⟩
theorem wv_P_set : WV yX6_set cX6_set 4 (some .int) 3 := ⟨g_664, g_665, g_2, g_666, by decide +kernel⟩
theorem wv_M_set : WV yX7_set cX7_set 4 (some .int) 3 := ⟨g_668, g_669, g_449, g_670, by decide +kernel⟩
theorem wv_P_copy : WV yX6_copy cX6_copy 6 (some .int) 5 := ⟨g_672, g_673, g_2, g_674, by decide +kernel⟩
theorem wv_M_copy : WV yX7_copy cX7_copy 7 (some .int) 5 := ⟨g_676, g_677, g_449, g_678, by decide +kernel⟩
theorem wv_P_drop : WV yX6_drop cX6_drop 2 (some .int) 1 := ⟨g_680, g_681, g_2, g_682, by decide +kernel⟩
theorem wv_M_drop : WV yX7_drop cX7_drop 2 (some .int) 1 := ⟨g_684, g_685, g_449, g_686, by decide +kernel⟩
theorem wv_P_feed : WV yX6_feed cX6_feed 2 (some .int) 1 := ⟨g_688, g_689, g_2, g_690, by decide +kernel⟩
theorem wv_M_feed : WV yX7_feed cX7_feed 2 (some .int) 1 := ⟨g_692, g_693, g_449, g_694, by decide +kernel⟩
theorem wv_P_map : WV yX6_map cX6_map 2 (some .int) 0 := ⟨g_696, g_697, g_2, g_698, by decide +kernel⟩
theorem wv_M_map : WV yX7_map cX7_map 2 (some .int) 0 := ⟨g_700, g_701, g_449, g_702, by decide +kernel⟩
theorem wv_P_fault : WV yX6_fault cX6_fault 1 (some .int) 0 := ⟨g_704, g_705, g_2, g_706, by decide +kernel⟩
theorem wv_M_fault : WV yX7_fault cX7_fault 1 (some .int) 0 := ⟨g_708, g_709, g_449, g_710, by decide +kernel⟩
theorem wv_P_times : WV yX6_times cX6_times 3 (some .int) 1 := ⟨g_712, g_713, g_2, g_714, by decide +kernel⟩
theorem wv_M_times : WV yX7_times cX7_times 3 (some .int) 1 := ⟨g_716, g_717, g_449, g_718, by decide +kernel⟩
theorem wv_P_move : WV yX6_move cX6_move 4 (some .int) 2 := ⟨g_720, g_721, g_2, g_722, by decide +kernel⟩
theorem wv_M_move : WV yX7_move cX7_move 4 (some .int) 2 := ⟨g_724, g_725, g_449, g_726, by decide +kernel⟩
theorem wv_P_swap : WV yX6_swap cX6_swap 3 (some .int) 2 := ⟨g_728, g_729, g_2, g_730, by decide +kernel⟩
theorem wv_M_swap : WV yX7_swap cX7_swap 4 (some .int) 2 := ⟨g_732, g_733, g_449, g_734, by decide +kernel⟩
theorem wv_P_work : WV yX6_work cX6_work 4 (some .int) 2 := ⟨g_736, g_737, g_2, g_738, by decide +kernel⟩
theorem wv_M_work : WV yX7_work cX7_work 4 (some .int) 2 := ⟨g_740, g_741, g_449, g_742, by decide +kernel⟩
theorem wv_P_slip : WV yX6_slip cX6_slip 3 (some .int) 1 := ⟨g_744, g_745, g_2, g_746, by decide +kernel⟩
theorem wv_M_slip : WV yX7_slip cX7_slip 3 (some .int) 1 := ⟨g_748, g_749, g_449, g_750, by decide +kernel⟩
theorem wv_P_undo : WV yX6_undo cX6_undo 1 (some .int) 0 := ⟨g_752, g_753, g_2, g_754, by decide +kernel⟩
theorem wv_M_undo : WV yX7_undo cX7_undo 1 (some .int) 0 := ⟨g_756, g_757, g_449, g_758, by decide +kernel⟩
theorem wv_P_pin : WV yX6_pin cX6_pin 3 (some .int) 2 := ⟨g_760, g_761, g_2, g_762, by decide +kernel⟩
theorem wv_M_pin : WV yX7_pin cX7_pin 3 (some .int) 2 := ⟨g_764, g_765, g_449, g_766, by decide +kernel⟩
theorem wv_P_cell : WV yX6_cell cX6_cell 3 (some .int) 2 := ⟨g_768, g_769, g_2, g_770, by decide +kernel⟩
theorem wv_M_cell : WV yX7_cell cX7_cell 3 (some .int) 2 := ⟨g_772, g_773, g_449, g_774, by decide +kernel⟩
theorem wv_P_ahead : WV yX6_ahead cX6_ahead 3 (some .int) 2 := ⟨g_776, g_777, g_2, g_778, by decide +kernel⟩
theorem wv_M_ahead : WV yX7_ahead cX7_ahead 3 (some .int) 2 := ⟨g_780, g_781, g_449, g_782, by decide +kernel⟩
theorem wv_P_earned : WV yX6_earned cX6_earned 2 (some .int) 1 := ⟨g_784, g_785, g_2, g_786, by decide +kernel⟩
theorem wv_M_earned : WV yX7_earned cX7_earned 2 (some .int) 1 := ⟨g_788, g_789, g_449, g_790, by decide +kernel⟩
theorem wv_P_tomsk : WV yX6_tomsk cX6_tomsk 3 (some .int) 2 := ⟨g_792, g_793, g_2, g_794, by decide +kernel⟩
theorem wv_M_tomsk : WV yX7_tomsk cX7_tomsk 4 (some .int) 2 := ⟨g_796, g_797, g_449, g_798, by decide +kernel⟩
theorem wv_P_round : WV yX6_round cX6_round 1 (some .int) 0 := ⟨g_800, g_801, g_2, g_802, by decide +kernel⟩
theorem wv_M_round : WV yX7_round cX7_round 4 (some .int) 0 := ⟨g_804, g_805, g_449, g_806, by decide +kernel⟩
theorem wv_P_right : WV yX6_right cX6_right 2 (some .int) 1 := ⟨g_808, g_809, g_2, g_810, by decide +kernel⟩
theorem wv_M_right : WV yX7_right cX7_right 2 (some .int) 1 := ⟨g_812, g_813, g_449, g_814, by decide +kernel⟩
theorem wv_P_best : WV yX6_best cX6_best 2 (some .int) 1 := ⟨g_816, g_817, g_2, g_818, by decide +kernel⟩
theorem wv_M_best : WV yX7_best cX7_best 7 (some .int) 1 := ⟨g_820, g_821, g_449, g_822, by decide +kernel⟩
theorem wv_P_fits : WV yX6_fits cX6_fits 7 (some .int) 5 := ⟨g_824, g_825, g_2, g_826, by decide +kernel⟩
theorem wv_M_fits : WV yX7_fits cX7_fits 8 (some .int) 5 := ⟨g_828, g_829, g_449, g_830, by decide +kernel⟩
theorem wv_P_left : WV yX6_left cX6_left 4 (some .int) 3 := ⟨g_832, g_833, g_2, g_834, by decide +kernel⟩
theorem wv_M_left : WV yX7_left cX7_left 10 (some .int) 3 := ⟨g_836, g_837, g_449, g_838, by decide +kernel⟩
theorem wv_P_drawn : WV yX6_drawn cX6_drawn 4 (some .int) 3 := ⟨g_840, g_841, g_2, g_842, by decide +kernel⟩
theorem wv_M_drawn : WV yX7_drawn cX7_drawn 7 (some .int) 3 := ⟨g_844, g_845, g_449, g_846, by decide +kernel⟩
theorem wv_P_image : WV yX6_image cX6_image 2 (some .int) 1 := ⟨g_848, g_849, g_2, g_850, by decide +kernel⟩
theorem wv_M_image : WV yX7_image cX7_image 2 (some .int) 1 := ⟨g_852, g_853, g_449, g_854, by decide +kernel⟩
theorem wv_P_restore : WV yX6_restore cX6_restore 2 (some .int) 1 := ⟨g_856, g_857, g_2, g_858, by decide +kernel⟩
theorem wv_M_restore : WV yX7_restore cX7_restore 2 (some .int) 1 := ⟨g_860, g_861, g_449, g_862, by decide +kernel⟩
theorem wv_P_kind : WV yX6_kind cX6_kind 2 (some .int) 1 := ⟨g_864, g_865, g_2, g_866, by decide +kernel⟩
theorem wv_M_kind : WV yX7_kind cX7_kind 2 (some .int) 1 := ⟨g_868, g_869, g_449, g_870, by decide +kernel⟩
theorem wv_P_as : WV yX6_as cX6_as 3 (some .int) 2 := ⟨g_872, g_873, g_2, g_874, by decide +kernel⟩
theorem wv_M_as : WV yX7_as cX7_as 5 (some .int) 2 := ⟨g_876, g_877, g_449, g_878, by decide +kernel⟩
theorem wv_P_ask : WV yX6_ask cX6_ask 3 (some .int) 2 := ⟨g_880, g_881, g_2, g_882, by decide +kernel⟩
theorem wv_M_ask : WV yX7_ask cX7_ask 4 (some .int) 2 := ⟨g_884, g_885, g_449, g_886, by decide +kernel⟩
theorem wv_P_trace : WV yX6_trace cX6_trace 2 (some .int) 1 := ⟨g_888, g_889, g_2, g_890, by decide +kernel⟩
theorem wv_M_trace : WV yX7_trace cX7_trace 2 (some .int) 1 := ⟨g_892, g_893, g_449, g_894, by decide +kernel⟩
theorem wv_P_count : WV yX6_count cX6_count 2 (some .int) 1 := ⟨g_896, g_897, g_2, g_898, by decide +kernel⟩
theorem wv_M_count : WV yX7_count cX7_count 4 (some .int) 1 := ⟨g_900, g_901, g_449, g_902, by decide +kernel⟩
theorem wv_P_status : WV yX6_status cX6_status 1 (some .int) 0 := ⟨g_904, g_905, g_2, g_906, by decide +kernel⟩
theorem wv_M_status : WV yX7_status cX7_status 1 (some .int) 0 := ⟨g_908, g_909, g_449, g_910, by decide +kernel⟩
theorem bp_31 : (Int8.ofInt 31).toInt32 = (31 : Int32) := by decide
theorem e_law_0 : dec cL_law 0 (.new 7) 3 3 := ⟨by decide +kernel, rfl⟩
theorem e_law_3 : dec cL_law 3 (.dup) 1 4 := ⟨by decide +kernel, rfl⟩
theorem e_law_4 : dec cL_law 4 (.invokespecial 9) 3 7 := ⟨by decide +kernel, rfl⟩
theorem e_law_7 : dec cL_law 7 (.astore_n 1) 1 8 := ⟨by decide +kernel, rfl⟩
theorem e_law_8 : dec cL_law 8 (.new 10) 3 11 := ⟨by decide +kernel, rfl⟩
theorem e_law_11 : dec cL_law 11 (.dup) 1 12 := ⟨by decide +kernel, rfl⟩
theorem e_law_12 : dec cL_law 12 (.invokespecial 12) 3 15 := ⟨by decide +kernel, rfl⟩
theorem e_law_15 : dec cL_law 15 (.astore_n 2) 1 16 := ⟨by decide +kernel, rfl⟩
theorem e_law_16 : dec cL_law 16 (.iconst 0) 1 17 := ⟨by decide +kernel, rfl⟩
theorem e_law_17 : dec cL_law 17 (.istore_n 3) 1 18 := ⟨by decide +kernel, rfl⟩
theorem e_law_18 : dec cL_law 18 (.iload_n 3) 1 19 := ⟨by decide +kernel, rfl⟩
theorem e_law_19 : dec cL_law 19 (.aload_n 0) 1 20 := ⟨by decide +kernel, rfl⟩
theorem e_law_20 : dec cL_law 20 (.arraylength) 1 21 := ⟨by decide +kernel, rfl⟩
theorem e_law_21 : dec cL_law 21 (.bipush 6) 2 23 := ⟨by decide +kernel, rfl⟩
theorem e_law_23 : dec cL_law 23 (.isub) 1 24 := ⟨by decide +kernel, rfl⟩
theorem e_law_24 : dec cL_law 24 (.if_icmp .gt 1094) 3 27 := ⟨by decide +kernel, rfl⟩
theorem e_law_27 : dec cL_law 27 (.aload_n 0) 1 28 := ⟨by decide +kernel, rfl⟩
theorem e_law_28 : dec cL_law 28 (.iload_n 3) 1 29 := ⟨by decide +kernel, rfl⟩
theorem e_law_29 : dec cL_law 29 (.iaload) 1 30 := ⟨by decide +kernel, rfl⟩
theorem e_law_30 : dec cL_law 30 (.bipush 31) 2 32 := ⟨by decide +kernel, rfl⟩
theorem e_law_32 : dec cL_law 32 (.iand) 1 33 := ⟨by decide +kernel, rfl⟩
theorem e_law_33 : dec cL_law 33 (.tableswitch 1079 0 31 #[143, 186, 229, 292, 315, 338, 351, 364, 387, 420, 453, 486, 509, 522, 555, 588, 621, 644, 677, 690, 713, 736, 799, 842, 885, 908, 931, 954, 987, 1020, 1043, 1066]) 143 176 := ⟨by decide +kernel, rfl⟩
theorem e_law_176 : dec cL_law 176 (.aload_n 1) 1 177 := ⟨by decide +kernel, rfl⟩
theorem e_law_177 : dec cL_law 177 (.aload_n 0) 1 178 := ⟨by decide +kernel, rfl⟩
theorem e_law_178 : dec cL_law 178 (.iload_n 3) 1 179 := ⟨by decide +kernel, rfl⟩
theorem e_law_179 : dec cL_law 179 (.iconst 1) 1 180 := ⟨by decide +kernel, rfl⟩
theorem e_law_180 : dec cL_law 180 (.iadd) 1 181 := ⟨by decide +kernel, rfl⟩
theorem e_law_181 : dec cL_law 181 (.iaload) 1 182 := ⟨by decide +kernel, rfl⟩
theorem e_law_182 : dec cL_law 182 (.aload_n 0) 1 183 := ⟨by decide +kernel, rfl⟩
theorem e_law_183 : dec cL_law 183 (.iload_n 3) 1 184 := ⟨by decide +kernel, rfl⟩
theorem e_law_184 : dec cL_law 184 (.iconst 2) 1 185 := ⟨by decide +kernel, rfl⟩
theorem e_law_185 : dec cL_law 185 (.iadd) 1 186 := ⟨by decide +kernel, rfl⟩
theorem e_law_186 : dec cL_law 186 (.iaload) 1 187 := ⟨by decide +kernel, rfl⟩
theorem e_law_187 : dec cL_law 187 (.aload_n 0) 1 188 := ⟨by decide +kernel, rfl⟩
theorem e_law_188 : dec cL_law 188 (.iload_n 3) 1 189 := ⟨by decide +kernel, rfl⟩
theorem e_law_189 : dec cL_law 189 (.iconst 3) 1 190 := ⟨by decide +kernel, rfl⟩
theorem e_law_190 : dec cL_law 190 (.iadd) 1 191 := ⟨by decide +kernel, rfl⟩
theorem e_law_191 : dec cL_law 191 (.iaload) 1 192 := ⟨by decide +kernel, rfl⟩
theorem e_law_192 : dec cL_law 192 (.invokevirtual 13) 3 195 := ⟨by decide +kernel, rfl⟩
theorem e_law_195 : dec cL_law 195 (.aload_n 2) 1 196 := ⟨by decide +kernel, rfl⟩
theorem e_law_196 : dec cL_law 196 (.aload_n 0) 1 197 := ⟨by decide +kernel, rfl⟩
theorem e_law_197 : dec cL_law 197 (.iload_n 3) 1 198 := ⟨by decide +kernel, rfl⟩
theorem e_law_198 : dec cL_law 198 (.iconst 1) 1 199 := ⟨by decide +kernel, rfl⟩
theorem e_law_199 : dec cL_law 199 (.iadd) 1 200 := ⟨by decide +kernel, rfl⟩
theorem e_law_200 : dec cL_law 200 (.iaload) 1 201 := ⟨by decide +kernel, rfl⟩
theorem e_law_201 : dec cL_law 201 (.aload_n 0) 1 202 := ⟨by decide +kernel, rfl⟩
theorem e_law_202 : dec cL_law 202 (.iload_n 3) 1 203 := ⟨by decide +kernel, rfl⟩
theorem e_law_203 : dec cL_law 203 (.iconst 2) 1 204 := ⟨by decide +kernel, rfl⟩
theorem e_law_204 : dec cL_law 204 (.iadd) 1 205 := ⟨by decide +kernel, rfl⟩
theorem e_law_205 : dec cL_law 205 (.iaload) 1 206 := ⟨by decide +kernel, rfl⟩
theorem e_law_206 : dec cL_law 206 (.aload_n 0) 1 207 := ⟨by decide +kernel, rfl⟩
theorem e_law_207 : dec cL_law 207 (.iload_n 3) 1 208 := ⟨by decide +kernel, rfl⟩
theorem e_law_208 : dec cL_law 208 (.iconst 3) 1 209 := ⟨by decide +kernel, rfl⟩
theorem e_law_209 : dec cL_law 209 (.iadd) 1 210 := ⟨by decide +kernel, rfl⟩
theorem e_law_210 : dec cL_law 210 (.iaload) 1 211 := ⟨by decide +kernel, rfl⟩
theorem e_law_211 : dec cL_law 211 (.invokevirtual 17) 3 214 := ⟨by decide +kernel, rfl⟩
theorem e_law_214 : dec cL_law 214 (.if_icmp .eq 898) 3 217 := ⟨by decide +kernel, rfl⟩
theorem e_law_219 : dec cL_law 219 (.aload_n 1) 1 220 := ⟨by decide +kernel, rfl⟩
theorem e_law_220 : dec cL_law 220 (.aload_n 0) 1 221 := ⟨by decide +kernel, rfl⟩
theorem e_law_221 : dec cL_law 221 (.iload_n 3) 1 222 := ⟨by decide +kernel, rfl⟩
theorem e_law_222 : dec cL_law 222 (.iconst 1) 1 223 := ⟨by decide +kernel, rfl⟩
theorem e_law_223 : dec cL_law 223 (.iadd) 1 224 := ⟨by decide +kernel, rfl⟩
theorem e_law_224 : dec cL_law 224 (.iaload) 1 225 := ⟨by decide +kernel, rfl⟩
theorem e_law_225 : dec cL_law 225 (.aload_n 0) 1 226 := ⟨by decide +kernel, rfl⟩
theorem e_law_226 : dec cL_law 226 (.iload_n 3) 1 227 := ⟨by decide +kernel, rfl⟩
theorem e_law_227 : dec cL_law 227 (.iconst 2) 1 228 := ⟨by decide +kernel, rfl⟩
theorem e_law_228 : dec cL_law 228 (.iadd) 1 229 := ⟨by decide +kernel, rfl⟩
theorem e_law_229 : dec cL_law 229 (.iaload) 1 230 := ⟨by decide +kernel, rfl⟩
theorem e_law_230 : dec cL_law 230 (.aload_n 0) 1 231 := ⟨by decide +kernel, rfl⟩
theorem e_law_231 : dec cL_law 231 (.iload_n 3) 1 232 := ⟨by decide +kernel, rfl⟩
theorem e_law_232 : dec cL_law 232 (.iconst 3) 1 233 := ⟨by decide +kernel, rfl⟩
theorem e_law_233 : dec cL_law 233 (.iadd) 1 234 := ⟨by decide +kernel, rfl⟩
theorem e_law_234 : dec cL_law 234 (.iaload) 1 235 := ⟨by decide +kernel, rfl⟩
theorem e_law_235 : dec cL_law 235 (.invokevirtual 18) 3 238 := ⟨by decide +kernel, rfl⟩
theorem e_law_238 : dec cL_law 238 (.aload_n 2) 1 239 := ⟨by decide +kernel, rfl⟩
theorem e_law_239 : dec cL_law 239 (.aload_n 0) 1 240 := ⟨by decide +kernel, rfl⟩
theorem e_law_240 : dec cL_law 240 (.iload_n 3) 1 241 := ⟨by decide +kernel, rfl⟩
theorem e_law_241 : dec cL_law 241 (.iconst 1) 1 242 := ⟨by decide +kernel, rfl⟩
theorem e_law_242 : dec cL_law 242 (.iadd) 1 243 := ⟨by decide +kernel, rfl⟩
theorem e_law_243 : dec cL_law 243 (.iaload) 1 244 := ⟨by decide +kernel, rfl⟩
theorem e_law_244 : dec cL_law 244 (.aload_n 0) 1 245 := ⟨by decide +kernel, rfl⟩
theorem e_law_245 : dec cL_law 245 (.iload_n 3) 1 246 := ⟨by decide +kernel, rfl⟩
theorem e_law_246 : dec cL_law 246 (.iconst 2) 1 247 := ⟨by decide +kernel, rfl⟩
theorem e_law_247 : dec cL_law 247 (.iadd) 1 248 := ⟨by decide +kernel, rfl⟩
theorem e_law_248 : dec cL_law 248 (.iaload) 1 249 := ⟨by decide +kernel, rfl⟩
theorem e_law_249 : dec cL_law 249 (.aload_n 0) 1 250 := ⟨by decide +kernel, rfl⟩
theorem e_law_250 : dec cL_law 250 (.iload_n 3) 1 251 := ⟨by decide +kernel, rfl⟩
theorem e_law_251 : dec cL_law 251 (.iconst 3) 1 252 := ⟨by decide +kernel, rfl⟩
theorem e_law_252 : dec cL_law 252 (.iadd) 1 253 := ⟨by decide +kernel, rfl⟩
theorem e_law_253 : dec cL_law 253 (.iaload) 1 254 := ⟨by decide +kernel, rfl⟩
theorem e_law_254 : dec cL_law 254 (.invokevirtual 21) 3 257 := ⟨by decide +kernel, rfl⟩
theorem e_law_257 : dec cL_law 257 (.if_icmp .eq 855) 3 260 := ⟨by decide +kernel, rfl⟩
theorem e_law_262 : dec cL_law 262 (.aload_n 1) 1 263 := ⟨by decide +kernel, rfl⟩
theorem e_law_263 : dec cL_law 263 (.aload_n 0) 1 264 := ⟨by decide +kernel, rfl⟩
theorem e_law_264 : dec cL_law 264 (.iload_n 3) 1 265 := ⟨by decide +kernel, rfl⟩
theorem e_law_265 : dec cL_law 265 (.iconst 1) 1 266 := ⟨by decide +kernel, rfl⟩
theorem e_law_266 : dec cL_law 266 (.iadd) 1 267 := ⟨by decide +kernel, rfl⟩
theorem e_law_267 : dec cL_law 267 (.iaload) 1 268 := ⟨by decide +kernel, rfl⟩
theorem e_law_268 : dec cL_law 268 (.aload_n 0) 1 269 := ⟨by decide +kernel, rfl⟩
theorem e_law_269 : dec cL_law 269 (.iload_n 3) 1 270 := ⟨by decide +kernel, rfl⟩
theorem e_law_270 : dec cL_law 270 (.iconst 2) 1 271 := ⟨by decide +kernel, rfl⟩
theorem e_law_271 : dec cL_law 271 (.iadd) 1 272 := ⟨by decide +kernel, rfl⟩
theorem e_law_272 : dec cL_law 272 (.iaload) 1 273 := ⟨by decide +kernel, rfl⟩
theorem e_law_273 : dec cL_law 273 (.aload_n 0) 1 274 := ⟨by decide +kernel, rfl⟩
theorem e_law_274 : dec cL_law 274 (.iload_n 3) 1 275 := ⟨by decide +kernel, rfl⟩
theorem e_law_275 : dec cL_law 275 (.iconst 3) 1 276 := ⟨by decide +kernel, rfl⟩
theorem e_law_276 : dec cL_law 276 (.iadd) 1 277 := ⟨by decide +kernel, rfl⟩
theorem e_law_277 : dec cL_law 277 (.iaload) 1 278 := ⟨by decide +kernel, rfl⟩
theorem e_law_278 : dec cL_law 278 (.aload_n 0) 1 279 := ⟨by decide +kernel, rfl⟩
theorem e_law_279 : dec cL_law 279 (.iload_n 3) 1 280 := ⟨by decide +kernel, rfl⟩
theorem e_law_280 : dec cL_law 280 (.iconst 4) 1 281 := ⟨by decide +kernel, rfl⟩
theorem e_law_281 : dec cL_law 281 (.iadd) 1 282 := ⟨by decide +kernel, rfl⟩
theorem e_law_282 : dec cL_law 282 (.iaload) 1 283 := ⟨by decide +kernel, rfl⟩
theorem e_law_283 : dec cL_law 283 (.aload_n 0) 1 284 := ⟨by decide +kernel, rfl⟩
theorem e_law_284 : dec cL_law 284 (.iload_n 3) 1 285 := ⟨by decide +kernel, rfl⟩
theorem e_law_285 : dec cL_law 285 (.iconst 5) 1 286 := ⟨by decide +kernel, rfl⟩
theorem e_law_286 : dec cL_law 286 (.iadd) 1 287 := ⟨by decide +kernel, rfl⟩
theorem e_law_287 : dec cL_law 287 (.iaload) 1 288 := ⟨by decide +kernel, rfl⟩
theorem e_law_288 : dec cL_law 288 (.invokevirtual 22) 3 291 := ⟨by decide +kernel, rfl⟩
theorem e_law_291 : dec cL_law 291 (.aload_n 2) 1 292 := ⟨by decide +kernel, rfl⟩
theorem e_law_292 : dec cL_law 292 (.aload_n 0) 1 293 := ⟨by decide +kernel, rfl⟩
theorem e_law_293 : dec cL_law 293 (.iload_n 3) 1 294 := ⟨by decide +kernel, rfl⟩
theorem e_law_294 : dec cL_law 294 (.iconst 1) 1 295 := ⟨by decide +kernel, rfl⟩
theorem e_law_295 : dec cL_law 295 (.iadd) 1 296 := ⟨by decide +kernel, rfl⟩
theorem e_law_296 : dec cL_law 296 (.iaload) 1 297 := ⟨by decide +kernel, rfl⟩
theorem e_law_297 : dec cL_law 297 (.aload_n 0) 1 298 := ⟨by decide +kernel, rfl⟩
theorem e_law_298 : dec cL_law 298 (.iload_n 3) 1 299 := ⟨by decide +kernel, rfl⟩
theorem e_law_299 : dec cL_law 299 (.iconst 2) 1 300 := ⟨by decide +kernel, rfl⟩
theorem e_law_300 : dec cL_law 300 (.iadd) 1 301 := ⟨by decide +kernel, rfl⟩
theorem e_law_301 : dec cL_law 301 (.iaload) 1 302 := ⟨by decide +kernel, rfl⟩
theorem e_law_302 : dec cL_law 302 (.aload_n 0) 1 303 := ⟨by decide +kernel, rfl⟩
theorem e_law_303 : dec cL_law 303 (.iload_n 3) 1 304 := ⟨by decide +kernel, rfl⟩
theorem e_law_304 : dec cL_law 304 (.iconst 3) 1 305 := ⟨by decide +kernel, rfl⟩
theorem e_law_305 : dec cL_law 305 (.iadd) 1 306 := ⟨by decide +kernel, rfl⟩
theorem e_law_306 : dec cL_law 306 (.iaload) 1 307 := ⟨by decide +kernel, rfl⟩
theorem e_law_307 : dec cL_law 307 (.aload_n 0) 1 308 := ⟨by decide +kernel, rfl⟩
theorem e_law_308 : dec cL_law 308 (.iload_n 3) 1 309 := ⟨by decide +kernel, rfl⟩
theorem e_law_309 : dec cL_law 309 (.iconst 4) 1 310 := ⟨by decide +kernel, rfl⟩
theorem e_law_310 : dec cL_law 310 (.iadd) 1 311 := ⟨by decide +kernel, rfl⟩
theorem e_law_311 : dec cL_law 311 (.iaload) 1 312 := ⟨by decide +kernel, rfl⟩
theorem e_law_312 : dec cL_law 312 (.aload_n 0) 1 313 := ⟨by decide +kernel, rfl⟩
theorem e_law_313 : dec cL_law 313 (.iload_n 3) 1 314 := ⟨by decide +kernel, rfl⟩
theorem e_law_314 : dec cL_law 314 (.iconst 5) 1 315 := ⟨by decide +kernel, rfl⟩
theorem e_law_315 : dec cL_law 315 (.iadd) 1 316 := ⟨by decide +kernel, rfl⟩
theorem e_law_316 : dec cL_law 316 (.iaload) 1 317 := ⟨by decide +kernel, rfl⟩
theorem e_law_317 : dec cL_law 317 (.invokevirtual 26) 3 320 := ⟨by decide +kernel, rfl⟩
theorem e_law_320 : dec cL_law 320 (.if_icmp .eq 792) 3 323 := ⟨by decide +kernel, rfl⟩
theorem e_law_325 : dec cL_law 325 (.aload_n 1) 1 326 := ⟨by decide +kernel, rfl⟩
theorem e_law_326 : dec cL_law 326 (.aload_n 0) 1 327 := ⟨by decide +kernel, rfl⟩
theorem e_law_327 : dec cL_law 327 (.iload_n 3) 1 328 := ⟨by decide +kernel, rfl⟩
theorem e_law_328 : dec cL_law 328 (.iconst 1) 1 329 := ⟨by decide +kernel, rfl⟩
theorem e_law_329 : dec cL_law 329 (.iadd) 1 330 := ⟨by decide +kernel, rfl⟩
theorem e_law_330 : dec cL_law 330 (.iaload) 1 331 := ⟨by decide +kernel, rfl⟩
theorem e_law_331 : dec cL_law 331 (.invokevirtual 27) 3 334 := ⟨by decide +kernel, rfl⟩
theorem e_law_334 : dec cL_law 334 (.aload_n 2) 1 335 := ⟨by decide +kernel, rfl⟩
theorem e_law_335 : dec cL_law 335 (.aload_n 0) 1 336 := ⟨by decide +kernel, rfl⟩
theorem e_law_336 : dec cL_law 336 (.iload_n 3) 1 337 := ⟨by decide +kernel, rfl⟩
theorem e_law_337 : dec cL_law 337 (.iconst 1) 1 338 := ⟨by decide +kernel, rfl⟩
theorem e_law_338 : dec cL_law 338 (.iadd) 1 339 := ⟨by decide +kernel, rfl⟩
theorem e_law_339 : dec cL_law 339 (.iaload) 1 340 := ⟨by decide +kernel, rfl⟩
theorem e_law_340 : dec cL_law 340 (.invokevirtual 31) 3 343 := ⟨by decide +kernel, rfl⟩
theorem e_law_343 : dec cL_law 343 (.if_icmp .eq 769) 3 346 := ⟨by decide +kernel, rfl⟩
theorem e_law_348 : dec cL_law 348 (.aload_n 1) 1 349 := ⟨by decide +kernel, rfl⟩
theorem e_law_349 : dec cL_law 349 (.aload_n 0) 1 350 := ⟨by decide +kernel, rfl⟩
theorem e_law_350 : dec cL_law 350 (.iload_n 3) 1 351 := ⟨by decide +kernel, rfl⟩
theorem e_law_351 : dec cL_law 351 (.iconst 1) 1 352 := ⟨by decide +kernel, rfl⟩
theorem e_law_352 : dec cL_law 352 (.iadd) 1 353 := ⟨by decide +kernel, rfl⟩
theorem e_law_353 : dec cL_law 353 (.iaload) 1 354 := ⟨by decide +kernel, rfl⟩
theorem e_law_354 : dec cL_law 354 (.invokevirtual 32) 3 357 := ⟨by decide +kernel, rfl⟩
theorem e_law_357 : dec cL_law 357 (.aload_n 2) 1 358 := ⟨by decide +kernel, rfl⟩
theorem e_law_358 : dec cL_law 358 (.aload_n 0) 1 359 := ⟨by decide +kernel, rfl⟩
theorem e_law_359 : dec cL_law 359 (.iload_n 3) 1 360 := ⟨by decide +kernel, rfl⟩
theorem e_law_360 : dec cL_law 360 (.iconst 1) 1 361 := ⟨by decide +kernel, rfl⟩
theorem e_law_361 : dec cL_law 361 (.iadd) 1 362 := ⟨by decide +kernel, rfl⟩
theorem e_law_362 : dec cL_law 362 (.iaload) 1 363 := ⟨by decide +kernel, rfl⟩
theorem e_law_363 : dec cL_law 363 (.invokevirtual 35) 3 366 := ⟨by decide +kernel, rfl⟩
theorem e_law_366 : dec cL_law 366 (.if_icmp .eq 746) 3 369 := ⟨by decide +kernel, rfl⟩
theorem e_law_371 : dec cL_law 371 (.aload_n 1) 1 372 := ⟨by decide +kernel, rfl⟩
theorem e_law_372 : dec cL_law 372 (.invokevirtual 36) 3 375 := ⟨by decide +kernel, rfl⟩
theorem e_law_375 : dec cL_law 375 (.aload_n 2) 1 376 := ⟨by decide +kernel, rfl⟩
theorem e_law_376 : dec cL_law 376 (.invokevirtual 40) 3 379 := ⟨by decide +kernel, rfl⟩
theorem e_law_379 : dec cL_law 379 (.if_icmp .eq 733) 3 382 := ⟨by decide +kernel, rfl⟩
theorem e_law_384 : dec cL_law 384 (.aload_n 1) 1 385 := ⟨by decide +kernel, rfl⟩
theorem e_law_385 : dec cL_law 385 (.invokevirtual 41) 3 388 := ⟨by decide +kernel, rfl⟩
theorem e_law_388 : dec cL_law 388 (.aload_n 2) 1 389 := ⟨by decide +kernel, rfl⟩
theorem e_law_389 : dec cL_law 389 (.invokevirtual 44) 3 392 := ⟨by decide +kernel, rfl⟩
theorem e_law_392 : dec cL_law 392 (.if_icmp .eq 720) 3 395 := ⟨by decide +kernel, rfl⟩
theorem e_law_397 : dec cL_law 397 (.aload_n 1) 1 398 := ⟨by decide +kernel, rfl⟩
theorem e_law_398 : dec cL_law 398 (.aload_n 0) 1 399 := ⟨by decide +kernel, rfl⟩
theorem e_law_399 : dec cL_law 399 (.iload_n 3) 1 400 := ⟨by decide +kernel, rfl⟩
theorem e_law_400 : dec cL_law 400 (.iconst 1) 1 401 := ⟨by decide +kernel, rfl⟩
theorem e_law_401 : dec cL_law 401 (.iadd) 1 402 := ⟨by decide +kernel, rfl⟩
theorem e_law_402 : dec cL_law 402 (.iaload) 1 403 := ⟨by decide +kernel, rfl⟩
theorem e_law_403 : dec cL_law 403 (.invokevirtual 45) 3 406 := ⟨by decide +kernel, rfl⟩
theorem e_law_406 : dec cL_law 406 (.aload_n 2) 1 407 := ⟨by decide +kernel, rfl⟩
theorem e_law_407 : dec cL_law 407 (.aload_n 0) 1 408 := ⟨by decide +kernel, rfl⟩
theorem e_law_408 : dec cL_law 408 (.iload_n 3) 1 409 := ⟨by decide +kernel, rfl⟩
theorem e_law_409 : dec cL_law 409 (.iconst 1) 1 410 := ⟨by decide +kernel, rfl⟩
theorem e_law_410 : dec cL_law 410 (.iadd) 1 411 := ⟨by decide +kernel, rfl⟩
theorem e_law_411 : dec cL_law 411 (.iaload) 1 412 := ⟨by decide +kernel, rfl⟩
theorem e_law_412 : dec cL_law 412 (.invokevirtual 48) 3 415 := ⟨by decide +kernel, rfl⟩
theorem e_law_415 : dec cL_law 415 (.if_icmp .eq 697) 3 418 := ⟨by decide +kernel, rfl⟩
theorem e_law_420 : dec cL_law 420 (.aload_n 1) 1 421 := ⟨by decide +kernel, rfl⟩
theorem e_law_421 : dec cL_law 421 (.aload_n 0) 1 422 := ⟨by decide +kernel, rfl⟩
theorem e_law_422 : dec cL_law 422 (.iload_n 3) 1 423 := ⟨by decide +kernel, rfl⟩
theorem e_law_423 : dec cL_law 423 (.iconst 1) 1 424 := ⟨by decide +kernel, rfl⟩
theorem e_law_424 : dec cL_law 424 (.iadd) 1 425 := ⟨by decide +kernel, rfl⟩
theorem e_law_425 : dec cL_law 425 (.iaload) 1 426 := ⟨by decide +kernel, rfl⟩
theorem e_law_426 : dec cL_law 426 (.aload_n 0) 1 427 := ⟨by decide +kernel, rfl⟩
theorem e_law_427 : dec cL_law 427 (.iload_n 3) 1 428 := ⟨by decide +kernel, rfl⟩
theorem e_law_428 : dec cL_law 428 (.iconst 2) 1 429 := ⟨by decide +kernel, rfl⟩
theorem e_law_429 : dec cL_law 429 (.iadd) 1 430 := ⟨by decide +kernel, rfl⟩
theorem e_law_430 : dec cL_law 430 (.iaload) 1 431 := ⟨by decide +kernel, rfl⟩
theorem e_law_431 : dec cL_law 431 (.invokevirtual 49) 3 434 := ⟨by decide +kernel, rfl⟩
theorem e_law_434 : dec cL_law 434 (.aload_n 2) 1 435 := ⟨by decide +kernel, rfl⟩
theorem e_law_435 : dec cL_law 435 (.aload_n 0) 1 436 := ⟨by decide +kernel, rfl⟩
theorem e_law_436 : dec cL_law 436 (.iload_n 3) 1 437 := ⟨by decide +kernel, rfl⟩
theorem e_law_437 : dec cL_law 437 (.iconst 1) 1 438 := ⟨by decide +kernel, rfl⟩
theorem e_law_438 : dec cL_law 438 (.iadd) 1 439 := ⟨by decide +kernel, rfl⟩
theorem e_law_439 : dec cL_law 439 (.iaload) 1 440 := ⟨by decide +kernel, rfl⟩
theorem e_law_440 : dec cL_law 440 (.aload_n 0) 1 441 := ⟨by decide +kernel, rfl⟩
theorem e_law_441 : dec cL_law 441 (.iload_n 3) 1 442 := ⟨by decide +kernel, rfl⟩
theorem e_law_442 : dec cL_law 442 (.iconst 2) 1 443 := ⟨by decide +kernel, rfl⟩
theorem e_law_443 : dec cL_law 443 (.iadd) 1 444 := ⟨by decide +kernel, rfl⟩
theorem e_law_444 : dec cL_law 444 (.iaload) 1 445 := ⟨by decide +kernel, rfl⟩
theorem e_law_445 : dec cL_law 445 (.invokevirtual 53) 3 448 := ⟨by decide +kernel, rfl⟩
theorem e_law_448 : dec cL_law 448 (.if_icmp .eq 664) 3 451 := ⟨by decide +kernel, rfl⟩
theorem e_law_453 : dec cL_law 453 (.aload_n 1) 1 454 := ⟨by decide +kernel, rfl⟩
theorem e_law_454 : dec cL_law 454 (.aload_n 0) 1 455 := ⟨by decide +kernel, rfl⟩
theorem e_law_455 : dec cL_law 455 (.iload_n 3) 1 456 := ⟨by decide +kernel, rfl⟩
theorem e_law_456 : dec cL_law 456 (.iconst 1) 1 457 := ⟨by decide +kernel, rfl⟩
theorem e_law_457 : dec cL_law 457 (.iadd) 1 458 := ⟨by decide +kernel, rfl⟩
theorem e_law_458 : dec cL_law 458 (.iaload) 1 459 := ⟨by decide +kernel, rfl⟩
theorem e_law_459 : dec cL_law 459 (.aload_n 0) 1 460 := ⟨by decide +kernel, rfl⟩
theorem e_law_460 : dec cL_law 460 (.iload_n 3) 1 461 := ⟨by decide +kernel, rfl⟩
theorem e_law_461 : dec cL_law 461 (.iconst 2) 1 462 := ⟨by decide +kernel, rfl⟩
theorem e_law_462 : dec cL_law 462 (.iadd) 1 463 := ⟨by decide +kernel, rfl⟩
theorem e_law_463 : dec cL_law 463 (.iaload) 1 464 := ⟨by decide +kernel, rfl⟩
theorem e_law_464 : dec cL_law 464 (.invokevirtual 54) 3 467 := ⟨by decide +kernel, rfl⟩
theorem e_law_467 : dec cL_law 467 (.aload_n 2) 1 468 := ⟨by decide +kernel, rfl⟩
theorem e_law_468 : dec cL_law 468 (.aload_n 0) 1 469 := ⟨by decide +kernel, rfl⟩
theorem e_law_469 : dec cL_law 469 (.iload_n 3) 1 470 := ⟨by decide +kernel, rfl⟩
theorem e_law_470 : dec cL_law 470 (.iconst 1) 1 471 := ⟨by decide +kernel, rfl⟩
theorem e_law_471 : dec cL_law 471 (.iadd) 1 472 := ⟨by decide +kernel, rfl⟩
theorem e_law_472 : dec cL_law 472 (.iaload) 1 473 := ⟨by decide +kernel, rfl⟩
theorem e_law_473 : dec cL_law 473 (.aload_n 0) 1 474 := ⟨by decide +kernel, rfl⟩
theorem e_law_474 : dec cL_law 474 (.iload_n 3) 1 475 := ⟨by decide +kernel, rfl⟩
theorem e_law_475 : dec cL_law 475 (.iconst 2) 1 476 := ⟨by decide +kernel, rfl⟩
theorem e_law_476 : dec cL_law 476 (.iadd) 1 477 := ⟨by decide +kernel, rfl⟩
theorem e_law_477 : dec cL_law 477 (.iaload) 1 478 := ⟨by decide +kernel, rfl⟩
theorem e_law_478 : dec cL_law 478 (.invokevirtual 57) 3 481 := ⟨by decide +kernel, rfl⟩
theorem e_law_481 : dec cL_law 481 (.if_icmp .eq 631) 3 484 := ⟨by decide +kernel, rfl⟩
theorem e_law_486 : dec cL_law 486 (.aload_n 1) 1 487 := ⟨by decide +kernel, rfl⟩
theorem e_law_487 : dec cL_law 487 (.aload_n 0) 1 488 := ⟨by decide +kernel, rfl⟩
theorem e_law_488 : dec cL_law 488 (.iload_n 3) 1 489 := ⟨by decide +kernel, rfl⟩
theorem e_law_489 : dec cL_law 489 (.iconst 1) 1 490 := ⟨by decide +kernel, rfl⟩
theorem e_law_490 : dec cL_law 490 (.iadd) 1 491 := ⟨by decide +kernel, rfl⟩
theorem e_law_491 : dec cL_law 491 (.iaload) 1 492 := ⟨by decide +kernel, rfl⟩
theorem e_law_492 : dec cL_law 492 (.aload_n 0) 1 493 := ⟨by decide +kernel, rfl⟩
theorem e_law_493 : dec cL_law 493 (.iload_n 3) 1 494 := ⟨by decide +kernel, rfl⟩
theorem e_law_494 : dec cL_law 494 (.iconst 2) 1 495 := ⟨by decide +kernel, rfl⟩
theorem e_law_495 : dec cL_law 495 (.iadd) 1 496 := ⟨by decide +kernel, rfl⟩
theorem e_law_496 : dec cL_law 496 (.iaload) 1 497 := ⟨by decide +kernel, rfl⟩
theorem e_law_497 : dec cL_law 497 (.invokevirtual 58) 3 500 := ⟨by decide +kernel, rfl⟩
theorem e_law_500 : dec cL_law 500 (.aload_n 2) 1 501 := ⟨by decide +kernel, rfl⟩
theorem e_law_501 : dec cL_law 501 (.aload_n 0) 1 502 := ⟨by decide +kernel, rfl⟩
theorem e_law_502 : dec cL_law 502 (.iload_n 3) 1 503 := ⟨by decide +kernel, rfl⟩
theorem e_law_503 : dec cL_law 503 (.iconst 1) 1 504 := ⟨by decide +kernel, rfl⟩
theorem e_law_504 : dec cL_law 504 (.iadd) 1 505 := ⟨by decide +kernel, rfl⟩
theorem e_law_505 : dec cL_law 505 (.iaload) 1 506 := ⟨by decide +kernel, rfl⟩
theorem e_law_506 : dec cL_law 506 (.aload_n 0) 1 507 := ⟨by decide +kernel, rfl⟩
theorem e_law_507 : dec cL_law 507 (.iload_n 3) 1 508 := ⟨by decide +kernel, rfl⟩
theorem e_law_508 : dec cL_law 508 (.iconst 2) 1 509 := ⟨by decide +kernel, rfl⟩
theorem e_law_509 : dec cL_law 509 (.iadd) 1 510 := ⟨by decide +kernel, rfl⟩
theorem e_law_510 : dec cL_law 510 (.iaload) 1 511 := ⟨by decide +kernel, rfl⟩
theorem e_law_511 : dec cL_law 511 (.invokevirtual 61) 3 514 := ⟨by decide +kernel, rfl⟩
theorem e_law_514 : dec cL_law 514 (.if_icmp .eq 598) 3 517 := ⟨by decide +kernel, rfl⟩
theorem e_law_519 : dec cL_law 519 (.aload_n 1) 1 520 := ⟨by decide +kernel, rfl⟩
theorem e_law_520 : dec cL_law 520 (.aload_n 0) 1 521 := ⟨by decide +kernel, rfl⟩
theorem e_law_521 : dec cL_law 521 (.iload_n 3) 1 522 := ⟨by decide +kernel, rfl⟩
theorem e_law_522 : dec cL_law 522 (.iconst 1) 1 523 := ⟨by decide +kernel, rfl⟩
theorem e_law_523 : dec cL_law 523 (.iadd) 1 524 := ⟨by decide +kernel, rfl⟩
theorem e_law_524 : dec cL_law 524 (.iaload) 1 525 := ⟨by decide +kernel, rfl⟩
theorem e_law_525 : dec cL_law 525 (.invokevirtual 62) 3 528 := ⟨by decide +kernel, rfl⟩
theorem e_law_528 : dec cL_law 528 (.aload_n 2) 1 529 := ⟨by decide +kernel, rfl⟩
theorem e_law_529 : dec cL_law 529 (.aload_n 0) 1 530 := ⟨by decide +kernel, rfl⟩
theorem e_law_530 : dec cL_law 530 (.iload_n 3) 1 531 := ⟨by decide +kernel, rfl⟩
theorem e_law_531 : dec cL_law 531 (.iconst 1) 1 532 := ⟨by decide +kernel, rfl⟩
theorem e_law_532 : dec cL_law 532 (.iadd) 1 533 := ⟨by decide +kernel, rfl⟩
theorem e_law_533 : dec cL_law 533 (.iaload) 1 534 := ⟨by decide +kernel, rfl⟩
theorem e_law_534 : dec cL_law 534 (.invokevirtual 65) 3 537 := ⟨by decide +kernel, rfl⟩
theorem e_law_537 : dec cL_law 537 (.if_icmp .eq 575) 3 540 := ⟨by decide +kernel, rfl⟩
theorem e_law_542 : dec cL_law 542 (.aload_n 1) 1 543 := ⟨by decide +kernel, rfl⟩
theorem e_law_543 : dec cL_law 543 (.invokevirtual 66) 3 546 := ⟨by decide +kernel, rfl⟩
theorem e_law_546 : dec cL_law 546 (.aload_n 2) 1 547 := ⟨by decide +kernel, rfl⟩
theorem e_law_547 : dec cL_law 547 (.invokevirtual 69) 3 550 := ⟨by decide +kernel, rfl⟩
theorem e_law_550 : dec cL_law 550 (.if_icmp .eq 562) 3 553 := ⟨by decide +kernel, rfl⟩
theorem e_law_555 : dec cL_law 555 (.aload_n 1) 1 556 := ⟨by decide +kernel, rfl⟩
theorem e_law_556 : dec cL_law 556 (.aload_n 0) 1 557 := ⟨by decide +kernel, rfl⟩
theorem e_law_557 : dec cL_law 557 (.iload_n 3) 1 558 := ⟨by decide +kernel, rfl⟩
theorem e_law_558 : dec cL_law 558 (.iconst 1) 1 559 := ⟨by decide +kernel, rfl⟩
theorem e_law_559 : dec cL_law 559 (.iadd) 1 560 := ⟨by decide +kernel, rfl⟩
theorem e_law_560 : dec cL_law 560 (.iaload) 1 561 := ⟨by decide +kernel, rfl⟩
theorem e_law_561 : dec cL_law 561 (.aload_n 0) 1 562 := ⟨by decide +kernel, rfl⟩
theorem e_law_562 : dec cL_law 562 (.iload_n 3) 1 563 := ⟨by decide +kernel, rfl⟩
theorem e_law_563 : dec cL_law 563 (.iconst 2) 1 564 := ⟨by decide +kernel, rfl⟩
theorem e_law_564 : dec cL_law 564 (.iadd) 1 565 := ⟨by decide +kernel, rfl⟩
theorem e_law_565 : dec cL_law 565 (.iaload) 1 566 := ⟨by decide +kernel, rfl⟩
theorem e_law_566 : dec cL_law 566 (.invokevirtual 70) 3 569 := ⟨by decide +kernel, rfl⟩
theorem e_law_569 : dec cL_law 569 (.aload_n 2) 1 570 := ⟨by decide +kernel, rfl⟩
theorem e_law_570 : dec cL_law 570 (.aload_n 0) 1 571 := ⟨by decide +kernel, rfl⟩
theorem e_law_571 : dec cL_law 571 (.iload_n 3) 1 572 := ⟨by decide +kernel, rfl⟩
theorem e_law_572 : dec cL_law 572 (.iconst 1) 1 573 := ⟨by decide +kernel, rfl⟩
theorem e_law_573 : dec cL_law 573 (.iadd) 1 574 := ⟨by decide +kernel, rfl⟩
theorem e_law_574 : dec cL_law 574 (.iaload) 1 575 := ⟨by decide +kernel, rfl⟩
theorem e_law_575 : dec cL_law 575 (.aload_n 0) 1 576 := ⟨by decide +kernel, rfl⟩
theorem e_law_576 : dec cL_law 576 (.iload_n 3) 1 577 := ⟨by decide +kernel, rfl⟩
theorem e_law_577 : dec cL_law 577 (.iconst 2) 1 578 := ⟨by decide +kernel, rfl⟩
theorem e_law_578 : dec cL_law 578 (.iadd) 1 579 := ⟨by decide +kernel, rfl⟩
theorem e_law_579 : dec cL_law 579 (.iaload) 1 580 := ⟨by decide +kernel, rfl⟩
theorem e_law_580 : dec cL_law 580 (.invokevirtual 73) 3 583 := ⟨by decide +kernel, rfl⟩
theorem e_law_583 : dec cL_law 583 (.if_icmp .eq 529) 3 586 := ⟨by decide +kernel, rfl⟩
theorem e_law_588 : dec cL_law 588 (.aload_n 1) 1 589 := ⟨by decide +kernel, rfl⟩
theorem e_law_589 : dec cL_law 589 (.aload_n 0) 1 590 := ⟨by decide +kernel, rfl⟩
theorem e_law_590 : dec cL_law 590 (.iload_n 3) 1 591 := ⟨by decide +kernel, rfl⟩
theorem e_law_591 : dec cL_law 591 (.iconst 1) 1 592 := ⟨by decide +kernel, rfl⟩
theorem e_law_592 : dec cL_law 592 (.iadd) 1 593 := ⟨by decide +kernel, rfl⟩
theorem e_law_593 : dec cL_law 593 (.iaload) 1 594 := ⟨by decide +kernel, rfl⟩
theorem e_law_594 : dec cL_law 594 (.aload_n 0) 1 595 := ⟨by decide +kernel, rfl⟩
theorem e_law_595 : dec cL_law 595 (.iload_n 3) 1 596 := ⟨by decide +kernel, rfl⟩
theorem e_law_596 : dec cL_law 596 (.iconst 2) 1 597 := ⟨by decide +kernel, rfl⟩
theorem e_law_597 : dec cL_law 597 (.iadd) 1 598 := ⟨by decide +kernel, rfl⟩
theorem e_law_598 : dec cL_law 598 (.iaload) 1 599 := ⟨by decide +kernel, rfl⟩
theorem e_law_599 : dec cL_law 599 (.invokevirtual 74) 3 602 := ⟨by decide +kernel, rfl⟩
theorem e_law_602 : dec cL_law 602 (.aload_n 2) 1 603 := ⟨by decide +kernel, rfl⟩
theorem e_law_603 : dec cL_law 603 (.aload_n 0) 1 604 := ⟨by decide +kernel, rfl⟩
theorem e_law_604 : dec cL_law 604 (.iload_n 3) 1 605 := ⟨by decide +kernel, rfl⟩
theorem e_law_605 : dec cL_law 605 (.iconst 1) 1 606 := ⟨by decide +kernel, rfl⟩
theorem e_law_606 : dec cL_law 606 (.iadd) 1 607 := ⟨by decide +kernel, rfl⟩
theorem e_law_607 : dec cL_law 607 (.iaload) 1 608 := ⟨by decide +kernel, rfl⟩
theorem e_law_608 : dec cL_law 608 (.aload_n 0) 1 609 := ⟨by decide +kernel, rfl⟩
theorem e_law_609 : dec cL_law 609 (.iload_n 3) 1 610 := ⟨by decide +kernel, rfl⟩
theorem e_law_610 : dec cL_law 610 (.iconst 2) 1 611 := ⟨by decide +kernel, rfl⟩
theorem e_law_611 : dec cL_law 611 (.iadd) 1 612 := ⟨by decide +kernel, rfl⟩
theorem e_law_612 : dec cL_law 612 (.iaload) 1 613 := ⟨by decide +kernel, rfl⟩
theorem e_law_613 : dec cL_law 613 (.invokevirtual 77) 3 616 := ⟨by decide +kernel, rfl⟩
theorem e_law_616 : dec cL_law 616 (.if_icmp .eq 496) 3 619 := ⟨by decide +kernel, rfl⟩
theorem e_law_621 : dec cL_law 621 (.aload_n 1) 1 622 := ⟨by decide +kernel, rfl⟩
theorem e_law_622 : dec cL_law 622 (.aload_n 0) 1 623 := ⟨by decide +kernel, rfl⟩
theorem e_law_623 : dec cL_law 623 (.iload_n 3) 1 624 := ⟨by decide +kernel, rfl⟩
theorem e_law_624 : dec cL_law 624 (.iconst 1) 1 625 := ⟨by decide +kernel, rfl⟩
theorem e_law_625 : dec cL_law 625 (.iadd) 1 626 := ⟨by decide +kernel, rfl⟩
theorem e_law_626 : dec cL_law 626 (.iaload) 1 627 := ⟨by decide +kernel, rfl⟩
theorem e_law_627 : dec cL_law 627 (.aload_n 0) 1 628 := ⟨by decide +kernel, rfl⟩
theorem e_law_628 : dec cL_law 628 (.iload_n 3) 1 629 := ⟨by decide +kernel, rfl⟩
theorem e_law_629 : dec cL_law 629 (.iconst 2) 1 630 := ⟨by decide +kernel, rfl⟩
theorem e_law_630 : dec cL_law 630 (.iadd) 1 631 := ⟨by decide +kernel, rfl⟩
theorem e_law_631 : dec cL_law 631 (.iaload) 1 632 := ⟨by decide +kernel, rfl⟩
theorem e_law_632 : dec cL_law 632 (.invokevirtual 78) 3 635 := ⟨by decide +kernel, rfl⟩
theorem e_law_635 : dec cL_law 635 (.aload_n 2) 1 636 := ⟨by decide +kernel, rfl⟩
theorem e_law_636 : dec cL_law 636 (.aload_n 0) 1 637 := ⟨by decide +kernel, rfl⟩
theorem e_law_637 : dec cL_law 637 (.iload_n 3) 1 638 := ⟨by decide +kernel, rfl⟩
theorem e_law_638 : dec cL_law 638 (.iconst 1) 1 639 := ⟨by decide +kernel, rfl⟩
theorem e_law_639 : dec cL_law 639 (.iadd) 1 640 := ⟨by decide +kernel, rfl⟩
theorem e_law_640 : dec cL_law 640 (.iaload) 1 641 := ⟨by decide +kernel, rfl⟩
theorem e_law_641 : dec cL_law 641 (.aload_n 0) 1 642 := ⟨by decide +kernel, rfl⟩
theorem e_law_642 : dec cL_law 642 (.iload_n 3) 1 643 := ⟨by decide +kernel, rfl⟩
theorem e_law_643 : dec cL_law 643 (.iconst 2) 1 644 := ⟨by decide +kernel, rfl⟩
theorem e_law_644 : dec cL_law 644 (.iadd) 1 645 := ⟨by decide +kernel, rfl⟩
theorem e_law_645 : dec cL_law 645 (.iaload) 1 646 := ⟨by decide +kernel, rfl⟩
theorem e_law_646 : dec cL_law 646 (.invokevirtual 81) 3 649 := ⟨by decide +kernel, rfl⟩
theorem e_law_649 : dec cL_law 649 (.if_icmp .eq 463) 3 652 := ⟨by decide +kernel, rfl⟩
theorem e_law_654 : dec cL_law 654 (.aload_n 1) 1 655 := ⟨by decide +kernel, rfl⟩
theorem e_law_655 : dec cL_law 655 (.aload_n 0) 1 656 := ⟨by decide +kernel, rfl⟩
theorem e_law_656 : dec cL_law 656 (.iload_n 3) 1 657 := ⟨by decide +kernel, rfl⟩
theorem e_law_657 : dec cL_law 657 (.iconst 1) 1 658 := ⟨by decide +kernel, rfl⟩
theorem e_law_658 : dec cL_law 658 (.iadd) 1 659 := ⟨by decide +kernel, rfl⟩
theorem e_law_659 : dec cL_law 659 (.iaload) 1 660 := ⟨by decide +kernel, rfl⟩
theorem e_law_660 : dec cL_law 660 (.invokevirtual 82) 3 663 := ⟨by decide +kernel, rfl⟩
theorem e_law_663 : dec cL_law 663 (.aload_n 2) 1 664 := ⟨by decide +kernel, rfl⟩
theorem e_law_664 : dec cL_law 664 (.aload_n 0) 1 665 := ⟨by decide +kernel, rfl⟩
theorem e_law_665 : dec cL_law 665 (.iload_n 3) 1 666 := ⟨by decide +kernel, rfl⟩
theorem e_law_666 : dec cL_law 666 (.iconst 1) 1 667 := ⟨by decide +kernel, rfl⟩
theorem e_law_667 : dec cL_law 667 (.iadd) 1 668 := ⟨by decide +kernel, rfl⟩
theorem e_law_668 : dec cL_law 668 (.iaload) 1 669 := ⟨by decide +kernel, rfl⟩
theorem e_law_669 : dec cL_law 669 (.invokevirtual 85) 3 672 := ⟨by decide +kernel, rfl⟩
theorem e_law_672 : dec cL_law 672 (.if_icmp .eq 440) 3 675 := ⟨by decide +kernel, rfl⟩
theorem e_law_677 : dec cL_law 677 (.aload_n 1) 1 678 := ⟨by decide +kernel, rfl⟩
theorem e_law_678 : dec cL_law 678 (.aload_n 0) 1 679 := ⟨by decide +kernel, rfl⟩
theorem e_law_679 : dec cL_law 679 (.iload_n 3) 1 680 := ⟨by decide +kernel, rfl⟩
theorem e_law_680 : dec cL_law 680 (.iconst 1) 1 681 := ⟨by decide +kernel, rfl⟩
theorem e_law_681 : dec cL_law 681 (.iadd) 1 682 := ⟨by decide +kernel, rfl⟩
theorem e_law_682 : dec cL_law 682 (.iaload) 1 683 := ⟨by decide +kernel, rfl⟩
theorem e_law_683 : dec cL_law 683 (.aload_n 0) 1 684 := ⟨by decide +kernel, rfl⟩
theorem e_law_684 : dec cL_law 684 (.iload_n 3) 1 685 := ⟨by decide +kernel, rfl⟩
theorem e_law_685 : dec cL_law 685 (.iconst 2) 1 686 := ⟨by decide +kernel, rfl⟩
theorem e_law_686 : dec cL_law 686 (.iadd) 1 687 := ⟨by decide +kernel, rfl⟩
theorem e_law_687 : dec cL_law 687 (.iaload) 1 688 := ⟨by decide +kernel, rfl⟩
theorem e_law_688 : dec cL_law 688 (.invokevirtual 86) 3 691 := ⟨by decide +kernel, rfl⟩
theorem e_law_691 : dec cL_law 691 (.aload_n 2) 1 692 := ⟨by decide +kernel, rfl⟩
theorem e_law_692 : dec cL_law 692 (.aload_n 0) 1 693 := ⟨by decide +kernel, rfl⟩
theorem e_law_693 : dec cL_law 693 (.iload_n 3) 1 694 := ⟨by decide +kernel, rfl⟩
theorem e_law_694 : dec cL_law 694 (.iconst 1) 1 695 := ⟨by decide +kernel, rfl⟩
theorem e_law_695 : dec cL_law 695 (.iadd) 1 696 := ⟨by decide +kernel, rfl⟩
theorem e_law_696 : dec cL_law 696 (.iaload) 1 697 := ⟨by decide +kernel, rfl⟩
theorem e_law_697 : dec cL_law 697 (.aload_n 0) 1 698 := ⟨by decide +kernel, rfl⟩
theorem e_law_698 : dec cL_law 698 (.iload_n 3) 1 699 := ⟨by decide +kernel, rfl⟩
theorem e_law_699 : dec cL_law 699 (.iconst 2) 1 700 := ⟨by decide +kernel, rfl⟩
theorem e_law_700 : dec cL_law 700 (.iadd) 1 701 := ⟨by decide +kernel, rfl⟩
theorem e_law_701 : dec cL_law 701 (.iaload) 1 702 := ⟨by decide +kernel, rfl⟩
theorem e_law_702 : dec cL_law 702 (.invokevirtual 89) 3 705 := ⟨by decide +kernel, rfl⟩
theorem e_law_705 : dec cL_law 705 (.if_icmp .eq 407) 3 708 := ⟨by decide +kernel, rfl⟩
theorem e_law_710 : dec cL_law 710 (.aload_n 1) 1 711 := ⟨by decide +kernel, rfl⟩
theorem e_law_711 : dec cL_law 711 (.invokevirtual 90) 3 714 := ⟨by decide +kernel, rfl⟩
theorem e_law_714 : dec cL_law 714 (.aload_n 2) 1 715 := ⟨by decide +kernel, rfl⟩
theorem e_law_715 : dec cL_law 715 (.invokevirtual 93) 3 718 := ⟨by decide +kernel, rfl⟩
theorem e_law_718 : dec cL_law 718 (.if_icmp .eq 394) 3 721 := ⟨by decide +kernel, rfl⟩
theorem e_law_723 : dec cL_law 723 (.aload_n 1) 1 724 := ⟨by decide +kernel, rfl⟩
theorem e_law_724 : dec cL_law 724 (.aload_n 0) 1 725 := ⟨by decide +kernel, rfl⟩
theorem e_law_725 : dec cL_law 725 (.iload_n 3) 1 726 := ⟨by decide +kernel, rfl⟩
theorem e_law_726 : dec cL_law 726 (.iconst 1) 1 727 := ⟨by decide +kernel, rfl⟩
theorem e_law_727 : dec cL_law 727 (.iadd) 1 728 := ⟨by decide +kernel, rfl⟩
theorem e_law_728 : dec cL_law 728 (.iaload) 1 729 := ⟨by decide +kernel, rfl⟩
theorem e_law_729 : dec cL_law 729 (.invokevirtual 94) 3 732 := ⟨by decide +kernel, rfl⟩
theorem e_law_732 : dec cL_law 732 (.aload_n 2) 1 733 := ⟨by decide +kernel, rfl⟩
theorem e_law_733 : dec cL_law 733 (.aload_n 0) 1 734 := ⟨by decide +kernel, rfl⟩
theorem e_law_734 : dec cL_law 734 (.iload_n 3) 1 735 := ⟨by decide +kernel, rfl⟩
theorem e_law_735 : dec cL_law 735 (.iconst 1) 1 736 := ⟨by decide +kernel, rfl⟩
theorem e_law_736 : dec cL_law 736 (.iadd) 1 737 := ⟨by decide +kernel, rfl⟩
theorem e_law_737 : dec cL_law 737 (.iaload) 1 738 := ⟨by decide +kernel, rfl⟩
theorem e_law_738 : dec cL_law 738 (.invokevirtual 97) 3 741 := ⟨by decide +kernel, rfl⟩
theorem e_law_741 : dec cL_law 741 (.if_icmp .eq 371) 3 744 := ⟨by decide +kernel, rfl⟩
theorem e_law_746 : dec cL_law 746 (.aload_n 1) 1 747 := ⟨by decide +kernel, rfl⟩
theorem e_law_747 : dec cL_law 747 (.aload_n 0) 1 748 := ⟨by decide +kernel, rfl⟩
theorem e_law_748 : dec cL_law 748 (.iload_n 3) 1 749 := ⟨by decide +kernel, rfl⟩
theorem e_law_749 : dec cL_law 749 (.iconst 1) 1 750 := ⟨by decide +kernel, rfl⟩
theorem e_law_750 : dec cL_law 750 (.iadd) 1 751 := ⟨by decide +kernel, rfl⟩
theorem e_law_751 : dec cL_law 751 (.iaload) 1 752 := ⟨by decide +kernel, rfl⟩
theorem e_law_752 : dec cL_law 752 (.invokevirtual 98) 3 755 := ⟨by decide +kernel, rfl⟩
theorem e_law_755 : dec cL_law 755 (.aload_n 2) 1 756 := ⟨by decide +kernel, rfl⟩
theorem e_law_756 : dec cL_law 756 (.aload_n 0) 1 757 := ⟨by decide +kernel, rfl⟩
theorem e_law_757 : dec cL_law 757 (.iload_n 3) 1 758 := ⟨by decide +kernel, rfl⟩
theorem e_law_758 : dec cL_law 758 (.iconst 1) 1 759 := ⟨by decide +kernel, rfl⟩
theorem e_law_759 : dec cL_law 759 (.iadd) 1 760 := ⟨by decide +kernel, rfl⟩
theorem e_law_760 : dec cL_law 760 (.iaload) 1 761 := ⟨by decide +kernel, rfl⟩
theorem e_law_761 : dec cL_law 761 (.invokevirtual 101) 3 764 := ⟨by decide +kernel, rfl⟩
theorem e_law_764 : dec cL_law 764 (.if_icmp .eq 348) 3 767 := ⟨by decide +kernel, rfl⟩
theorem e_law_769 : dec cL_law 769 (.aload_n 1) 1 770 := ⟨by decide +kernel, rfl⟩
theorem e_law_770 : dec cL_law 770 (.aload_n 0) 1 771 := ⟨by decide +kernel, rfl⟩
theorem e_law_771 : dec cL_law 771 (.iload_n 3) 1 772 := ⟨by decide +kernel, rfl⟩
theorem e_law_772 : dec cL_law 772 (.iconst 1) 1 773 := ⟨by decide +kernel, rfl⟩
theorem e_law_773 : dec cL_law 773 (.iadd) 1 774 := ⟨by decide +kernel, rfl⟩
theorem e_law_774 : dec cL_law 774 (.iaload) 1 775 := ⟨by decide +kernel, rfl⟩
theorem e_law_775 : dec cL_law 775 (.aload_n 0) 1 776 := ⟨by decide +kernel, rfl⟩
theorem e_law_776 : dec cL_law 776 (.iload_n 3) 1 777 := ⟨by decide +kernel, rfl⟩
theorem e_law_777 : dec cL_law 777 (.iconst 2) 1 778 := ⟨by decide +kernel, rfl⟩
theorem e_law_778 : dec cL_law 778 (.iadd) 1 779 := ⟨by decide +kernel, rfl⟩
theorem e_law_779 : dec cL_law 779 (.iaload) 1 780 := ⟨by decide +kernel, rfl⟩
theorem e_law_780 : dec cL_law 780 (.aload_n 0) 1 781 := ⟨by decide +kernel, rfl⟩
theorem e_law_781 : dec cL_law 781 (.iload_n 3) 1 782 := ⟨by decide +kernel, rfl⟩
theorem e_law_782 : dec cL_law 782 (.iconst 3) 1 783 := ⟨by decide +kernel, rfl⟩
theorem e_law_783 : dec cL_law 783 (.iadd) 1 784 := ⟨by decide +kernel, rfl⟩
theorem e_law_784 : dec cL_law 784 (.iaload) 1 785 := ⟨by decide +kernel, rfl⟩
theorem e_law_785 : dec cL_law 785 (.aload_n 0) 1 786 := ⟨by decide +kernel, rfl⟩
theorem e_law_786 : dec cL_law 786 (.iload_n 3) 1 787 := ⟨by decide +kernel, rfl⟩
theorem e_law_787 : dec cL_law 787 (.iconst 4) 1 788 := ⟨by decide +kernel, rfl⟩
theorem e_law_788 : dec cL_law 788 (.iadd) 1 789 := ⟨by decide +kernel, rfl⟩
theorem e_law_789 : dec cL_law 789 (.iaload) 1 790 := ⟨by decide +kernel, rfl⟩
theorem e_law_790 : dec cL_law 790 (.aload_n 0) 1 791 := ⟨by decide +kernel, rfl⟩
theorem e_law_791 : dec cL_law 791 (.iload_n 3) 1 792 := ⟨by decide +kernel, rfl⟩
theorem e_law_792 : dec cL_law 792 (.iconst 5) 1 793 := ⟨by decide +kernel, rfl⟩
theorem e_law_793 : dec cL_law 793 (.iadd) 1 794 := ⟨by decide +kernel, rfl⟩
theorem e_law_794 : dec cL_law 794 (.iaload) 1 795 := ⟨by decide +kernel, rfl⟩
theorem e_law_795 : dec cL_law 795 (.invokevirtual 102) 3 798 := ⟨by decide +kernel, rfl⟩
theorem e_law_798 : dec cL_law 798 (.aload_n 2) 1 799 := ⟨by decide +kernel, rfl⟩
theorem e_law_799 : dec cL_law 799 (.aload_n 0) 1 800 := ⟨by decide +kernel, rfl⟩
theorem e_law_800 : dec cL_law 800 (.iload_n 3) 1 801 := ⟨by decide +kernel, rfl⟩
theorem e_law_801 : dec cL_law 801 (.iconst 1) 1 802 := ⟨by decide +kernel, rfl⟩
theorem e_law_802 : dec cL_law 802 (.iadd) 1 803 := ⟨by decide +kernel, rfl⟩
theorem e_law_803 : dec cL_law 803 (.iaload) 1 804 := ⟨by decide +kernel, rfl⟩
theorem e_law_804 : dec cL_law 804 (.aload_n 0) 1 805 := ⟨by decide +kernel, rfl⟩
theorem e_law_805 : dec cL_law 805 (.iload_n 3) 1 806 := ⟨by decide +kernel, rfl⟩
theorem e_law_806 : dec cL_law 806 (.iconst 2) 1 807 := ⟨by decide +kernel, rfl⟩
theorem e_law_807 : dec cL_law 807 (.iadd) 1 808 := ⟨by decide +kernel, rfl⟩
theorem e_law_808 : dec cL_law 808 (.iaload) 1 809 := ⟨by decide +kernel, rfl⟩
theorem e_law_809 : dec cL_law 809 (.aload_n 0) 1 810 := ⟨by decide +kernel, rfl⟩
theorem e_law_810 : dec cL_law 810 (.iload_n 3) 1 811 := ⟨by decide +kernel, rfl⟩
theorem e_law_811 : dec cL_law 811 (.iconst 3) 1 812 := ⟨by decide +kernel, rfl⟩
theorem e_law_812 : dec cL_law 812 (.iadd) 1 813 := ⟨by decide +kernel, rfl⟩
theorem e_law_813 : dec cL_law 813 (.iaload) 1 814 := ⟨by decide +kernel, rfl⟩
theorem e_law_814 : dec cL_law 814 (.aload_n 0) 1 815 := ⟨by decide +kernel, rfl⟩
theorem e_law_815 : dec cL_law 815 (.iload_n 3) 1 816 := ⟨by decide +kernel, rfl⟩
theorem e_law_816 : dec cL_law 816 (.iconst 4) 1 817 := ⟨by decide +kernel, rfl⟩
theorem e_law_817 : dec cL_law 817 (.iadd) 1 818 := ⟨by decide +kernel, rfl⟩
theorem e_law_818 : dec cL_law 818 (.iaload) 1 819 := ⟨by decide +kernel, rfl⟩
theorem e_law_819 : dec cL_law 819 (.aload_n 0) 1 820 := ⟨by decide +kernel, rfl⟩
theorem e_law_820 : dec cL_law 820 (.iload_n 3) 1 821 := ⟨by decide +kernel, rfl⟩
theorem e_law_821 : dec cL_law 821 (.iconst 5) 1 822 := ⟨by decide +kernel, rfl⟩
theorem e_law_822 : dec cL_law 822 (.iadd) 1 823 := ⟨by decide +kernel, rfl⟩
theorem e_law_823 : dec cL_law 823 (.iaload) 1 824 := ⟨by decide +kernel, rfl⟩
theorem e_law_824 : dec cL_law 824 (.invokevirtual 105) 3 827 := ⟨by decide +kernel, rfl⟩
theorem e_law_827 : dec cL_law 827 (.if_icmp .eq 285) 3 830 := ⟨by decide +kernel, rfl⟩
theorem e_law_832 : dec cL_law 832 (.aload_n 1) 1 833 := ⟨by decide +kernel, rfl⟩
theorem e_law_833 : dec cL_law 833 (.aload_n 0) 1 834 := ⟨by decide +kernel, rfl⟩
theorem e_law_834 : dec cL_law 834 (.iload_n 3) 1 835 := ⟨by decide +kernel, rfl⟩
theorem e_law_835 : dec cL_law 835 (.iconst 1) 1 836 := ⟨by decide +kernel, rfl⟩
theorem e_law_836 : dec cL_law 836 (.iadd) 1 837 := ⟨by decide +kernel, rfl⟩
theorem e_law_837 : dec cL_law 837 (.iaload) 1 838 := ⟨by decide +kernel, rfl⟩
theorem e_law_838 : dec cL_law 838 (.aload_n 0) 1 839 := ⟨by decide +kernel, rfl⟩
theorem e_law_839 : dec cL_law 839 (.iload_n 3) 1 840 := ⟨by decide +kernel, rfl⟩
theorem e_law_840 : dec cL_law 840 (.iconst 2) 1 841 := ⟨by decide +kernel, rfl⟩
theorem e_law_841 : dec cL_law 841 (.iadd) 1 842 := ⟨by decide +kernel, rfl⟩
theorem e_law_842 : dec cL_law 842 (.iaload) 1 843 := ⟨by decide +kernel, rfl⟩
theorem e_law_843 : dec cL_law 843 (.aload_n 0) 1 844 := ⟨by decide +kernel, rfl⟩
theorem e_law_844 : dec cL_law 844 (.iload_n 3) 1 845 := ⟨by decide +kernel, rfl⟩
theorem e_law_845 : dec cL_law 845 (.iconst 3) 1 846 := ⟨by decide +kernel, rfl⟩
theorem e_law_846 : dec cL_law 846 (.iadd) 1 847 := ⟨by decide +kernel, rfl⟩
theorem e_law_847 : dec cL_law 847 (.iaload) 1 848 := ⟨by decide +kernel, rfl⟩
theorem e_law_848 : dec cL_law 848 (.invokevirtual 106) 3 851 := ⟨by decide +kernel, rfl⟩
theorem e_law_851 : dec cL_law 851 (.aload_n 2) 1 852 := ⟨by decide +kernel, rfl⟩
theorem e_law_852 : dec cL_law 852 (.aload_n 0) 1 853 := ⟨by decide +kernel, rfl⟩
theorem e_law_853 : dec cL_law 853 (.iload_n 3) 1 854 := ⟨by decide +kernel, rfl⟩
theorem e_law_854 : dec cL_law 854 (.iconst 1) 1 855 := ⟨by decide +kernel, rfl⟩
theorem e_law_855 : dec cL_law 855 (.iadd) 1 856 := ⟨by decide +kernel, rfl⟩
theorem e_law_856 : dec cL_law 856 (.iaload) 1 857 := ⟨by decide +kernel, rfl⟩
theorem e_law_857 : dec cL_law 857 (.aload_n 0) 1 858 := ⟨by decide +kernel, rfl⟩
theorem e_law_858 : dec cL_law 858 (.iload_n 3) 1 859 := ⟨by decide +kernel, rfl⟩
theorem e_law_859 : dec cL_law 859 (.iconst 2) 1 860 := ⟨by decide +kernel, rfl⟩
theorem e_law_860 : dec cL_law 860 (.iadd) 1 861 := ⟨by decide +kernel, rfl⟩
theorem e_law_861 : dec cL_law 861 (.iaload) 1 862 := ⟨by decide +kernel, rfl⟩
theorem e_law_862 : dec cL_law 862 (.aload_n 0) 1 863 := ⟨by decide +kernel, rfl⟩
theorem e_law_863 : dec cL_law 863 (.iload_n 3) 1 864 := ⟨by decide +kernel, rfl⟩
theorem e_law_864 : dec cL_law 864 (.iconst 3) 1 865 := ⟨by decide +kernel, rfl⟩
theorem e_law_865 : dec cL_law 865 (.iadd) 1 866 := ⟨by decide +kernel, rfl⟩
theorem e_law_866 : dec cL_law 866 (.iaload) 1 867 := ⟨by decide +kernel, rfl⟩
theorem e_law_867 : dec cL_law 867 (.invokevirtual 109) 3 870 := ⟨by decide +kernel, rfl⟩
theorem e_law_870 : dec cL_law 870 (.if_icmp .eq 242) 3 873 := ⟨by decide +kernel, rfl⟩
theorem e_law_875 : dec cL_law 875 (.aload_n 1) 1 876 := ⟨by decide +kernel, rfl⟩
theorem e_law_876 : dec cL_law 876 (.aload_n 0) 1 877 := ⟨by decide +kernel, rfl⟩
theorem e_law_877 : dec cL_law 877 (.iload_n 3) 1 878 := ⟨by decide +kernel, rfl⟩
theorem e_law_878 : dec cL_law 878 (.iconst 1) 1 879 := ⟨by decide +kernel, rfl⟩
theorem e_law_879 : dec cL_law 879 (.iadd) 1 880 := ⟨by decide +kernel, rfl⟩
theorem e_law_880 : dec cL_law 880 (.iaload) 1 881 := ⟨by decide +kernel, rfl⟩
theorem e_law_881 : dec cL_law 881 (.aload_n 0) 1 882 := ⟨by decide +kernel, rfl⟩
theorem e_law_882 : dec cL_law 882 (.iload_n 3) 1 883 := ⟨by decide +kernel, rfl⟩
theorem e_law_883 : dec cL_law 883 (.iconst 2) 1 884 := ⟨by decide +kernel, rfl⟩
theorem e_law_884 : dec cL_law 884 (.iadd) 1 885 := ⟨by decide +kernel, rfl⟩
theorem e_law_885 : dec cL_law 885 (.iaload) 1 886 := ⟨by decide +kernel, rfl⟩
theorem e_law_886 : dec cL_law 886 (.aload_n 0) 1 887 := ⟨by decide +kernel, rfl⟩
theorem e_law_887 : dec cL_law 887 (.iload_n 3) 1 888 := ⟨by decide +kernel, rfl⟩
theorem e_law_888 : dec cL_law 888 (.iconst 3) 1 889 := ⟨by decide +kernel, rfl⟩
theorem e_law_889 : dec cL_law 889 (.iadd) 1 890 := ⟨by decide +kernel, rfl⟩
theorem e_law_890 : dec cL_law 890 (.iaload) 1 891 := ⟨by decide +kernel, rfl⟩
theorem e_law_891 : dec cL_law 891 (.invokevirtual 110) 3 894 := ⟨by decide +kernel, rfl⟩
theorem e_law_894 : dec cL_law 894 (.aload_n 2) 1 895 := ⟨by decide +kernel, rfl⟩
theorem e_law_895 : dec cL_law 895 (.aload_n 0) 1 896 := ⟨by decide +kernel, rfl⟩
theorem e_law_896 : dec cL_law 896 (.iload_n 3) 1 897 := ⟨by decide +kernel, rfl⟩
theorem e_law_897 : dec cL_law 897 (.iconst 1) 1 898 := ⟨by decide +kernel, rfl⟩
theorem e_law_898 : dec cL_law 898 (.iadd) 1 899 := ⟨by decide +kernel, rfl⟩
theorem e_law_899 : dec cL_law 899 (.iaload) 1 900 := ⟨by decide +kernel, rfl⟩
theorem e_law_900 : dec cL_law 900 (.aload_n 0) 1 901 := ⟨by decide +kernel, rfl⟩
theorem e_law_901 : dec cL_law 901 (.iload_n 3) 1 902 := ⟨by decide +kernel, rfl⟩
theorem e_law_902 : dec cL_law 902 (.iconst 2) 1 903 := ⟨by decide +kernel, rfl⟩
theorem e_law_903 : dec cL_law 903 (.iadd) 1 904 := ⟨by decide +kernel, rfl⟩
theorem e_law_904 : dec cL_law 904 (.iaload) 1 905 := ⟨by decide +kernel, rfl⟩
theorem e_law_905 : dec cL_law 905 (.aload_n 0) 1 906 := ⟨by decide +kernel, rfl⟩
theorem e_law_906 : dec cL_law 906 (.iload_n 3) 1 907 := ⟨by decide +kernel, rfl⟩
theorem e_law_907 : dec cL_law 907 (.iconst 3) 1 908 := ⟨by decide +kernel, rfl⟩
theorem e_law_908 : dec cL_law 908 (.iadd) 1 909 := ⟨by decide +kernel, rfl⟩
theorem e_law_909 : dec cL_law 909 (.iaload) 1 910 := ⟨by decide +kernel, rfl⟩
theorem e_law_910 : dec cL_law 910 (.invokevirtual 113) 3 913 := ⟨by decide +kernel, rfl⟩
theorem e_law_913 : dec cL_law 913 (.if_icmp .eq 199) 3 916 := ⟨by decide +kernel, rfl⟩
theorem e_law_918 : dec cL_law 918 (.aload_n 1) 1 919 := ⟨by decide +kernel, rfl⟩
theorem e_law_919 : dec cL_law 919 (.aload_n 0) 1 920 := ⟨by decide +kernel, rfl⟩
theorem e_law_920 : dec cL_law 920 (.iload_n 3) 1 921 := ⟨by decide +kernel, rfl⟩
theorem e_law_921 : dec cL_law 921 (.iconst 1) 1 922 := ⟨by decide +kernel, rfl⟩
theorem e_law_922 : dec cL_law 922 (.iadd) 1 923 := ⟨by decide +kernel, rfl⟩
theorem e_law_923 : dec cL_law 923 (.iaload) 1 924 := ⟨by decide +kernel, rfl⟩
theorem e_law_924 : dec cL_law 924 (.invokevirtual 114) 3 927 := ⟨by decide +kernel, rfl⟩
theorem e_law_927 : dec cL_law 927 (.aload_n 2) 1 928 := ⟨by decide +kernel, rfl⟩
theorem e_law_928 : dec cL_law 928 (.aload_n 0) 1 929 := ⟨by decide +kernel, rfl⟩
theorem e_law_929 : dec cL_law 929 (.iload_n 3) 1 930 := ⟨by decide +kernel, rfl⟩
theorem e_law_930 : dec cL_law 930 (.iconst 1) 1 931 := ⟨by decide +kernel, rfl⟩
theorem e_law_931 : dec cL_law 931 (.iadd) 1 932 := ⟨by decide +kernel, rfl⟩
theorem e_law_932 : dec cL_law 932 (.iaload) 1 933 := ⟨by decide +kernel, rfl⟩
theorem e_law_933 : dec cL_law 933 (.invokevirtual 117) 3 936 := ⟨by decide +kernel, rfl⟩
theorem e_law_936 : dec cL_law 936 (.if_icmp .eq 176) 3 939 := ⟨by decide +kernel, rfl⟩
theorem e_law_941 : dec cL_law 941 (.aload_n 1) 1 942 := ⟨by decide +kernel, rfl⟩
theorem e_law_942 : dec cL_law 942 (.aload_n 0) 1 943 := ⟨by decide +kernel, rfl⟩
theorem e_law_943 : dec cL_law 943 (.iload_n 3) 1 944 := ⟨by decide +kernel, rfl⟩
theorem e_law_944 : dec cL_law 944 (.iconst 1) 1 945 := ⟨by decide +kernel, rfl⟩
theorem e_law_945 : dec cL_law 945 (.iadd) 1 946 := ⟨by decide +kernel, rfl⟩
theorem e_law_946 : dec cL_law 946 (.iaload) 1 947 := ⟨by decide +kernel, rfl⟩
theorem e_law_947 : dec cL_law 947 (.invokevirtual 118) 3 950 := ⟨by decide +kernel, rfl⟩
theorem e_law_950 : dec cL_law 950 (.aload_n 2) 1 951 := ⟨by decide +kernel, rfl⟩
theorem e_law_951 : dec cL_law 951 (.aload_n 0) 1 952 := ⟨by decide +kernel, rfl⟩
theorem e_law_952 : dec cL_law 952 (.iload_n 3) 1 953 := ⟨by decide +kernel, rfl⟩
theorem e_law_953 : dec cL_law 953 (.iconst 1) 1 954 := ⟨by decide +kernel, rfl⟩
theorem e_law_954 : dec cL_law 954 (.iadd) 1 955 := ⟨by decide +kernel, rfl⟩
theorem e_law_955 : dec cL_law 955 (.iaload) 1 956 := ⟨by decide +kernel, rfl⟩
theorem e_law_956 : dec cL_law 956 (.invokevirtual 121) 3 959 := ⟨by decide +kernel, rfl⟩
theorem e_law_959 : dec cL_law 959 (.if_icmp .eq 153) 3 962 := ⟨by decide +kernel, rfl⟩
theorem e_law_964 : dec cL_law 964 (.aload_n 1) 1 965 := ⟨by decide +kernel, rfl⟩
theorem e_law_965 : dec cL_law 965 (.aload_n 0) 1 966 := ⟨by decide +kernel, rfl⟩
theorem e_law_966 : dec cL_law 966 (.iload_n 3) 1 967 := ⟨by decide +kernel, rfl⟩
theorem e_law_967 : dec cL_law 967 (.iconst 1) 1 968 := ⟨by decide +kernel, rfl⟩
theorem e_law_968 : dec cL_law 968 (.iadd) 1 969 := ⟨by decide +kernel, rfl⟩
theorem e_law_969 : dec cL_law 969 (.iaload) 1 970 := ⟨by decide +kernel, rfl⟩
theorem e_law_970 : dec cL_law 970 (.invokevirtual 122) 3 973 := ⟨by decide +kernel, rfl⟩
theorem e_law_973 : dec cL_law 973 (.aload_n 2) 1 974 := ⟨by decide +kernel, rfl⟩
theorem e_law_974 : dec cL_law 974 (.aload_n 0) 1 975 := ⟨by decide +kernel, rfl⟩
theorem e_law_975 : dec cL_law 975 (.iload_n 3) 1 976 := ⟨by decide +kernel, rfl⟩
theorem e_law_976 : dec cL_law 976 (.iconst 1) 1 977 := ⟨by decide +kernel, rfl⟩
theorem e_law_977 : dec cL_law 977 (.iadd) 1 978 := ⟨by decide +kernel, rfl⟩
theorem e_law_978 : dec cL_law 978 (.iaload) 1 979 := ⟨by decide +kernel, rfl⟩
theorem e_law_979 : dec cL_law 979 (.invokevirtual 125) 3 982 := ⟨by decide +kernel, rfl⟩
theorem e_law_982 : dec cL_law 982 (.if_icmp .eq 130) 3 985 := ⟨by decide +kernel, rfl⟩
theorem e_law_987 : dec cL_law 987 (.aload_n 1) 1 988 := ⟨by decide +kernel, rfl⟩
theorem e_law_988 : dec cL_law 988 (.aload_n 0) 1 989 := ⟨by decide +kernel, rfl⟩
theorem e_law_989 : dec cL_law 989 (.iload_n 3) 1 990 := ⟨by decide +kernel, rfl⟩
theorem e_law_990 : dec cL_law 990 (.iconst 1) 1 991 := ⟨by decide +kernel, rfl⟩
theorem e_law_991 : dec cL_law 991 (.iadd) 1 992 := ⟨by decide +kernel, rfl⟩
theorem e_law_992 : dec cL_law 992 (.iaload) 1 993 := ⟨by decide +kernel, rfl⟩
theorem e_law_993 : dec cL_law 993 (.aload_n 0) 1 994 := ⟨by decide +kernel, rfl⟩
theorem e_law_994 : dec cL_law 994 (.iload_n 3) 1 995 := ⟨by decide +kernel, rfl⟩
theorem e_law_995 : dec cL_law 995 (.iconst 2) 1 996 := ⟨by decide +kernel, rfl⟩
theorem e_law_996 : dec cL_law 996 (.iadd) 1 997 := ⟨by decide +kernel, rfl⟩
theorem e_law_997 : dec cL_law 997 (.iaload) 1 998 := ⟨by decide +kernel, rfl⟩
theorem e_law_998 : dec cL_law 998 (.invokevirtual 126) 3 1001 := ⟨by decide +kernel, rfl⟩
theorem e_law_1001 : dec cL_law 1001 (.aload_n 2) 1 1002 := ⟨by decide +kernel, rfl⟩
theorem e_law_1002 : dec cL_law 1002 (.aload_n 0) 1 1003 := ⟨by decide +kernel, rfl⟩
theorem e_law_1003 : dec cL_law 1003 (.iload_n 3) 1 1004 := ⟨by decide +kernel, rfl⟩
theorem e_law_1004 : dec cL_law 1004 (.iconst 1) 1 1005 := ⟨by decide +kernel, rfl⟩
theorem e_law_1005 : dec cL_law 1005 (.iadd) 1 1006 := ⟨by decide +kernel, rfl⟩
theorem e_law_1006 : dec cL_law 1006 (.iaload) 1 1007 := ⟨by decide +kernel, rfl⟩
theorem e_law_1007 : dec cL_law 1007 (.aload_n 0) 1 1008 := ⟨by decide +kernel, rfl⟩
theorem e_law_1008 : dec cL_law 1008 (.iload_n 3) 1 1009 := ⟨by decide +kernel, rfl⟩
theorem e_law_1009 : dec cL_law 1009 (.iconst 2) 1 1010 := ⟨by decide +kernel, rfl⟩
theorem e_law_1010 : dec cL_law 1010 (.iadd) 1 1011 := ⟨by decide +kernel, rfl⟩
theorem e_law_1011 : dec cL_law 1011 (.iaload) 1 1012 := ⟨by decide +kernel, rfl⟩
theorem e_law_1012 : dec cL_law 1012 (.invokevirtual 129) 3 1015 := ⟨by decide +kernel, rfl⟩
theorem e_law_1015 : dec cL_law 1015 (.if_icmp .eq 97) 3 1018 := ⟨by decide +kernel, rfl⟩
theorem e_law_1020 : dec cL_law 1020 (.aload_n 1) 1 1021 := ⟨by decide +kernel, rfl⟩
theorem e_law_1021 : dec cL_law 1021 (.aload_n 0) 1 1022 := ⟨by decide +kernel, rfl⟩
theorem e_law_1022 : dec cL_law 1022 (.iload_n 3) 1 1023 := ⟨by decide +kernel, rfl⟩
theorem e_law_1023 : dec cL_law 1023 (.iconst 1) 1 1024 := ⟨by decide +kernel, rfl⟩
theorem e_law_1024 : dec cL_law 1024 (.iadd) 1 1025 := ⟨by decide +kernel, rfl⟩
theorem e_law_1025 : dec cL_law 1025 (.iaload) 1 1026 := ⟨by decide +kernel, rfl⟩
theorem e_law_1026 : dec cL_law 1026 (.aload_n 0) 1 1027 := ⟨by decide +kernel, rfl⟩
theorem e_law_1027 : dec cL_law 1027 (.iload_n 3) 1 1028 := ⟨by decide +kernel, rfl⟩
theorem e_law_1028 : dec cL_law 1028 (.iconst 2) 1 1029 := ⟨by decide +kernel, rfl⟩
theorem e_law_1029 : dec cL_law 1029 (.iadd) 1 1030 := ⟨by decide +kernel, rfl⟩
theorem e_law_1030 : dec cL_law 1030 (.iaload) 1 1031 := ⟨by decide +kernel, rfl⟩
theorem e_law_1031 : dec cL_law 1031 (.invokevirtual 130) 3 1034 := ⟨by decide +kernel, rfl⟩
theorem e_law_1034 : dec cL_law 1034 (.aload_n 2) 1 1035 := ⟨by decide +kernel, rfl⟩
theorem e_law_1035 : dec cL_law 1035 (.aload_n 0) 1 1036 := ⟨by decide +kernel, rfl⟩
theorem e_law_1036 : dec cL_law 1036 (.iload_n 3) 1 1037 := ⟨by decide +kernel, rfl⟩
theorem e_law_1037 : dec cL_law 1037 (.iconst 1) 1 1038 := ⟨by decide +kernel, rfl⟩
theorem e_law_1038 : dec cL_law 1038 (.iadd) 1 1039 := ⟨by decide +kernel, rfl⟩
theorem e_law_1039 : dec cL_law 1039 (.iaload) 1 1040 := ⟨by decide +kernel, rfl⟩
theorem e_law_1040 : dec cL_law 1040 (.aload_n 0) 1 1041 := ⟨by decide +kernel, rfl⟩
theorem e_law_1041 : dec cL_law 1041 (.iload_n 3) 1 1042 := ⟨by decide +kernel, rfl⟩
theorem e_law_1042 : dec cL_law 1042 (.iconst 2) 1 1043 := ⟨by decide +kernel, rfl⟩
theorem e_law_1043 : dec cL_law 1043 (.iadd) 1 1044 := ⟨by decide +kernel, rfl⟩
theorem e_law_1044 : dec cL_law 1044 (.iaload) 1 1045 := ⟨by decide +kernel, rfl⟩
theorem e_law_1045 : dec cL_law 1045 (.invokevirtual 133) 3 1048 := ⟨by decide +kernel, rfl⟩
theorem e_law_1048 : dec cL_law 1048 (.if_icmp .eq 64) 3 1051 := ⟨by decide +kernel, rfl⟩
theorem e_law_1053 : dec cL_law 1053 (.aload_n 1) 1 1054 := ⟨by decide +kernel, rfl⟩
theorem e_law_1054 : dec cL_law 1054 (.aload_n 0) 1 1055 := ⟨by decide +kernel, rfl⟩
theorem e_law_1055 : dec cL_law 1055 (.iload_n 3) 1 1056 := ⟨by decide +kernel, rfl⟩
theorem e_law_1056 : dec cL_law 1056 (.iconst 1) 1 1057 := ⟨by decide +kernel, rfl⟩
theorem e_law_1057 : dec cL_law 1057 (.iadd) 1 1058 := ⟨by decide +kernel, rfl⟩
theorem e_law_1058 : dec cL_law 1058 (.iaload) 1 1059 := ⟨by decide +kernel, rfl⟩
theorem e_law_1059 : dec cL_law 1059 (.invokevirtual 134) 3 1062 := ⟨by decide +kernel, rfl⟩
theorem e_law_1062 : dec cL_law 1062 (.aload_n 2) 1 1063 := ⟨by decide +kernel, rfl⟩
theorem e_law_1063 : dec cL_law 1063 (.aload_n 0) 1 1064 := ⟨by decide +kernel, rfl⟩
theorem e_law_1064 : dec cL_law 1064 (.iload_n 3) 1 1065 := ⟨by decide +kernel, rfl⟩
theorem e_law_1065 : dec cL_law 1065 (.iconst 1) 1 1066 := ⟨by decide +kernel, rfl⟩
theorem e_law_1066 : dec cL_law 1066 (.iadd) 1 1067 := ⟨by decide +kernel, rfl⟩
theorem e_law_1067 : dec cL_law 1067 (.iaload) 1 1068 := ⟨by decide +kernel, rfl⟩
theorem e_law_1068 : dec cL_law 1068 (.invokevirtual 137) 3 1071 := ⟨by decide +kernel, rfl⟩
theorem e_law_1071 : dec cL_law 1071 (.if_icmp .eq 41) 3 1074 := ⟨by decide +kernel, rfl⟩
theorem e_law_1076 : dec cL_law 1076 (.aload_n 1) 1 1077 := ⟨by decide +kernel, rfl⟩
theorem e_law_1077 : dec cL_law 1077 (.aload_n 0) 1 1078 := ⟨by decide +kernel, rfl⟩
theorem e_law_1078 : dec cL_law 1078 (.iload_n 3) 1 1079 := ⟨by decide +kernel, rfl⟩
theorem e_law_1079 : dec cL_law 1079 (.iconst 1) 1 1080 := ⟨by decide +kernel, rfl⟩
theorem e_law_1080 : dec cL_law 1080 (.iadd) 1 1081 := ⟨by decide +kernel, rfl⟩
theorem e_law_1081 : dec cL_law 1081 (.iaload) 1 1082 := ⟨by decide +kernel, rfl⟩
theorem e_law_1082 : dec cL_law 1082 (.invokevirtual 138) 3 1085 := ⟨by decide +kernel, rfl⟩
theorem e_law_1085 : dec cL_law 1085 (.aload_n 2) 1 1086 := ⟨by decide +kernel, rfl⟩
theorem e_law_1086 : dec cL_law 1086 (.aload_n 0) 1 1087 := ⟨by decide +kernel, rfl⟩
theorem e_law_1087 : dec cL_law 1087 (.iload_n 3) 1 1088 := ⟨by decide +kernel, rfl⟩
theorem e_law_1088 : dec cL_law 1088 (.iconst 1) 1 1089 := ⟨by decide +kernel, rfl⟩
theorem e_law_1089 : dec cL_law 1089 (.iadd) 1 1090 := ⟨by decide +kernel, rfl⟩
theorem e_law_1090 : dec cL_law 1090 (.iaload) 1 1091 := ⟨by decide +kernel, rfl⟩
theorem e_law_1091 : dec cL_law 1091 (.invokevirtual 141) 3 1094 := ⟨by decide +kernel, rfl⟩
theorem e_law_1094 : dec cL_law 1094 (.if_icmp .eq 18) 3 1097 := ⟨by decide +kernel, rfl⟩
theorem e_law_1099 : dec cL_law 1099 (.aload_n 1) 1 1100 := ⟨by decide +kernel, rfl⟩
theorem e_law_1100 : dec cL_law 1100 (.invokevirtual 142) 3 1103 := ⟨by decide +kernel, rfl⟩
theorem e_law_1103 : dec cL_law 1103 (.aload_n 2) 1 1104 := ⟨by decide +kernel, rfl⟩
theorem e_law_1104 : dec cL_law 1104 (.invokevirtual 145) 3 1107 := ⟨by decide +kernel, rfl⟩
theorem e_law_1107 : dec cL_law 1107 (.if_icmp .eq 5) 3 1110 := ⟨by decide +kernel, rfl⟩
theorem e_law_1112 : dec cL_law 1112 (.iinc 3 6) 3 1115 := ⟨by decide +kernel, rfl⟩
theorem e_law_1115 : dec cL_law 1115 (.goto (-1097)) 3 1118 := ⟨by decide +kernel, rfl⟩
theorem e_law_1118 : dec cL_law 1118 (.iconst 1) 1 1119 := ⟨by decide +kernel, rfl⟩
theorem e_law_1119 : dec cL_law 1119 (.ireturn) 1 1120 := ⟨by decide +kernel, rfl⟩

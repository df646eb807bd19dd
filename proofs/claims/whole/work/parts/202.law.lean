theorem kw_78 : Cond.classLink RL 7 RX8 ∈ tb := tb_in (i := 78) (by decide +kernel) rfl
theorem kw_79 : Cond.instantiable RX8 10 ∈ tb := tb_in (i := 79) (by decide +kernel) rfl
theorem kw_80 : Cond.methodLink RL 9 yX8_init ∈ tb := tb_in (i := 80) (by decide +kernel) rfl
theorem kw_81 : Cond.instanceMethod yX8_init ∈ tb := tb_in (i := 81) (by decide +kernel) rfl
theorem kw_82 : Cond.code yX8_init cX8_init 2 none ∈ tb := tb_in (i := 82) (by decide +kernel) rfl
theorem kw_381 : Cond.methodLink RL 13 yX8_feed ∈ tb := tb_in (i := 381) (by decide +kernel) rfl
theorem kw_382 : Cond.instanceMethod yX8_feed ∈ tb := tb_in (i := 382) (by decide +kernel) rfl
theorem kw_383 : Cond.selects RX8 yX8_feed yX8_feed ∈ tb := tb_in (i := 383) (by decide +kernel) rfl
theorem kw_384 : Cond.code yX8_feed cX8_feed 2 (some .int) ∈ tb := tb_in (i := 384) (by decide +kernel) rfl
theorem kw_391 : Cond.methodLink RL 18 yX8_palace ∈ tb := tb_in (i := 391) (by decide +kernel) rfl
theorem kw_392 : Cond.instanceMethod yX8_palace ∈ tb := tb_in (i := 392) (by decide +kernel) rfl
theorem kw_393 : Cond.selects RX8 yX8_palace yX8_palace ∈ tb := tb_in (i := 393) (by decide +kernel) rfl
theorem kw_394 : Cond.code yX8_palace cX8_palace 3 (some .int) ∈ tb := tb_in (i := 394) (by decide +kernel) rfl
theorem kw_493 : Cond.methodLink RL 23 yX8_fault ∈ tb := tb_in (i := 493) (by decide +kernel) rfl
theorem kw_494 : Cond.instanceMethod yX8_fault ∈ tb := tb_in (i := 494) (by decide +kernel) rfl
theorem kw_495 : Cond.selects RX8 yX8_fault yX8_fault ∈ tb := tb_in (i := 495) (by decide +kernel) rfl
theorem kw_496 : Cond.code yX8_fault cX8_fault 1 (some .int) ∈ tb := tb_in (i := 496) (by decide +kernel) rfl
theorem kw_497 : Cond.methodLink RL 27 yX8_told ∈ tb := tb_in (i := 497) (by decide +kernel) rfl
theorem kw_498 : Cond.instanceMethod yX8_told ∈ tb := tb_in (i := 498) (by decide +kernel) rfl
theorem kw_499 : Cond.selects RX8 yX8_told yX8_told ∈ tb := tb_in (i := 499) (by decide +kernel) rfl
theorem kw_500 : Cond.code yX8_told cX8_told 2 (some .int) ∈ tb := tb_in (i := 500) (by decide +kernel) rfl
theorem kw_501 : Cond.methodLink RL 31 yX8_room ∈ tb := tb_in (i := 501) (by decide +kernel) rfl
theorem kw_502 : Cond.instanceMethod yX8_room ∈ tb := tb_in (i := 502) (by decide +kernel) rfl
theorem kw_503 : Cond.selects RX8 yX8_room yX8_room ∈ tb := tb_in (i := 503) (by decide +kernel) rfl
theorem kw_504 : Cond.code yX8_room cX8_room 3 (some .int) ∈ tb := tb_in (i := 504) (by decide +kernel) rfl
theorem kw_538 : Cond.methodLink RL 36 yX8_petition ∈ tb := tb_in (i := 538) (by decide +kernel) rfl
theorem kw_539 : Cond.instanceMethod yX8_petition ∈ tb := tb_in (i := 539) (by decide +kernel) rfl
theorem kw_540 : Cond.selects RX8 yX8_petition yX8_petition ∈ tb := tb_in (i := 540) (by decide +kernel) rfl
theorem kw_541 : Cond.code yX8_petition cX8_petition 3 (some .int) ∈ tb := tb_in (i := 541) (by decide +kernel) rfl
theorem kw_546 : Cond.methodLink RL 40 yX8_went ∈ tb := tb_in (i := 546) (by decide +kernel) rfl
theorem kw_547 : Cond.instanceMethod yX8_went ∈ tb := tb_in (i := 547) (by decide +kernel) rfl
theorem kw_548 : Cond.selects RX8 yX8_went yX8_went ∈ tb := tb_in (i := 548) (by decide +kernel) rfl
theorem kw_549 : Cond.code yX8_went cX8_went 2 (some .int) ∈ tb := tb_in (i := 549) (by decide +kernel) rfl
theorem kw_554 : Cond.methodLink RL 44 yX8_hour ∈ tb := tb_in (i := 554) (by decide +kernel) rfl
theorem kw_555 : Cond.instanceMethod yX8_hour ∈ tb := tb_in (i := 555) (by decide +kernel) rfl
theorem kw_556 : Cond.selects RX8 yX8_hour yX8_hour ∈ tb := tb_in (i := 556) (by decide +kernel) rfl
theorem kw_557 : Cond.code yX8_hour cX8_hour 4 (some .int) ∈ tb := tb_in (i := 557) (by decide +kernel) rfl
theorem kw_625 : Cond.methodLink RL 48 yX8_carpet ∈ tb := tb_in (i := 625) (by decide +kernel) rfl
theorem kw_626 : Cond.instanceMethod yX8_carpet ∈ tb := tb_in (i := 626) (by decide +kernel) rfl
theorem kw_627 : Cond.selects RX8 yX8_carpet yX8_carpet ∈ tb := tb_in (i := 627) (by decide +kernel) rfl
theorem kw_628 : Cond.code yX8_carpet cX8_carpet 4 (some .int) ∈ tb := tb_in (i := 628) (by decide +kernel) rfl
theorem kw_630 : Cond.methodLink RL 53 yX8_noise ∈ tb := tb_in (i := 630) (by decide +kernel) rfl
theorem kw_631 : Cond.instanceMethod yX8_noise ∈ tb := tb_in (i := 631) (by decide +kernel) rfl
theorem kw_632 : Cond.selects RX8 yX8_noise yX8_noise ∈ tb := tb_in (i := 632) (by decide +kernel) rfl
theorem kw_633 : Cond.code yX8_noise cX8_noise 4 (some .int) ∈ tb := tb_in (i := 633) (by decide +kernel) rfl
theorem kw_635 : Cond.methodLink RL 57 yX8_nail ∈ tb := tb_in (i := 635) (by decide +kernel) rfl
theorem kw_636 : Cond.instanceMethod yX8_nail ∈ tb := tb_in (i := 636) (by decide +kernel) rfl
theorem kw_637 : Cond.selects RX8 yX8_nail yX8_nail ∈ tb := tb_in (i := 637) (by decide +kernel) rfl
theorem kw_638 : Cond.code yX8_nail cX8_nail 4 (some .int) ∈ tb := tb_in (i := 638) (by decide +kernel) rfl
theorem kw_639 : Cond.methodLink RL 61 yX8_brick ∈ tb := tb_in (i := 639) (by decide +kernel) rfl
theorem kw_640 : Cond.instanceMethod yX8_brick ∈ tb := tb_in (i := 640) (by decide +kernel) rfl
theorem kw_641 : Cond.selects RX8 yX8_brick yX8_brick ∈ tb := tb_in (i := 641) (by decide +kernel) rfl
theorem kw_642 : Cond.code yX8_brick cX8_brick 4 (some .int) ∈ tb := tb_in (i := 642) (by decide +kernel) rfl
theorem kw_644 : Cond.methodLink RL 65 yX8_chalk ∈ tb := tb_in (i := 644) (by decide +kernel) rfl
theorem kw_645 : Cond.instanceMethod yX8_chalk ∈ tb := tb_in (i := 645) (by decide +kernel) rfl
theorem kw_646 : Cond.selects RX8 yX8_chalk yX8_chalk ∈ tb := tb_in (i := 646) (by decide +kernel) rfl
theorem kw_647 : Cond.code yX8_chalk cX8_chalk 4 (some .int) ∈ tb := tb_in (i := 647) (by decide +kernel) rfl
theorem kw_648 : Cond.methodLink RL 69 yX8_sole ∈ tb := tb_in (i := 648) (by decide +kernel) rfl
theorem kw_649 : Cond.instanceMethod yX8_sole ∈ tb := tb_in (i := 649) (by decide +kernel) rfl
theorem kw_650 : Cond.selects RX8 yX8_sole yX8_sole ∈ tb := tb_in (i := 650) (by decide +kernel) rfl
theorem kw_651 : Cond.code yX8_sole cX8_sole 2 (some .int) ∈ tb := tb_in (i := 651) (by decide +kernel) rfl
theorem kw_652 : Cond.methodLink RL 73 yX8_teach ∈ tb := tb_in (i := 652) (by decide +kernel) rfl
theorem kw_653 : Cond.instanceMethod yX8_teach ∈ tb := tb_in (i := 653) (by decide +kernel) rfl
theorem kw_654 : Cond.selects RX8 yX8_teach yX8_teach ∈ tb := tb_in (i := 654) (by decide +kernel) rfl
theorem kw_655 : Cond.code yX8_teach cX8_teach 3 (some .int) ∈ tb := tb_in (i := 655) (by decide +kernel) rfl
theorem kw_659 : Cond.methodLink RL 77 yX8_drift ∈ tb := tb_in (i := 659) (by decide +kernel) rfl
theorem kw_660 : Cond.instanceMethod yX8_drift ∈ tb := tb_in (i := 660) (by decide +kernel) rfl
theorem kw_661 : Cond.selects RX8 yX8_drift yX8_drift ∈ tb := tb_in (i := 661) (by decide +kernel) rfl
theorem kw_662 : Cond.code yX8_drift cX8_drift 4 (some .int) ∈ tb := tb_in (i := 662) (by decide +kernel) rfl
theorem kw_675 : Cond.methodLink RL 81 yX8_undo ∈ tb := tb_in (i := 675) (by decide +kernel) rfl
theorem kw_676 : Cond.instanceMethod yX8_undo ∈ tb := tb_in (i := 676) (by decide +kernel) rfl
theorem kw_677 : Cond.selects RX8 yX8_undo yX8_undo ∈ tb := tb_in (i := 677) (by decide +kernel) rfl
theorem kw_678 : Cond.code yX8_undo cX8_undo 1 (some .int) ∈ tb := tb_in (i := 678) (by decide +kernel) rfl
theorem kw_683 : Cond.methodLink RL 85 yX8_where ∈ tb := tb_in (i := 683) (by decide +kernel) rfl
theorem kw_684 : Cond.instanceMethod yX8_where ∈ tb := tb_in (i := 684) (by decide +kernel) rfl
theorem kw_685 : Cond.selects RX8 yX8_where yX8_where ∈ tb := tb_in (i := 685) (by decide +kernel) rfl
theorem kw_686 : Cond.code yX8_where cX8_where 3 (some .int) ∈ tb := tb_in (i := 686) (by decide +kernel) rfl
theorem kw_695 : Cond.methodLink RL 89 yX8_when ∈ tb := tb_in (i := 695) (by decide +kernel) rfl
theorem kw_696 : Cond.instanceMethod yX8_when ∈ tb := tb_in (i := 696) (by decide +kernel) rfl
theorem kw_697 : Cond.selects RX8 yX8_when yX8_when ∈ tb := tb_in (i := 697) (by decide +kernel) rfl
theorem kw_698 : Cond.code yX8_when cX8_when 2 (some .int) ∈ tb := tb_in (i := 698) (by decide +kernel) rfl
theorem kw_703 : Cond.methodLink RL 93 yX8_governed ∈ tb := tb_in (i := 703) (by decide +kernel) rfl
theorem kw_704 : Cond.instanceMethod yX8_governed ∈ tb := tb_in (i := 704) (by decide +kernel) rfl
theorem kw_705 : Cond.selects RX8 yX8_governed yX8_governed ∈ tb := tb_in (i := 705) (by decide +kernel) rfl
theorem kw_706 : Cond.code yX8_governed cX8_governed 5 (some .int) ∈ tb := tb_in (i := 706) (by decide +kernel) rfl
theorem kw_707 : Cond.methodLink RL 97 yX8_ring ∈ tb := tb_in (i := 707) (by decide +kernel) rfl
theorem kw_708 : Cond.instanceMethod yX8_ring ∈ tb := tb_in (i := 708) (by decide +kernel) rfl
theorem kw_709 : Cond.selects RX8 yX8_ring yX8_ring ∈ tb := tb_in (i := 709) (by decide +kernel) rfl
theorem kw_710 : Cond.code yX8_ring cX8_ring 3 (some .int) ∈ tb := tb_in (i := 710) (by decide +kernel) rfl
theorem kw_711 : Cond.methodLink RL 101 yX8_carpets ∈ tb := tb_in (i := 711) (by decide +kernel) rfl
theorem kw_712 : Cond.instanceMethod yX8_carpets ∈ tb := tb_in (i := 712) (by decide +kernel) rfl
theorem kw_713 : Cond.selects RX8 yX8_carpets yX8_carpets ∈ tb := tb_in (i := 713) (by decide +kernel) rfl
theorem kw_714 : Cond.code yX8_carpets cX8_carpets 5 (some .int) ∈ tb := tb_in (i := 714) (by decide +kernel) rfl
theorem kw_724 : Cond.methodLink RL 105 yX8_bricks ∈ tb := tb_in (i := 724) (by decide +kernel) rfl
theorem kw_725 : Cond.instanceMethod yX8_bricks ∈ tb := tb_in (i := 725) (by decide +kernel) rfl
theorem kw_726 : Cond.selects RX8 yX8_bricks yX8_bricks ∈ tb := tb_in (i := 726) (by decide +kernel) rfl
theorem kw_727 : Cond.code yX8_bricks cX8_bricks 7 (some .int) ∈ tb := tb_in (i := 727) (by decide +kernel) rfl
theorem kw_737 : Cond.methodLink RL 109 yX8_quietest ∈ tb := tb_in (i := 737) (by decide +kernel) rfl
theorem kw_738 : Cond.instanceMethod yX8_quietest ∈ tb := tb_in (i := 738) (by decide +kernel) rfl
theorem kw_739 : Cond.selects RX8 yX8_quietest yX8_quietest ∈ tb := tb_in (i := 739) (by decide +kernel) rfl
theorem kw_740 : Cond.code yX8_quietest cX8_quietest 5 (some .int) ∈ tb := tb_in (i := 740) (by decide +kernel) rfl
theorem kw_746 : Cond.methodLink RL 113 yX8_stand ∈ tb := tb_in (i := 746) (by decide +kernel) rfl
theorem kw_747 : Cond.instanceMethod yX8_stand ∈ tb := tb_in (i := 747) (by decide +kernel) rfl
theorem kw_748 : Cond.selects RX8 yX8_stand yX8_stand ∈ tb := tb_in (i := 748) (by decide +kernel) rfl
theorem kw_749 : Cond.code yX8_stand cX8_stand 2 (some .int) ∈ tb := tb_in (i := 749) (by decide +kernel) rfl
theorem kw_750 : Cond.methodLink RL 117 yX8_willHear ∈ tb := tb_in (i := 750) (by decide +kernel) rfl
theorem kw_751 : Cond.instanceMethod yX8_willHear ∈ tb := tb_in (i := 751) (by decide +kernel) rfl
theorem kw_752 : Cond.selects RX8 yX8_willHear yX8_willHear ∈ tb := tb_in (i := 752) (by decide +kernel) rfl
theorem kw_753 : Cond.code yX8_willHear cX8_willHear 4 (some .int) ∈ tb := tb_in (i := 753) (by decide +kernel) rfl
theorem kw_758 : Cond.methodLink RL 121 yX8_dance ∈ tb := tb_in (i := 758) (by decide +kernel) rfl
theorem kw_759 : Cond.instanceMethod yX8_dance ∈ tb := tb_in (i := 759) (by decide +kernel) rfl
theorem kw_760 : Cond.selects RX8 yX8_dance yX8_dance ∈ tb := tb_in (i := 760) (by decide +kernel) rfl
theorem kw_761 : Cond.code yX8_dance cX8_dance 6 (some .int) ∈ tb := tb_in (i := 761) (by decide +kernel) rfl
theorem kw_764 : Cond.methodLink RL 125 yX8_fit ∈ tb := tb_in (i := 764) (by decide +kernel) rfl
theorem kw_765 : Cond.instanceMethod yX8_fit ∈ tb := tb_in (i := 765) (by decide +kernel) rfl
theorem kw_766 : Cond.selects RX8 yX8_fit yX8_fit ∈ tb := tb_in (i := 766) (by decide +kernel) rfl
theorem kw_767 : Cond.code yX8_fit cX8_fit 6 (some .int) ∈ tb := tb_in (i := 767) (by decide +kernel) rfl
theorem kw_784 : Cond.methodLink RL 129 yX8_tells ∈ tb := tb_in (i := 784) (by decide +kernel) rfl
theorem kw_785 : Cond.instanceMethod yX8_tells ∈ tb := tb_in (i := 785) (by decide +kernel) rfl
theorem kw_786 : Cond.selects RX8 yX8_tells yX8_tells ∈ tb := tb_in (i := 786) (by decide +kernel) rfl
theorem kw_787 : Cond.code yX8_tells cX8_tells 7 (some .int) ∈ tb := tb_in (i := 787) (by decide +kernel) rfl
theorem kw_796 : Cond.methodLink RL 133 yX8_teachFor ∈ tb := tb_in (i := 796) (by decide +kernel) rfl
theorem kw_797 : Cond.instanceMethod yX8_teachFor ∈ tb := tb_in (i := 797) (by decide +kernel) rfl
theorem kw_798 : Cond.selects RX8 yX8_teachFor yX8_teachFor ∈ tb := tb_in (i := 798) (by decide +kernel) rfl
theorem kw_799 : Cond.code yX8_teachFor cX8_teachFor 6 (some .int) ∈ tb := tb_in (i := 799) (by decide +kernel) rfl
theorem kw_819 : Cond.methodLink RL 137 yX8_otherwise ∈ tb := tb_in (i := 819) (by decide +kernel) rfl
theorem kw_820 : Cond.instanceMethod yX8_otherwise ∈ tb := tb_in (i := 820) (by decide +kernel) rfl
theorem kw_821 : Cond.selects RX8 yX8_otherwise yX8_otherwise ∈ tb := tb_in (i := 821) (by decide +kernel) rfl
theorem kw_822 : Cond.code yX8_otherwise cX8_otherwise 3 (some .int) ∈ tb := tb_in (i := 822) (by decide +kernel) rfl
theorem kw_823 : Cond.methodLink RL 141 yX8_write ∈ tb := tb_in (i := 823) (by decide +kernel) rfl
theorem kw_824 : Cond.instanceMethod yX8_write ∈ tb := tb_in (i := 824) (by decide +kernel) rfl
theorem kw_825 : Cond.selects RX8 yX8_write yX8_write ∈ tb := tb_in (i := 825) (by decide +kernel) rfl
theorem kw_826 : Cond.code yX8_write cX8_write 3 (some .int) ∈ tb := tb_in (i := 826) (by decide +kernel) rfl
theorem kw_831 : Cond.methodLink RL 145 yX8_tear ∈ tb := tb_in (i := 831) (by decide +kernel) rfl
theorem kw_832 : Cond.instanceMethod yX8_tear ∈ tb := tb_in (i := 832) (by decide +kernel) rfl
theorem kw_833 : Cond.selects RX8 yX8_tear yX8_tear ∈ tb := tb_in (i := 833) (by decide +kernel) rfl
theorem kw_834 : Cond.code yX8_tear cX8_tear 2 (some .int) ∈ tb := tb_in (i := 834) (by decide +kernel) rfl
theorem kw_835 : Cond.methodLink RL 149 yX8_judge ∈ tb := tb_in (i := 835) (by decide +kernel) rfl
theorem kw_836 : Cond.instanceMethod yX8_judge ∈ tb := tb_in (i := 836) (by decide +kernel) rfl
theorem kw_837 : Cond.selects RX8 yX8_judge yX8_judge ∈ tb := tb_in (i := 837) (by decide +kernel) rfl
theorem kw_838 : Cond.code yX8_judge cX8_judge 1 (some .int) ∈ tb := tb_in (i := 838) (by decide +kernel) rfl
theorem kw_843 : Cond.methodLink RL 153 yX8_seed ∈ tb := tb_in (i := 843) (by decide +kernel) rfl
theorem kw_844 : Cond.instanceMethod yX8_seed ∈ tb := tb_in (i := 844) (by decide +kernel) rfl
theorem kw_845 : Cond.selects RX8 yX8_seed yX8_seed ∈ tb := tb_in (i := 845) (by decide +kernel) rfl
theorem kw_846 : Cond.code yX8_seed cX8_seed 3 (some .int) ∈ tb := tb_in (i := 846) (by decide +kernel) rfl
theorem kw_847 : Cond.methodLink RL 157 yX8_keep ∈ tb := tb_in (i := 847) (by decide +kernel) rfl
theorem kw_848 : Cond.instanceMethod yX8_keep ∈ tb := tb_in (i := 848) (by decide +kernel) rfl
theorem kw_849 : Cond.selects RX8 yX8_keep yX8_keep ∈ tb := tb_in (i := 849) (by decide +kernel) rfl
theorem kw_850 : Cond.code yX8_keep cX8_keep 3 (some .int) ∈ tb := tb_in (i := 850) (by decide +kernel) rfl
theorem kw_852 : Cond.methodLink RL 161 yX8_goBack ∈ tb := tb_in (i := 852) (by decide +kernel) rfl
theorem kw_853 : Cond.instanceMethod yX8_goBack ∈ tb := tb_in (i := 853) (by decide +kernel) rfl
theorem kw_854 : Cond.selects RX8 yX8_goBack yX8_goBack ∈ tb := tb_in (i := 854) (by decide +kernel) rfl
theorem kw_855 : Cond.code yX8_goBack cX8_goBack 3 (some .int) ∈ tb := tb_in (i := 855) (by decide +kernel) rfl
theorem kw_856 : Cond.classLink RL 10 RX9 ∈ tb := tb_in (i := 856) (by decide +kernel) rfl
theorem kw_857 : Cond.instantiable RX9 27 ∈ tb := tb_in (i := 857) (by decide +kernel) rfl
theorem kw_858 : Cond.methodLink RL 12 yX9_init ∈ tb := tb_in (i := 858) (by decide +kernel) rfl
theorem kw_859 : Cond.instanceMethod yX9_init ∈ tb := tb_in (i := 859) (by decide +kernel) rfl
theorem kw_860 : Cond.code yX9_init cX9_init 1 none ∈ tb := tb_in (i := 860) (by decide +kernel) rfl
theorem kw_946 : Cond.methodLink RL 17 yX9_feed ∈ tb := tb_in (i := 946) (by decide +kernel) rfl
theorem kw_947 : Cond.instanceMethod yX9_feed ∈ tb := tb_in (i := 947) (by decide +kernel) rfl
theorem kw_948 : Cond.selects RX9 yX9_feed yX9_feed ∈ tb := tb_in (i := 948) (by decide +kernel) rfl
theorem kw_949 : Cond.code yX9_feed cX9_feed 2 (some .int) ∈ tb := tb_in (i := 949) (by decide +kernel) rfl
theorem kw_956 : Cond.methodLink RL 22 yX9_palace ∈ tb := tb_in (i := 956) (by decide +kernel) rfl
theorem kw_957 : Cond.instanceMethod yX9_palace ∈ tb := tb_in (i := 957) (by decide +kernel) rfl
theorem kw_958 : Cond.selects RX9 yX9_palace yX9_palace ∈ tb := tb_in (i := 958) (by decide +kernel) rfl
theorem kw_959 : Cond.code yX9_palace cX9_palace 2 (some .int) ∈ tb := tb_in (i := 959) (by decide +kernel) rfl
theorem kw_1005 : Cond.methodLink RL 26 yX9_fault ∈ tb := tb_in (i := 1005) (by decide +kernel) rfl
theorem kw_1006 : Cond.instanceMethod yX9_fault ∈ tb := tb_in (i := 1006) (by decide +kernel) rfl
theorem kw_1007 : Cond.selects RX9 yX9_fault yX9_fault ∈ tb := tb_in (i := 1007) (by decide +kernel) rfl
theorem kw_1008 : Cond.code yX9_fault cX9_fault 1 (some .int) ∈ tb := tb_in (i := 1008) (by decide +kernel) rfl
theorem kw_1009 : Cond.methodLink RL 30 yX9_told ∈ tb := tb_in (i := 1009) (by decide +kernel) rfl
theorem kw_1010 : Cond.instanceMethod yX9_told ∈ tb := tb_in (i := 1010) (by decide +kernel) rfl
theorem kw_1011 : Cond.selects RX9 yX9_told yX9_told ∈ tb := tb_in (i := 1011) (by decide +kernel) rfl
theorem kw_1012 : Cond.code yX9_told cX9_told 2 (some .int) ∈ tb := tb_in (i := 1012) (by decide +kernel) rfl
theorem kw_1017 : Cond.methodLink RL 35 yX9_room ∈ tb := tb_in (i := 1017) (by decide +kernel) rfl
theorem kw_1018 : Cond.instanceMethod yX9_room ∈ tb := tb_in (i := 1018) (by decide +kernel) rfl
theorem kw_1019 : Cond.selects RX9 yX9_room yX9_room ∈ tb := tb_in (i := 1019) (by decide +kernel) rfl
theorem kw_1020 : Cond.code yX9_room cX9_room 3 (some .int) ∈ tb := tb_in (i := 1020) (by decide +kernel) rfl
theorem kw_1051 : Cond.methodLink RL 39 yX9_petition ∈ tb := tb_in (i := 1051) (by decide +kernel) rfl
theorem kw_1052 : Cond.instanceMethod yX9_petition ∈ tb := tb_in (i := 1052) (by decide +kernel) rfl
theorem kw_1053 : Cond.selects RX9 yX9_petition yX9_petition ∈ tb := tb_in (i := 1053) (by decide +kernel) rfl
theorem kw_1054 : Cond.code yX9_petition cX9_petition 3 (some .int) ∈ tb := tb_in (i := 1054) (by decide +kernel) rfl
theorem kw_1059 : Cond.methodLink RL 43 yX9_went ∈ tb := tb_in (i := 1059) (by decide +kernel) rfl
theorem kw_1060 : Cond.instanceMethod yX9_went ∈ tb := tb_in (i := 1060) (by decide +kernel) rfl
theorem kw_1061 : Cond.selects RX9 yX9_went yX9_went ∈ tb := tb_in (i := 1061) (by decide +kernel) rfl
theorem kw_1062 : Cond.code yX9_went cX9_went 3 (some .int) ∈ tb := tb_in (i := 1062) (by decide +kernel) rfl
theorem kw_1072 : Cond.methodLink RL 47 yX9_hour ∈ tb := tb_in (i := 1072) (by decide +kernel) rfl
theorem kw_1073 : Cond.instanceMethod yX9_hour ∈ tb := tb_in (i := 1073) (by decide +kernel) rfl
theorem kw_1074 : Cond.selects RX9 yX9_hour yX9_hour ∈ tb := tb_in (i := 1074) (by decide +kernel) rfl
theorem kw_1075 : Cond.code yX9_hour cX9_hour 2 (some .int) ∈ tb := tb_in (i := 1075) (by decide +kernel) rfl
theorem kw_1115 : Cond.methodLink RL 52 yX9_carpet ∈ tb := tb_in (i := 1115) (by decide +kernel) rfl
theorem kw_1116 : Cond.instanceMethod yX9_carpet ∈ tb := tb_in (i := 1116) (by decide +kernel) rfl
theorem kw_1117 : Cond.selects RX9 yX9_carpet yX9_carpet ∈ tb := tb_in (i := 1117) (by decide +kernel) rfl
theorem kw_1118 : Cond.code yX9_carpet cX9_carpet 3 (some .int) ∈ tb := tb_in (i := 1118) (by decide +kernel) rfl
theorem kw_1124 : Cond.methodLink RL 56 yX9_noise ∈ tb := tb_in (i := 1124) (by decide +kernel) rfl
theorem kw_1125 : Cond.instanceMethod yX9_noise ∈ tb := tb_in (i := 1125) (by decide +kernel) rfl
theorem kw_1126 : Cond.selects RX9 yX9_noise yX9_noise ∈ tb := tb_in (i := 1126) (by decide +kernel) rfl
theorem kw_1127 : Cond.code yX9_noise cX9_noise 4 (some .int) ∈ tb := tb_in (i := 1127) (by decide +kernel) rfl
theorem kw_1128 : Cond.methodLink RL 60 yX9_nail ∈ tb := tb_in (i := 1128) (by decide +kernel) rfl
theorem kw_1129 : Cond.instanceMethod yX9_nail ∈ tb := tb_in (i := 1129) (by decide +kernel) rfl
theorem kw_1130 : Cond.selects RX9 yX9_nail yX9_nail ∈ tb := tb_in (i := 1130) (by decide +kernel) rfl
theorem kw_1131 : Cond.code yX9_nail cX9_nail 3 (some .int) ∈ tb := tb_in (i := 1131) (by decide +kernel) rfl
theorem kw_1132 : Cond.methodLink RL 64 yX9_brick ∈ tb := tb_in (i := 1132) (by decide +kernel) rfl
theorem kw_1133 : Cond.instanceMethod yX9_brick ∈ tb := tb_in (i := 1133) (by decide +kernel) rfl
theorem kw_1134 : Cond.selects RX9 yX9_brick yX9_brick ∈ tb := tb_in (i := 1134) (by decide +kernel) rfl
theorem kw_1135 : Cond.code yX9_brick cX9_brick 3 (some .int) ∈ tb := tb_in (i := 1135) (by decide +kernel) rfl
theorem kw_1140 : Cond.methodLink RL 68 yX9_chalk ∈ tb := tb_in (i := 1140) (by decide +kernel) rfl
theorem kw_1141 : Cond.instanceMethod yX9_chalk ∈ tb := tb_in (i := 1141) (by decide +kernel) rfl
theorem kw_1142 : Cond.selects RX9 yX9_chalk yX9_chalk ∈ tb := tb_in (i := 1142) (by decide +kernel) rfl
theorem kw_1143 : Cond.code yX9_chalk cX9_chalk 4 (some .int) ∈ tb := tb_in (i := 1143) (by decide +kernel) rfl
theorem kw_1144 : Cond.methodLink RL 72 yX9_sole ∈ tb := tb_in (i := 1144) (by decide +kernel) rfl
theorem kw_1145 : Cond.instanceMethod yX9_sole ∈ tb := tb_in (i := 1145) (by decide +kernel) rfl
theorem kw_1146 : Cond.selects RX9 yX9_sole yX9_sole ∈ tb := tb_in (i := 1146) (by decide +kernel) rfl
theorem kw_1147 : Cond.code yX9_sole cX9_sole 2 (some .int) ∈ tb := tb_in (i := 1147) (by decide +kernel) rfl
theorem kw_1148 : Cond.methodLink RL 76 yX9_teach ∈ tb := tb_in (i := 1148) (by decide +kernel) rfl
theorem kw_1149 : Cond.instanceMethod yX9_teach ∈ tb := tb_in (i := 1149) (by decide +kernel) rfl
theorem kw_1150 : Cond.selects RX9 yX9_teach yX9_teach ∈ tb := tb_in (i := 1150) (by decide +kernel) rfl
theorem kw_1151 : Cond.code yX9_teach cX9_teach 3 (some .int) ∈ tb := tb_in (i := 1151) (by decide +kernel) rfl
theorem kw_1156 : Cond.methodLink RL 80 yX9_drift ∈ tb := tb_in (i := 1156) (by decide +kernel) rfl
theorem kw_1157 : Cond.instanceMethod yX9_drift ∈ tb := tb_in (i := 1157) (by decide +kernel) rfl
theorem kw_1158 : Cond.selects RX9 yX9_drift yX9_drift ∈ tb := tb_in (i := 1158) (by decide +kernel) rfl
theorem kw_1159 : Cond.code yX9_drift cX9_drift 3 (some .int) ∈ tb := tb_in (i := 1159) (by decide +kernel) rfl
theorem kw_1172 : Cond.methodLink RL 84 yX9_undo ∈ tb := tb_in (i := 1172) (by decide +kernel) rfl
theorem kw_1173 : Cond.instanceMethod yX9_undo ∈ tb := tb_in (i := 1173) (by decide +kernel) rfl
theorem kw_1174 : Cond.selects RX9 yX9_undo yX9_undo ∈ tb := tb_in (i := 1174) (by decide +kernel) rfl
theorem kw_1175 : Cond.code yX9_undo cX9_undo 2 (some .int) ∈ tb := tb_in (i := 1175) (by decide +kernel) rfl
theorem kw_1176 : Cond.methodLink RL 88 yX9_where ∈ tb := tb_in (i := 1176) (by decide +kernel) rfl
theorem kw_1177 : Cond.instanceMethod yX9_where ∈ tb := tb_in (i := 1177) (by decide +kernel) rfl
theorem kw_1178 : Cond.selects RX9 yX9_where yX9_where ∈ tb := tb_in (i := 1178) (by decide +kernel) rfl
theorem kw_1179 : Cond.code yX9_where cX9_where 3 (some .int) ∈ tb := tb_in (i := 1179) (by decide +kernel) rfl
theorem kw_1189 : Cond.methodLink RL 92 yX9_when ∈ tb := tb_in (i := 1189) (by decide +kernel) rfl
theorem kw_1190 : Cond.instanceMethod yX9_when ∈ tb := tb_in (i := 1190) (by decide +kernel) rfl
theorem kw_1191 : Cond.selects RX9 yX9_when yX9_when ∈ tb := tb_in (i := 1191) (by decide +kernel) rfl
theorem kw_1192 : Cond.code yX9_when cX9_when 3 (some .int) ∈ tb := tb_in (i := 1192) (by decide +kernel) rfl
theorem kw_1197 : Cond.methodLink RL 96 yX9_governed ∈ tb := tb_in (i := 1197) (by decide +kernel) rfl
theorem kw_1198 : Cond.instanceMethod yX9_governed ∈ tb := tb_in (i := 1198) (by decide +kernel) rfl
theorem kw_1199 : Cond.selects RX9 yX9_governed yX9_governed ∈ tb := tb_in (i := 1199) (by decide +kernel) rfl
theorem kw_1200 : Cond.code yX9_governed cX9_governed 4 (some .int) ∈ tb := tb_in (i := 1200) (by decide +kernel) rfl
theorem kw_1201 : Cond.methodLink RL 100 yX9_ring ∈ tb := tb_in (i := 1201) (by decide +kernel) rfl
theorem kw_1202 : Cond.instanceMethod yX9_ring ∈ tb := tb_in (i := 1202) (by decide +kernel) rfl
theorem kw_1203 : Cond.selects RX9 yX9_ring yX9_ring ∈ tb := tb_in (i := 1203) (by decide +kernel) rfl
theorem kw_1204 : Cond.code yX9_ring cX9_ring 4 (some .int) ∈ tb := tb_in (i := 1204) (by decide +kernel) rfl
theorem kw_1205 : Cond.methodLink RL 104 yX9_carpets ∈ tb := tb_in (i := 1205) (by decide +kernel) rfl
theorem kw_1206 : Cond.instanceMethod yX9_carpets ∈ tb := tb_in (i := 1206) (by decide +kernel) rfl
theorem kw_1207 : Cond.selects RX9 yX9_carpets yX9_carpets ∈ tb := tb_in (i := 1207) (by decide +kernel) rfl
theorem kw_1208 : Cond.code yX9_carpets cX9_carpets 5 (some .int) ∈ tb := tb_in (i := 1208) (by decide +kernel) rfl
theorem kw_1213 : Cond.methodLink RL 108 yX9_bricks ∈ tb := tb_in (i := 1213) (by decide +kernel) rfl
theorem kw_1214 : Cond.instanceMethod yX9_bricks ∈ tb := tb_in (i := 1214) (by decide +kernel) rfl
theorem kw_1215 : Cond.selects RX9 yX9_bricks yX9_bricks ∈ tb := tb_in (i := 1215) (by decide +kernel) rfl
theorem kw_1216 : Cond.code yX9_bricks cX9_bricks 5 (some .int) ∈ tb := tb_in (i := 1216) (by decide +kernel) rfl
theorem kw_1221 : Cond.methodLink RL 112 yX9_quietest ∈ tb := tb_in (i := 1221) (by decide +kernel) rfl
theorem kw_1222 : Cond.instanceMethod yX9_quietest ∈ tb := tb_in (i := 1222) (by decide +kernel) rfl
theorem kw_1223 : Cond.selects RX9 yX9_quietest yX9_quietest ∈ tb := tb_in (i := 1223) (by decide +kernel) rfl
theorem kw_1224 : Cond.code yX9_quietest cX9_quietest 4 (some .int) ∈ tb := tb_in (i := 1224) (by decide +kernel) rfl
theorem kw_1229 : Cond.methodLink RL 116 yX9_stand ∈ tb := tb_in (i := 1229) (by decide +kernel) rfl
theorem kw_1230 : Cond.instanceMethod yX9_stand ∈ tb := tb_in (i := 1230) (by decide +kernel) rfl
theorem kw_1231 : Cond.selects RX9 yX9_stand yX9_stand ∈ tb := tb_in (i := 1231) (by decide +kernel) rfl
theorem kw_1232 : Cond.code yX9_stand cX9_stand 3 (some .int) ∈ tb := tb_in (i := 1232) (by decide +kernel) rfl
theorem kw_1233 : Cond.methodLink RL 120 yX9_willHear ∈ tb := tb_in (i := 1233) (by decide +kernel) rfl
theorem kw_1234 : Cond.instanceMethod yX9_willHear ∈ tb := tb_in (i := 1234) (by decide +kernel) rfl
theorem kw_1235 : Cond.selects RX9 yX9_willHear yX9_willHear ∈ tb := tb_in (i := 1235) (by decide +kernel) rfl
theorem kw_1236 : Cond.code yX9_willHear cX9_willHear 4 (some .int) ∈ tb := tb_in (i := 1236) (by decide +kernel) rfl
theorem kw_1237 : Cond.methodLink RL 124 yX9_dance ∈ tb := tb_in (i := 1237) (by decide +kernel) rfl
theorem kw_1238 : Cond.instanceMethod yX9_dance ∈ tb := tb_in (i := 1238) (by decide +kernel) rfl
theorem kw_1239 : Cond.selects RX9 yX9_dance yX9_dance ∈ tb := tb_in (i := 1239) (by decide +kernel) rfl
theorem kw_1240 : Cond.code yX9_dance cX9_dance 6 (some .int) ∈ tb := tb_in (i := 1240) (by decide +kernel) rfl
theorem kw_1242 : Cond.methodLink RL 128 yX9_fit ∈ tb := tb_in (i := 1242) (by decide +kernel) rfl
theorem kw_1243 : Cond.instanceMethod yX9_fit ∈ tb := tb_in (i := 1243) (by decide +kernel) rfl
theorem kw_1244 : Cond.selects RX9 yX9_fit yX9_fit ∈ tb := tb_in (i := 1244) (by decide +kernel) rfl
theorem kw_1245 : Cond.code yX9_fit cX9_fit 5 (some .int) ∈ tb := tb_in (i := 1245) (by decide +kernel) rfl
theorem kw_1251 : Cond.methodLink RL 132 yX9_tells ∈ tb := tb_in (i := 1251) (by decide +kernel) rfl
theorem kw_1252 : Cond.instanceMethod yX9_tells ∈ tb := tb_in (i := 1252) (by decide +kernel) rfl
theorem kw_1253 : Cond.selects RX9 yX9_tells yX9_tells ∈ tb := tb_in (i := 1253) (by decide +kernel) rfl
theorem kw_1254 : Cond.code yX9_tells cX9_tells 8 (some .int) ∈ tb := tb_in (i := 1254) (by decide +kernel) rfl
theorem kw_1255 : Cond.methodLink RL 136 yX9_teachFor ∈ tb := tb_in (i := 1255) (by decide +kernel) rfl
theorem kw_1256 : Cond.instanceMethod yX9_teachFor ∈ tb := tb_in (i := 1256) (by decide +kernel) rfl
theorem kw_1257 : Cond.selects RX9 yX9_teachFor yX9_teachFor ∈ tb := tb_in (i := 1257) (by decide +kernel) rfl
theorem kw_1258 : Cond.code yX9_teachFor cX9_teachFor 7 (some .int) ∈ tb := tb_in (i := 1258) (by decide +kernel) rfl
theorem kw_1270 : Cond.methodLink RL 140 yX9_otherwise ∈ tb := tb_in (i := 1270) (by decide +kernel) rfl
theorem kw_1271 : Cond.instanceMethod yX9_otherwise ∈ tb := tb_in (i := 1271) (by decide +kernel) rfl
theorem kw_1272 : Cond.selects RX9 yX9_otherwise yX9_otherwise ∈ tb := tb_in (i := 1272) (by decide +kernel) rfl
theorem kw_1273 : Cond.code yX9_otherwise cX9_otherwise 4 (some .int) ∈ tb := tb_in (i := 1273) (by decide +kernel) rfl
theorem kw_1274 : Cond.methodLink RL 144 yX9_write ∈ tb := tb_in (i := 1274) (by decide +kernel) rfl
theorem kw_1275 : Cond.instanceMethod yX9_write ∈ tb := tb_in (i := 1275) (by decide +kernel) rfl
theorem kw_1276 : Cond.selects RX9 yX9_write yX9_write ∈ tb := tb_in (i := 1276) (by decide +kernel) rfl
theorem kw_1277 : Cond.code yX9_write cX9_write 3 (some .int) ∈ tb := tb_in (i := 1277) (by decide +kernel) rfl
theorem kw_1279 : Cond.methodLink RL 148 yX9_tear ∈ tb := tb_in (i := 1279) (by decide +kernel) rfl
theorem kw_1280 : Cond.instanceMethod yX9_tear ∈ tb := tb_in (i := 1280) (by decide +kernel) rfl
theorem kw_1281 : Cond.selects RX9 yX9_tear yX9_tear ∈ tb := tb_in (i := 1281) (by decide +kernel) rfl
theorem kw_1282 : Cond.code yX9_tear cX9_tear 2 (some .int) ∈ tb := tb_in (i := 1282) (by decide +kernel) rfl
theorem kw_1283 : Cond.methodLink RL 152 yX9_judge ∈ tb := tb_in (i := 1283) (by decide +kernel) rfl
theorem kw_1284 : Cond.instanceMethod yX9_judge ∈ tb := tb_in (i := 1284) (by decide +kernel) rfl
theorem kw_1285 : Cond.selects RX9 yX9_judge yX9_judge ∈ tb := tb_in (i := 1285) (by decide +kernel) rfl
theorem kw_1286 : Cond.code yX9_judge cX9_judge 3 (some .int) ∈ tb := tb_in (i := 1286) (by decide +kernel) rfl
theorem kw_1287 : Cond.methodLink RL 156 yX9_seed ∈ tb := tb_in (i := 1287) (by decide +kernel) rfl
theorem kw_1288 : Cond.instanceMethod yX9_seed ∈ tb := tb_in (i := 1288) (by decide +kernel) rfl
theorem kw_1289 : Cond.selects RX9 yX9_seed yX9_seed ∈ tb := tb_in (i := 1289) (by decide +kernel) rfl
theorem kw_1290 : Cond.code yX9_seed cX9_seed 3 (some .int) ∈ tb := tb_in (i := 1290) (by decide +kernel) rfl
theorem kw_1291 : Cond.methodLink RL 160 yX9_keep ∈ tb := tb_in (i := 1291) (by decide +kernel) rfl
theorem kw_1292 : Cond.instanceMethod yX9_keep ∈ tb := tb_in (i := 1292) (by decide +kernel) rfl
theorem kw_1293 : Cond.selects RX9 yX9_keep yX9_keep ∈ tb := tb_in (i := 1293) (by decide +kernel) rfl
theorem kw_1294 : Cond.code yX9_keep cX9_keep 3 (some .int) ∈ tb := tb_in (i := 1294) (by decide +kernel) rfl
theorem kw_1295 : Cond.methodLink RL 164 yX9_goBack ∈ tb := tb_in (i := 1295) (by decide +kernel) rfl
theorem kw_1296 : Cond.instanceMethod yX9_goBack ∈ tb := tb_in (i := 1296) (by decide +kernel) rfl
theorem kw_1297 : Cond.selects RX9 yX9_goBack yX9_goBack ∈ tb := tb_in (i := 1297) (by decide +kernel) rfl
theorem kw_1298 : Cond.code yX9_goBack cX9_goBack 3 (some .int) ∈ tb := tb_in (i := 1298) (by decide +kernel) rfl
def sk_0 (x y : Int32) (S : Mem) : Option Mem :=
  (ck 8 S 0).bind fun c1 =>
  (f_X8_feed 0 x S).bind fun q2 =>
  (ck 9 q2.2 216).bind fun c3 =>
  (f_X9_feed 216 x q2.2).bind fun q4 =>
  if q2.1 = q4.1 then some q4.2 else none
def sk_1 (x y : Int32) (S : Mem) : Option Mem :=
  (ck 8 S 0).bind fun c1 =>
  (f_X8_palace 0 S).bind fun q2 =>
  (ck 9 q2.2 216).bind fun c3 =>
  (f_X9_palace 216 q2.2).bind fun q4 =>
  if q2.1 = q4.1 then some q4.2 else none
def sk_2 (x y : Int32) (S : Mem) : Option Mem :=
  (ck 8 S 0).bind fun c1 =>
  (f_X8_fault 0 S).bind fun v2 =>
  (ck 9 S 216).bind fun c3 =>
  (f_X9_fault 216 S).bind fun v4 =>
  if v2 = v4 then some S else none
def sk_3 (x y : Int32) (S : Mem) : Option Mem :=
  (ck 8 S 0).bind fun c1 =>
  (f_X8_told 0 x S).bind fun v2 =>
  (ck 9 S 216).bind fun c3 =>
  (f_X9_told 216 x S).bind fun v4 =>
  if v2 = v4 then some S else none
def sk_4 (x y : Int32) (S : Mem) : Option Mem :=
  (ck 8 S 0).bind fun c1 =>
  (f_X8_room 0 x y S).bind fun v2 =>
  (ck 9 S 216).bind fun c3 =>
  (f_X9_room 216 x y S).bind fun v4 =>
  if v2 = v4 then some S else none
def sk_5 (x y : Int32) (S : Mem) : Option Mem :=
  (ck 8 S 0).bind fun c1 =>
  (f_X8_petition 0 x y S).bind fun v2 =>
  (ck 9 S 216).bind fun c3 =>
  (f_X9_petition 216 x y S).bind fun v4 =>
  if v2 = v4 then some S else none
def sk_6 (x y : Int32) (S : Mem) : Option Mem :=
  (ck 8 S 0).bind fun c1 =>
  (f_X8_went 0 x S).bind fun v2 =>
  (ck 9 S 216).bind fun c3 =>
  (f_X9_went 216 x S).bind fun v4 =>
  if v2 = v4 then some S else none
def sk_7 (x y : Int32) (S : Mem) : Option Mem :=
  (ck 8 S 0).bind fun c1 =>
  (f_X8_hour 0 x S).bind fun q2 =>
  (ck 9 q2.2 216).bind fun c3 =>
  (f_X9_hour 216 x q2.2).bind fun q4 =>
  if q2.1 = q4.1 then some q4.2 else none
def sk_8 (x y : Int32) (S : Mem) : Option Mem :=
  if y = (0 : Int32) then
  (ck 8 S 0).bind fun c1 =>
  (f_X8_carpet 0 x (0 : Int32) S).bind fun q2 =>
  (ck 9 q2.2 216).bind fun c3 =>
  (f_X9_carpet 216 x (0 : Int32) q2.2).bind fun q4 =>
  if q2.1 = q4.1 then some q4.2 else none
  else
  (ck 8 S 0).bind fun c5 =>
  (f_X8_carpet 0 x (1 : Int32) S).bind fun q6 =>
  (ck 9 q6.2 216).bind fun c7 =>
  (f_X9_carpet 216 x (1 : Int32) q6.2).bind fun q8 =>
  if q6.1 = q8.1 then some q8.2 else none
def sk_9 (x y : Int32) (S : Mem) : Option Mem :=
  (ck 8 S 0).bind fun c1 =>
  (f_X8_noise 0 x y S).bind fun q2 =>
  (ck 9 q2.2 216).bind fun c3 =>
  (f_X9_noise 216 x y q2.2).bind fun q4 =>
  if q2.1 = q4.1 then some q4.2 else none
def sk_10 (x y : Int32) (S : Mem) : Option Mem :=
  if y = (0 : Int32) then
  (ck 8 S 0).bind fun c1 =>
  (f_X8_nail 0 x (0 : Int32) S).bind fun q2 =>
  (ck 9 q2.2 216).bind fun c3 =>
  (f_X9_nail 216 x (0 : Int32) q2.2).bind fun q4 =>
  if q2.1 = q4.1 then some q4.2 else none
  else
  (ck 8 S 0).bind fun c5 =>
  (f_X8_nail 0 x (1 : Int32) S).bind fun q6 =>
  (ck 9 q6.2 216).bind fun c7 =>
  (f_X9_nail 216 x (1 : Int32) q6.2).bind fun q8 =>
  if q6.1 = q8.1 then some q8.2 else none
def sk_11 (x y : Int32) (S : Mem) : Option Mem :=
  if y = (0 : Int32) then
  (ck 8 S 0).bind fun c1 =>
  (f_X8_brick 0 x (0 : Int32) S).bind fun q2 =>
  (ck 9 q2.2 216).bind fun c3 =>
  (f_X9_brick 216 x (0 : Int32) q2.2).bind fun q4 =>
  if q2.1 = q4.1 then some q4.2 else none
  else
  (ck 8 S 0).bind fun c5 =>
  (f_X8_brick 0 x (1 : Int32) S).bind fun q6 =>
  (ck 9 q6.2 216).bind fun c7 =>
  (f_X9_brick 216 x (1 : Int32) q6.2).bind fun q8 =>
  if q6.1 = q8.1 then some q8.2 else none
def sk_12 (x y : Int32) (S : Mem) : Option Mem :=
  (ck 8 S 0).bind fun c1 =>
  (f_X8_chalk 0 x y S).bind fun q2 =>
  (ck 9 q2.2 216).bind fun c3 =>
  (f_X9_chalk 216 x y q2.2).bind fun q4 =>
  if q2.1 = q4.1 then some q4.2 else none
def sk_13 (x y : Int32) (S : Mem) : Option Mem :=
  (ck 8 S 0).bind fun c1 =>
  (f_X8_sole 0 S).bind fun q2 =>
  (ck 9 q2.2 216).bind fun c3 =>
  (f_X9_sole 216 q2.2).bind fun q4 =>
  if q2.1 = q4.1 then some q4.2 else none
def sk_14 (x y : Int32) (S : Mem) : Option Mem :=
  (ck 8 S 0).bind fun c1 =>
  (f_X8_teach 0 x S).bind fun q2 =>
  (ck 9 q2.2 216).bind fun c3 =>
  (f_X9_teach 216 x q2.2).bind fun q4 =>
  if q2.1 = q4.1 then some q4.2 else none
def sk_15 (x y : Int32) (S : Mem) : Option Mem :=
  (ck 8 S 0).bind fun c1 =>
  (f_X8_drift 0 x S).bind fun q2 =>
  (ck 9 q2.2 216).bind fun c3 =>
  (f_X9_drift 216 x q2.2).bind fun q4 =>
  if q2.1 = q4.1 then some q4.2 else none
def sk_16 (x y : Int32) (S : Mem) : Option Mem :=
  (ck 8 S 0).bind fun c1 =>
  (f_X8_undo 0 S).bind fun q2 =>
  (ck 9 q2.2 216).bind fun c3 =>
  (f_X9_undo 216 q2.2).bind fun q4 =>
  if q2.1 = q4.1 then some q4.2 else none
def sk_17 (x y : Int32) (S : Mem) : Option Mem :=
  (ck 8 S 0).bind fun c1 =>
  (f_X8_where 0 x S).bind fun q2 =>
  (ck 9 q2.2 216).bind fun c3 =>
  (f_X9_where 216 x q2.2).bind fun q4 =>
  if q2.1 = q4.1 then some q4.2 else none
def sk_18 (x y : Int32) (S : Mem) : Option Mem :=
  (ck 8 S 0).bind fun c1 =>
  (f_X8_when 0 x S).bind fun q2 =>
  (ck 9 q2.2 216).bind fun c3 =>
  (f_X9_when 216 x q2.2).bind fun q4 =>
  if q2.1 = q4.1 then some q4.2 else none
def sk_19 (x y : Int32) (S : Mem) : Option Mem :=
  (ck 8 S 0).bind fun c1 =>
  (f_X8_governed 0 x y S).bind fun q2 =>
  (ck 9 q2.2 216).bind fun c3 =>
  (f_X9_governed 216 x y q2.2).bind fun q4 =>
  if q2.1 = q4.1 then some q4.2 else none
def sk_20 (x y : Int32) (S : Mem) : Option Mem :=
  (ck 8 S 0).bind fun c1 =>
  (f_X8_ring 0 S).bind fun q2 =>
  (ck 9 q2.2 216).bind fun c3 =>
  (f_X9_ring 216 q2.2).bind fun q4 =>
  if q2.1 = q4.1 then some q4.2 else none
def sk_21 (x y : Int32) (S : Mem) : Option Mem :=
  (ck 8 S 0).bind fun c1 =>
  (f_X8_carpets 0 x y S).bind fun q2 =>
  (ck 9 q2.2 216).bind fun c3 =>
  (f_X9_carpets 216 x y q2.2).bind fun q4 =>
  if q2.1 = q4.1 then some q4.2 else none
def sk_22 (x y : Int32) (S : Mem) : Option Mem :=
  (ck 8 S 0).bind fun c1 =>
  (f_X8_bricks 0 x S).bind fun v2 =>
  (ck 9 S 216).bind fun c3 =>
  (f_X9_bricks 216 x S).bind fun v4 =>
  if v2 = v4 then some S else none
def sk_23 (x y : Int32) (S : Mem) : Option Mem :=
  (ck 8 S 0).bind fun c1 =>
  (f_X8_quietest 0 x S).bind fun q2 =>
  (ck 9 q2.2 216).bind fun c3 =>
  (f_X9_quietest 216 x q2.2).bind fun q4 =>
  if q2.1 = q4.1 then some q4.2 else none
def sk_24 (x y : Int32) (S : Mem) : Option Mem :=
  (ck 8 S 0).bind fun c1 =>
  (f_X8_stand 0 S).bind fun q2 =>
  (ck 9 q2.2 216).bind fun c3 =>
  (f_X9_stand 216 q2.2).bind fun q4 =>
  if q2.1 = q4.1 then some q4.2 else none
def sk_25 (x y : Int32) (S : Mem) : Option Mem :=
  (ck 8 S 0).bind fun c1 =>
  (f_X8_willHear 0 x S).bind fun q2 =>
  (ck 9 q2.2 216).bind fun c3 =>
  (f_X9_willHear 216 x q2.2).bind fun q4 =>
  if q2.1 = q4.1 then some q4.2 else none
def sk_26 (x y : Int32) (S : Mem) : Option Mem :=
  (ck 8 S 0).bind fun c1 =>
  (f_X8_dance 0 x y).bind fun v2 =>
  (ck 9 S 216).bind fun c3 =>
  (f_X9_dance 216 x y).bind fun v4 =>
  if v2 = v4 then some S else none
def sk_27 (x y : Int32) (S : Mem) : Option Mem :=
  (ck 8 S 0).bind fun c1 =>
  (f_X8_fit 0 x S).bind fun v2 =>
  (ck 9 S 216).bind fun c3 =>
  (f_X9_fit 216 x S).bind fun v4 =>
  if v2 = v4 then some S else none
def sk_28 (x y : Int32) (S : Mem) : Option Mem :=
  (ck 8 S 0).bind fun c1 =>
  (f_X8_tells 0 S).bind fun q2 =>
  (ck 9 q2.2 216).bind fun c3 =>
  (f_X9_tells 216 q2.2).bind fun q4 =>
  if q2.1 = q4.1 then some q4.2 else none
def sk_29 (x y : Int32) (S : Mem) : Option Mem :=
  (ck 8 S 0).bind fun c1 =>
  (f_X8_teachFor 0 x S).bind fun q2 =>
  (ck 9 q2.2 216).bind fun c3 =>
  (f_X9_teachFor 216 x q2.2).bind fun q4 =>
  if q2.1 = q4.1 then some q4.2 else none
def sk_30 (x y : Int32) (S : Mem) : Option Mem :=
  (ck 8 S 0).bind fun c1 =>
  (f_X8_otherwise 0 x S).bind fun q2 =>
  (ck 9 q2.2 216).bind fun c3 =>
  (f_X9_otherwise 216 x q2.2).bind fun q4 =>
  if q2.1 = q4.1 then some q4.2 else none
def sk_31 (x y : Int32) (S : Mem) : Option Mem :=
  (ck 8 S 0).bind fun c1 =>
  (f_X8_write 0 x y S).bind fun q2 =>
  (ck 9 q2.2 216).bind fun c3 =>
  (f_X9_write 216 x y q2.2).bind fun q4 =>
  if q2.1 = q4.1 then some q4.2 else none
def sk_32 (x y : Int32) (S : Mem) : Option Mem :=
  (ck 8 S 0).bind fun c1 =>
  (f_X8_tear 0 S).bind fun q2 =>
  (ck 9 q2.2 216).bind fun c3 =>
  (f_X9_tear 216 q2.2).bind fun q4 =>
  if q2.1 = q4.1 then some q4.2 else none
def sk_33 (x y : Int32) (S : Mem) : Option Mem :=
  (ck 8 S 0).bind fun c1 =>
  (f_X8_judge 0 S).bind fun v2 =>
  (ck 9 S 216).bind fun c3 =>
  (f_X9_judge 216 S).bind fun v4 =>
  if v2 = v4 then some S else none
def sk_34 (x y : Int32) (S : Mem) : Option Mem :=
  (ck 8 S 0).bind fun c1 =>
  (f_X8_seed 0 x S).bind fun q2 =>
  (ck 9 q2.2 216).bind fun c3 =>
  (f_X9_seed 216 x q2.2).bind fun q4 =>
  if q2.1 = q4.1 then some q4.2 else none
def sk_35 (x y : Int32) (S : Mem) : Option Mem :=
  (ck 8 S 0).bind fun c1 =>
  (f_X8_keep 0 x S).bind fun q2 =>
  (ck 9 q2.2 216).bind fun c3 =>
  (f_X9_keep 216 x q2.2).bind fun q4 =>
  if q2.1 = q4.1 then some q4.2 else none
def sk_36 (x y : Int32) (S : Mem) : Option Mem :=
  (ck 8 S 0).bind fun c1 =>
  (f_X8_goBack 0 x S).bind fun q2 =>
  (ck 9 q2.2 216).bind fun c3 =>
  (f_X9_goBack 216 x q2.2).bind fun q4 =>
  if q2.1 = q4.1 then some q4.2 else none
def stepL (k x y : Int32) (S : Mem) : Option Mem :=
  if k = (0 : Int32) then sk_0 x y S else
  if k = (1 : Int32) then sk_1 x y S else
  if k = (2 : Int32) then sk_2 x y S else
  if k = (3 : Int32) then sk_3 x y S else
  if k = (4 : Int32) then sk_4 x y S else
  if k = (5 : Int32) then sk_5 x y S else
  if k = (6 : Int32) then sk_6 x y S else
  if k = (7 : Int32) then sk_7 x y S else
  if k = (8 : Int32) then sk_8 x y S else
  if k = (9 : Int32) then sk_9 x y S else
  if k = (10 : Int32) then sk_10 x y S else
  if k = (11 : Int32) then sk_11 x y S else
  if k = (12 : Int32) then sk_12 x y S else
  if k = (13 : Int32) then sk_13 x y S else
  if k = (14 : Int32) then sk_14 x y S else
  if k = (15 : Int32) then sk_15 x y S else
  if k = (16 : Int32) then sk_16 x y S else
  if k = (17 : Int32) then sk_17 x y S else
  if k = (18 : Int32) then sk_18 x y S else
  if k = (19 : Int32) then sk_19 x y S else
  if k = (20 : Int32) then sk_20 x y S else
  if k = (21 : Int32) then sk_21 x y S else
  if k = (22 : Int32) then sk_22 x y S else
  if k = (23 : Int32) then sk_23 x y S else
  if k = (24 : Int32) then sk_24 x y S else
  if k = (25 : Int32) then sk_25 x y S else
  if k = (26 : Int32) then sk_26 x y S else
  if k = (27 : Int32) then sk_27 x y S else
  if k = (28 : Int32) then sk_28 x y S else
  if k = (29 : Int32) then sk_29 x y S else
  if k = (30 : Int32) then sk_30 x y S else
  if k = (31 : Int32) then sk_31 x y S else
  if k = (32 : Int32) then sk_32 x y S else
  if k = (33 : Int32) then sk_33 x y S else
  if k = (34 : Int32) then sk_34 x y S else
  if k = (35 : Int32) then sk_35 x y S else
  if k = (36 : Int32) then sk_36 x y S else
  some S
set_option maxHeartbeats 4000000 in
set_option maxRecDepth 100000 in
theorem lc_0 {p : Program} {l : Launch} {e : Env} {s : State} {m : MethodId} {below : List Frame} {meth : Method} {c : Code} {b0 : Nat} {D : va_G} {cy : Nat → ClassId} {b L : Nat} {xs : Nat → Int32} {Q : State → Prop} (C0 : Cx p m c cL_law 4 s #[Value.ref b] RL D cy) (hX : va_X b L xs s s.heap) (hbl : b < s.heap.size) (hbA : ¬ b0 ≤ b) {S S1 : Mem} {H : Heap} {locs : List Loc} {ls : Array Slot} {x3 : Int32} (hw : Wd b0 D cy S s.heap H locs) (hl : lv_has ls 4 [(0, .ref b), (1, .ref (b0 + 0)), (2, .ref (b0 + 216)), (3, .int x3)]) (hi1 : vp_in (x3 + (1 : Int32)) L) (hi2 : vp_in (x3 + (2 : Int32)) L) (h : sk_0 (xs (x3 + (1 : Int32)).toNatClampNeg) (xs (x3 + (2 : Int32)).toNatClampNeg) S = some S1) (kk : ∀ (H : Heap) (locs : List Loc), Wd b0 D cy S1 s.heap H locs → W p l e room_1 s m #[Value.ref b] below meth c H locs 600000 7302250 Q (F0 m 1115 ls [])) : W p l e room_1 s m #[Value.ref b] below meth c H locs 600000 7302250 Q (F0 m 196 ls []) := by
  rw [sk_0] at h
  refine lv_aload_n C0.hx C0.hb dL_law_196 rfl (lv_at hl 1 rfl) ?_
  refine lv_aload_n C0.hx C0.hb dL_law_197 rfl (lv_at hl 0 rfl) ?_
  refine lv_iload_n C0.hx C0.hb dL_law_198 rfl (lv_at hl 3 rfl) ?_
  refine lv_iconst (v := (1 : Int32)) C0.hx C0.hb dL_law_199 (by decide) ?_
  refine lv_iadd C0.hx C0.hb dL_law_200 ?_
  refine va_sld C0.hx C0.hb hX hbl hbA hw.2 hi1 dL_law_201 ?_
  obtain ⟨c1, hc1, h⟩ := Option.bind_eq_some_iff.mp h
  obtain ⟨q2, hq2, h⟩ := Option.bind_eq_some_iff.mp h
  refine q_callV (n := 1) (av := [.int (xs (x3 + (1 : Int32)).toNatClampNeg)]) (rest := []) (st1 := [.int q2.1]) C0 hw (m_X8_feed l b0 D cy S 0 (xs (x3 + (1 : Int32)).toNatClampNeg) hq2) hc1 rfl (by decide) (goodV kw_381 kw_382 kw_383 kw_63 kw_384) ⟨rfl, rfl⟩ (by decide +kernel) ⟨(Nat.le_of_ble_eq_true rfl), (Nat.le_of_ble_eq_true rfl)⟩ rfl hl.1 rfl (Nat.le_of_ble_eq_true rfl) dL_law_202 ⟨Nat.le_refl _, Nat.le_refl _⟩ rfl (fun H locs hw => ?_)
  refine lv_aload_n C0.hx C0.hb dL_law_205 rfl (lv_at hl 2 rfl) ?_
  refine lv_aload_n C0.hx C0.hb dL_law_206 rfl (lv_at hl 0 rfl) ?_
  refine lv_iload_n C0.hx C0.hb dL_law_207 rfl (lv_at hl 3 rfl) ?_
  refine lv_iconst (v := (1 : Int32)) C0.hx C0.hb dL_law_208 (by decide) ?_
  refine lv_iadd C0.hx C0.hb dL_law_209 ?_
  refine va_sld C0.hx C0.hb hX hbl hbA hw.2 hi1 dL_law_210 ?_
  obtain ⟨c3, hc3, h⟩ := Option.bind_eq_some_iff.mp h
  obtain ⟨q4, hq4, h⟩ := Option.bind_eq_some_iff.mp h
  refine q_callV (n := 1) (av := [.int (xs (x3 + (1 : Int32)).toNatClampNeg)]) (rest := [.int q2.1]) (st1 := [.int q4.1, .int q2.1]) C0 hw (m_X9_feed l b0 D cy q2.2 216 (xs (x3 + (1 : Int32)).toNatClampNeg) hq4) hc3 rfl (by decide) (goodV kw_946 kw_947 kw_948 kw_72 kw_949) ⟨rfl, rfl⟩ (by decide +kernel) ⟨(Nat.le_of_ble_eq_true rfl), (Nat.le_of_ble_eq_true rfl)⟩ rfl hl.1 rfl (Nat.le_of_ble_eq_true rfl) dL_law_211 ⟨Nat.le_refl _, Nat.le_refl _⟩ rfl (fun H locs hw => ?_)
  refine lv_icmp_eq (tgt := 1115) C0.hx C0.hb dL_law_214 (by decide) (fun hc => ?_) (fun hc => ?_)
  · have h := (if_pos hc).symm.trans h
    obtain rfl := Option.some.inj h
    exact kk _ _ hw
  · have h := (if_neg hc).symm.trans h
    cases h
set_option maxHeartbeats 4000000 in
set_option maxRecDepth 100000 in
theorem lc_1 {p : Program} {l : Launch} {e : Env} {s : State} {m : MethodId} {below : List Frame} {meth : Method} {c : Code} {b0 : Nat} {D : va_G} {cy : Nat → ClassId} {b L : Nat} {xs : Nat → Int32} {Q : State → Prop} (C0 : Cx p m c cL_law 4 s #[Value.ref b] RL D cy) (hX : va_X b L xs s s.heap) (hbl : b < s.heap.size) (hbA : ¬ b0 ≤ b) {S S1 : Mem} {H : Heap} {locs : List Loc} {ls : Array Slot} {x3 : Int32} (hw : Wd b0 D cy S s.heap H locs) (hl : lv_has ls 4 [(0, .ref b), (1, .ref (b0 + 0)), (2, .ref (b0 + 216)), (3, .int x3)]) (hi1 : vp_in (x3 + (1 : Int32)) L) (hi2 : vp_in (x3 + (2 : Int32)) L) (h : sk_1 (xs (x3 + (1 : Int32)).toNatClampNeg) (xs (x3 + (2 : Int32)).toNatClampNeg) S = some S1) (kk : ∀ (H : Heap) (locs : List Loc), Wd b0 D cy S1 s.heap H locs → W p l e room_1 s m #[Value.ref b] below meth c H locs 600000 7302250 Q (F0 m 1115 ls [])) : W p l e room_1 s m #[Value.ref b] below meth c H locs 600000 7302250 Q (F0 m 219 ls []) := by
  rw [sk_1] at h
  refine lv_aload_n C0.hx C0.hb dL_law_219 rfl (lv_at hl 1 rfl) ?_
  obtain ⟨c1, hc1, h⟩ := Option.bind_eq_some_iff.mp h
  obtain ⟨q2, hq2, h⟩ := Option.bind_eq_some_iff.mp h
  refine q_callV (n := 0) (av := []) (rest := []) (st1 := [.int q2.1]) C0 hw (m_X8_palace l b0 D cy S 0 hq2) hc1 rfl (by decide) (goodV kw_391 kw_392 kw_393 kw_63 kw_394) ⟨rfl, rfl⟩ (by decide +kernel) ⟨(Nat.le_of_ble_eq_true rfl), (Nat.le_of_ble_eq_true rfl)⟩ rfl hl.1 rfl (Nat.le_of_ble_eq_true rfl) dL_law_220 ⟨Nat.le_refl _, Nat.le_refl _⟩ rfl (fun H locs hw => ?_)
  refine lv_aload_n C0.hx C0.hb dL_law_223 rfl (lv_at hl 2 rfl) ?_
  obtain ⟨c3, hc3, h⟩ := Option.bind_eq_some_iff.mp h
  obtain ⟨q4, hq4, h⟩ := Option.bind_eq_some_iff.mp h
  refine q_callV (n := 0) (av := []) (rest := [.int q2.1]) (st1 := [.int q4.1, .int q2.1]) C0 hw (m_X9_palace l b0 D cy q2.2 216 hq4) hc3 rfl (by decide) (goodV kw_956 kw_957 kw_958 kw_72 kw_959) ⟨rfl, rfl⟩ (by decide +kernel) ⟨(Nat.le_of_ble_eq_true rfl), (Nat.le_of_ble_eq_true rfl)⟩ rfl hl.1 rfl (Nat.le_of_ble_eq_true rfl) dL_law_224 ⟨Nat.le_refl _, Nat.le_refl _⟩ rfl (fun H locs hw => ?_)
  refine lv_icmp_eq (tgt := 1115) C0.hx C0.hb dL_law_227 (by decide) (fun hc => ?_) (fun hc => ?_)
  · have h := (if_pos hc).symm.trans h
    obtain rfl := Option.some.inj h
    exact kk _ _ hw
  · have h := (if_neg hc).symm.trans h
    cases h
set_option maxHeartbeats 4000000 in
set_option maxRecDepth 100000 in
theorem lc_2 {p : Program} {l : Launch} {e : Env} {s : State} {m : MethodId} {below : List Frame} {meth : Method} {c : Code} {b0 : Nat} {D : va_G} {cy : Nat → ClassId} {b L : Nat} {xs : Nat → Int32} {Q : State → Prop} (C0 : Cx p m c cL_law 4 s #[Value.ref b] RL D cy) (hX : va_X b L xs s s.heap) (hbl : b < s.heap.size) (hbA : ¬ b0 ≤ b) {S S1 : Mem} {H : Heap} {locs : List Loc} {ls : Array Slot} {x3 : Int32} (hw : Wd b0 D cy S s.heap H locs) (hl : lv_has ls 4 [(0, .ref b), (1, .ref (b0 + 0)), (2, .ref (b0 + 216)), (3, .int x3)]) (hi1 : vp_in (x3 + (1 : Int32)) L) (hi2 : vp_in (x3 + (2 : Int32)) L) (h : sk_2 (xs (x3 + (1 : Int32)).toNatClampNeg) (xs (x3 + (2 : Int32)).toNatClampNeg) S = some S1) (kk : ∀ (H : Heap) (locs : List Loc), Wd b0 D cy S1 s.heap H locs → W p l e room_1 s m #[Value.ref b] below meth c H locs 600000 7302250 Q (F0 m 1115 ls [])) : W p l e room_1 s m #[Value.ref b] below meth c H locs 600000 7302250 Q (F0 m 232 ls []) := by
  rw [sk_2] at h
  refine lv_aload_n C0.hx C0.hb dL_law_232 rfl (lv_at hl 1 rfl) ?_
  obtain ⟨c1, hc1, h⟩ := Option.bind_eq_some_iff.mp h
  obtain ⟨v2, hv2, h⟩ := Option.bind_eq_some_iff.mp h
  refine q_callV (n := 0) (av := []) (rest := []) (st1 := [.int v2]) C0 hw (m_X8_fault l b0 D cy S 0 hv2) hc1 rfl (by decide) (goodV kw_493 kw_494 kw_495 kw_63 kw_496) ⟨rfl, rfl⟩ (by decide +kernel) ⟨(Nat.le_of_ble_eq_true rfl), (Nat.le_of_ble_eq_true rfl)⟩ rfl hl.1 rfl (Nat.le_of_ble_eq_true rfl) dL_law_233 ⟨Nat.le_refl _, Nat.le_refl _⟩ rfl (fun H locs hw => ?_)
  refine lv_aload_n C0.hx C0.hb dL_law_236 rfl (lv_at hl 2 rfl) ?_
  obtain ⟨c3, hc3, h⟩ := Option.bind_eq_some_iff.mp h
  obtain ⟨v4, hv4, h⟩ := Option.bind_eq_some_iff.mp h
  refine q_callV (n := 0) (av := []) (rest := [.int v2]) (st1 := [.int v4, .int v2]) C0 hw (m_X9_fault l b0 D cy S 216 hv4) hc3 rfl (by decide) (goodV kw_1005 kw_1006 kw_1007 kw_72 kw_1008) ⟨rfl, rfl⟩ (by decide +kernel) ⟨(Nat.le_of_ble_eq_true rfl), (Nat.le_of_ble_eq_true rfl)⟩ rfl hl.1 rfl (Nat.le_of_ble_eq_true rfl) dL_law_237 ⟨Nat.le_refl _, Nat.le_refl _⟩ rfl (fun H locs hw => ?_)
  refine lv_icmp_eq (tgt := 1115) C0.hx C0.hb dL_law_240 (by decide) (fun hc => ?_) (fun hc => ?_)
  · have h := (if_pos hc).symm.trans h
    obtain rfl := Option.some.inj h
    exact kk _ _ hw
  · have h := (if_neg hc).symm.trans h
    cases h
set_option maxHeartbeats 4000000 in
set_option maxRecDepth 100000 in
theorem lc_3 {p : Program} {l : Launch} {e : Env} {s : State} {m : MethodId} {below : List Frame} {meth : Method} {c : Code} {b0 : Nat} {D : va_G} {cy : Nat → ClassId} {b L : Nat} {xs : Nat → Int32} {Q : State → Prop} (C0 : Cx p m c cL_law 4 s #[Value.ref b] RL D cy) (hX : va_X b L xs s s.heap) (hbl : b < s.heap.size) (hbA : ¬ b0 ≤ b) {S S1 : Mem} {H : Heap} {locs : List Loc} {ls : Array Slot} {x3 : Int32} (hw : Wd b0 D cy S s.heap H locs) (hl : lv_has ls 4 [(0, .ref b), (1, .ref (b0 + 0)), (2, .ref (b0 + 216)), (3, .int x3)]) (hi1 : vp_in (x3 + (1 : Int32)) L) (hi2 : vp_in (x3 + (2 : Int32)) L) (h : sk_3 (xs (x3 + (1 : Int32)).toNatClampNeg) (xs (x3 + (2 : Int32)).toNatClampNeg) S = some S1) (kk : ∀ (H : Heap) (locs : List Loc), Wd b0 D cy S1 s.heap H locs → W p l e room_1 s m #[Value.ref b] below meth c H locs 600000 7302250 Q (F0 m 1115 ls [])) : W p l e room_1 s m #[Value.ref b] below meth c H locs 600000 7302250 Q (F0 m 245 ls []) := by
  rw [sk_3] at h
  refine lv_aload_n C0.hx C0.hb dL_law_245 rfl (lv_at hl 1 rfl) ?_
  refine lv_aload_n C0.hx C0.hb dL_law_246 rfl (lv_at hl 0 rfl) ?_
  refine lv_iload_n C0.hx C0.hb dL_law_247 rfl (lv_at hl 3 rfl) ?_
  refine lv_iconst (v := (1 : Int32)) C0.hx C0.hb dL_law_248 (by decide) ?_
  refine lv_iadd C0.hx C0.hb dL_law_249 ?_
  refine va_sld C0.hx C0.hb hX hbl hbA hw.2 hi1 dL_law_250 ?_
  obtain ⟨c1, hc1, h⟩ := Option.bind_eq_some_iff.mp h
  obtain ⟨v2, hv2, h⟩ := Option.bind_eq_some_iff.mp h
  refine q_callV (n := 1) (av := [.int (xs (x3 + (1 : Int32)).toNatClampNeg)]) (rest := []) (st1 := [.int v2]) C0 hw (m_X8_told l b0 D cy S 0 (xs (x3 + (1 : Int32)).toNatClampNeg) hv2) hc1 rfl (by decide) (goodV kw_497 kw_498 kw_499 kw_63 kw_500) ⟨rfl, rfl⟩ (by decide +kernel) ⟨(Nat.le_of_ble_eq_true rfl), (Nat.le_of_ble_eq_true rfl)⟩ rfl hl.1 rfl (Nat.le_of_ble_eq_true rfl) dL_law_251 ⟨Nat.le_refl _, Nat.le_refl _⟩ rfl (fun H locs hw => ?_)
  refine lv_aload_n C0.hx C0.hb dL_law_254 rfl (lv_at hl 2 rfl) ?_
  refine lv_aload_n C0.hx C0.hb dL_law_255 rfl (lv_at hl 0 rfl) ?_
  refine lv_iload_n C0.hx C0.hb dL_law_256 rfl (lv_at hl 3 rfl) ?_
  refine lv_iconst (v := (1 : Int32)) C0.hx C0.hb dL_law_257 (by decide) ?_
  refine lv_iadd C0.hx C0.hb dL_law_258 ?_
  refine va_sld C0.hx C0.hb hX hbl hbA hw.2 hi1 dL_law_259 ?_
  obtain ⟨c3, hc3, h⟩ := Option.bind_eq_some_iff.mp h
  obtain ⟨v4, hv4, h⟩ := Option.bind_eq_some_iff.mp h
  refine q_callV (n := 1) (av := [.int (xs (x3 + (1 : Int32)).toNatClampNeg)]) (rest := [.int v2]) (st1 := [.int v4, .int v2]) C0 hw (m_X9_told l b0 D cy S 216 (xs (x3 + (1 : Int32)).toNatClampNeg) hv4) hc3 rfl (by decide) (goodV kw_1009 kw_1010 kw_1011 kw_72 kw_1012) ⟨rfl, rfl⟩ (by decide +kernel) ⟨(Nat.le_of_ble_eq_true rfl), (Nat.le_of_ble_eq_true rfl)⟩ rfl hl.1 rfl (Nat.le_of_ble_eq_true rfl) dL_law_260 ⟨Nat.le_refl _, Nat.le_refl _⟩ rfl (fun H locs hw => ?_)
  refine lv_icmp_eq (tgt := 1115) C0.hx C0.hb dL_law_263 (by decide) (fun hc => ?_) (fun hc => ?_)
  · have h := (if_pos hc).symm.trans h
    obtain rfl := Option.some.inj h
    exact kk _ _ hw
  · have h := (if_neg hc).symm.trans h
    cases h
set_option maxHeartbeats 4000000 in
set_option maxRecDepth 100000 in
theorem lc_4 {p : Program} {l : Launch} {e : Env} {s : State} {m : MethodId} {below : List Frame} {meth : Method} {c : Code} {b0 : Nat} {D : va_G} {cy : Nat → ClassId} {b L : Nat} {xs : Nat → Int32} {Q : State → Prop} (C0 : Cx p m c cL_law 4 s #[Value.ref b] RL D cy) (hX : va_X b L xs s s.heap) (hbl : b < s.heap.size) (hbA : ¬ b0 ≤ b) {S S1 : Mem} {H : Heap} {locs : List Loc} {ls : Array Slot} {x3 : Int32} (hw : Wd b0 D cy S s.heap H locs) (hl : lv_has ls 4 [(0, .ref b), (1, .ref (b0 + 0)), (2, .ref (b0 + 216)), (3, .int x3)]) (hi1 : vp_in (x3 + (1 : Int32)) L) (hi2 : vp_in (x3 + (2 : Int32)) L) (h : sk_4 (xs (x3 + (1 : Int32)).toNatClampNeg) (xs (x3 + (2 : Int32)).toNatClampNeg) S = some S1) (kk : ∀ (H : Heap) (locs : List Loc), Wd b0 D cy S1 s.heap H locs → W p l e room_1 s m #[Value.ref b] below meth c H locs 600000 7302250 Q (F0 m 1115 ls [])) : W p l e room_1 s m #[Value.ref b] below meth c H locs 600000 7302250 Q (F0 m 268 ls []) := by
  rw [sk_4] at h
  refine lv_aload_n C0.hx C0.hb dL_law_268 rfl (lv_at hl 1 rfl) ?_
  refine lv_aload_n C0.hx C0.hb dL_law_269 rfl (lv_at hl 0 rfl) ?_
  refine lv_iload_n C0.hx C0.hb dL_law_270 rfl (lv_at hl 3 rfl) ?_
  refine lv_iconst (v := (1 : Int32)) C0.hx C0.hb dL_law_271 (by decide) ?_
  refine lv_iadd C0.hx C0.hb dL_law_272 ?_
  refine va_sld C0.hx C0.hb hX hbl hbA hw.2 hi1 dL_law_273 ?_
  refine lv_aload_n C0.hx C0.hb dL_law_274 rfl (lv_at hl 0 rfl) ?_
  refine lv_iload_n C0.hx C0.hb dL_law_275 rfl (lv_at hl 3 rfl) ?_
  refine lv_iconst (v := (2 : Int32)) C0.hx C0.hb dL_law_276 (by decide) ?_
  refine lv_iadd C0.hx C0.hb dL_law_277 ?_
  refine va_sld C0.hx C0.hb hX hbl hbA hw.2 hi2 dL_law_278 ?_
  obtain ⟨c1, hc1, h⟩ := Option.bind_eq_some_iff.mp h
  obtain ⟨v2, hv2, h⟩ := Option.bind_eq_some_iff.mp h
  refine q_callV (n := 2) (av := [.int (xs (x3 + (1 : Int32)).toNatClampNeg), .int (xs (x3 + (2 : Int32)).toNatClampNeg)]) (rest := []) (st1 := [.int v2]) C0 hw (m_X8_room l b0 D cy S 0 (xs (x3 + (1 : Int32)).toNatClampNeg) (xs (x3 + (2 : Int32)).toNatClampNeg) hv2) hc1 rfl (by decide) (goodV kw_501 kw_502 kw_503 kw_63 kw_504) ⟨rfl, rfl⟩ (by decide +kernel) ⟨(Nat.le_of_ble_eq_true rfl), (Nat.le_of_ble_eq_true rfl)⟩ rfl hl.1 rfl (Nat.le_of_ble_eq_true rfl) dL_law_279 ⟨Nat.le_refl _, Nat.le_refl _⟩ rfl (fun H locs hw => ?_)
  refine lv_aload_n C0.hx C0.hb dL_law_282 rfl (lv_at hl 2 rfl) ?_
  refine lv_aload_n C0.hx C0.hb dL_law_283 rfl (lv_at hl 0 rfl) ?_
  refine lv_iload_n C0.hx C0.hb dL_law_284 rfl (lv_at hl 3 rfl) ?_
  refine lv_iconst (v := (1 : Int32)) C0.hx C0.hb dL_law_285 (by decide) ?_
  refine lv_iadd C0.hx C0.hb dL_law_286 ?_
  refine va_sld C0.hx C0.hb hX hbl hbA hw.2 hi1 dL_law_287 ?_
  refine lv_aload_n C0.hx C0.hb dL_law_288 rfl (lv_at hl 0 rfl) ?_
  refine lv_iload_n C0.hx C0.hb dL_law_289 rfl (lv_at hl 3 rfl) ?_
  refine lv_iconst (v := (2 : Int32)) C0.hx C0.hb dL_law_290 (by decide) ?_
  refine lv_iadd C0.hx C0.hb dL_law_291 ?_
  refine va_sld C0.hx C0.hb hX hbl hbA hw.2 hi2 dL_law_292 ?_
  obtain ⟨c3, hc3, h⟩ := Option.bind_eq_some_iff.mp h
  obtain ⟨v4, hv4, h⟩ := Option.bind_eq_some_iff.mp h
  refine q_callV (n := 2) (av := [.int (xs (x3 + (1 : Int32)).toNatClampNeg), .int (xs (x3 + (2 : Int32)).toNatClampNeg)]) (rest := [.int v2]) (st1 := [.int v4, .int v2]) C0 hw (m_X9_room l b0 D cy S 216 (xs (x3 + (1 : Int32)).toNatClampNeg) (xs (x3 + (2 : Int32)).toNatClampNeg) hv4) hc3 rfl (by decide) (goodV kw_1017 kw_1018 kw_1019 kw_72 kw_1020) ⟨rfl, rfl⟩ (by decide +kernel) ⟨(Nat.le_of_ble_eq_true rfl), (Nat.le_of_ble_eq_true rfl)⟩ rfl hl.1 rfl (Nat.le_of_ble_eq_true rfl) dL_law_293 ⟨Nat.le_refl _, Nat.le_refl _⟩ rfl (fun H locs hw => ?_)
  refine lv_icmp_eq (tgt := 1115) C0.hx C0.hb dL_law_296 (by decide) (fun hc => ?_) (fun hc => ?_)
  · have h := (if_pos hc).symm.trans h
    obtain rfl := Option.some.inj h
    exact kk _ _ hw
  · have h := (if_neg hc).symm.trans h
    cases h
set_option maxHeartbeats 4000000 in
set_option maxRecDepth 100000 in
theorem lc_5 {p : Program} {l : Launch} {e : Env} {s : State} {m : MethodId} {below : List Frame} {meth : Method} {c : Code} {b0 : Nat} {D : va_G} {cy : Nat → ClassId} {b L : Nat} {xs : Nat → Int32} {Q : State → Prop} (C0 : Cx p m c cL_law 4 s #[Value.ref b] RL D cy) (hX : va_X b L xs s s.heap) (hbl : b < s.heap.size) (hbA : ¬ b0 ≤ b) {S S1 : Mem} {H : Heap} {locs : List Loc} {ls : Array Slot} {x3 : Int32} (hw : Wd b0 D cy S s.heap H locs) (hl : lv_has ls 4 [(0, .ref b), (1, .ref (b0 + 0)), (2, .ref (b0 + 216)), (3, .int x3)]) (hi1 : vp_in (x3 + (1 : Int32)) L) (hi2 : vp_in (x3 + (2 : Int32)) L) (h : sk_5 (xs (x3 + (1 : Int32)).toNatClampNeg) (xs (x3 + (2 : Int32)).toNatClampNeg) S = some S1) (kk : ∀ (H : Heap) (locs : List Loc), Wd b0 D cy S1 s.heap H locs → W p l e room_1 s m #[Value.ref b] below meth c H locs 600000 7302250 Q (F0 m 1115 ls [])) : W p l e room_1 s m #[Value.ref b] below meth c H locs 600000 7302250 Q (F0 m 301 ls []) := by
  rw [sk_5] at h
  refine lv_aload_n C0.hx C0.hb dL_law_301 rfl (lv_at hl 1 rfl) ?_
  refine lv_aload_n C0.hx C0.hb dL_law_302 rfl (lv_at hl 0 rfl) ?_
  refine lv_iload_n C0.hx C0.hb dL_law_303 rfl (lv_at hl 3 rfl) ?_
  refine lv_iconst (v := (1 : Int32)) C0.hx C0.hb dL_law_304 (by decide) ?_
  refine lv_iadd C0.hx C0.hb dL_law_305 ?_
  refine va_sld C0.hx C0.hb hX hbl hbA hw.2 hi1 dL_law_306 ?_
  refine lv_aload_n C0.hx C0.hb dL_law_307 rfl (lv_at hl 0 rfl) ?_
  refine lv_iload_n C0.hx C0.hb dL_law_308 rfl (lv_at hl 3 rfl) ?_
  refine lv_iconst (v := (2 : Int32)) C0.hx C0.hb dL_law_309 (by decide) ?_
  refine lv_iadd C0.hx C0.hb dL_law_310 ?_
  refine va_sld C0.hx C0.hb hX hbl hbA hw.2 hi2 dL_law_311 ?_
  obtain ⟨c1, hc1, h⟩ := Option.bind_eq_some_iff.mp h
  obtain ⟨v2, hv2, h⟩ := Option.bind_eq_some_iff.mp h
  refine q_callV (n := 2) (av := [.int (xs (x3 + (1 : Int32)).toNatClampNeg), .int (xs (x3 + (2 : Int32)).toNatClampNeg)]) (rest := []) (st1 := [.int v2]) C0 hw (m_X8_petition l b0 D cy S 0 (xs (x3 + (1 : Int32)).toNatClampNeg) (xs (x3 + (2 : Int32)).toNatClampNeg) hv2) hc1 rfl (by decide) (goodV kw_538 kw_539 kw_540 kw_63 kw_541) ⟨rfl, rfl⟩ (by decide +kernel) ⟨(Nat.le_of_ble_eq_true rfl), (Nat.le_of_ble_eq_true rfl)⟩ rfl hl.1 rfl (Nat.le_of_ble_eq_true rfl) dL_law_312 ⟨Nat.le_refl _, Nat.le_refl _⟩ rfl (fun H locs hw => ?_)
  refine lv_aload_n C0.hx C0.hb dL_law_315 rfl (lv_at hl 2 rfl) ?_
  refine lv_aload_n C0.hx C0.hb dL_law_316 rfl (lv_at hl 0 rfl) ?_
  refine lv_iload_n C0.hx C0.hb dL_law_317 rfl (lv_at hl 3 rfl) ?_
  refine lv_iconst (v := (1 : Int32)) C0.hx C0.hb dL_law_318 (by decide) ?_
  refine lv_iadd C0.hx C0.hb dL_law_319 ?_
  refine va_sld C0.hx C0.hb hX hbl hbA hw.2 hi1 dL_law_320 ?_
  refine lv_aload_n C0.hx C0.hb dL_law_321 rfl (lv_at hl 0 rfl) ?_
  refine lv_iload_n C0.hx C0.hb dL_law_322 rfl (lv_at hl 3 rfl) ?_
  refine lv_iconst (v := (2 : Int32)) C0.hx C0.hb dL_law_323 (by decide) ?_
  refine lv_iadd C0.hx C0.hb dL_law_324 ?_
  refine va_sld C0.hx C0.hb hX hbl hbA hw.2 hi2 dL_law_325 ?_
  obtain ⟨c3, hc3, h⟩ := Option.bind_eq_some_iff.mp h
  obtain ⟨v4, hv4, h⟩ := Option.bind_eq_some_iff.mp h
  refine q_callV (n := 2) (av := [.int (xs (x3 + (1 : Int32)).toNatClampNeg), .int (xs (x3 + (2 : Int32)).toNatClampNeg)]) (rest := [.int v2]) (st1 := [.int v4, .int v2]) C0 hw (m_X9_petition l b0 D cy S 216 (xs (x3 + (1 : Int32)).toNatClampNeg) (xs (x3 + (2 : Int32)).toNatClampNeg) hv4) hc3 rfl (by decide) (goodV kw_1051 kw_1052 kw_1053 kw_72 kw_1054) ⟨rfl, rfl⟩ (by decide +kernel) ⟨(Nat.le_of_ble_eq_true rfl), (Nat.le_of_ble_eq_true rfl)⟩ rfl hl.1 rfl (Nat.le_of_ble_eq_true rfl) dL_law_326 ⟨Nat.le_refl _, Nat.le_refl _⟩ rfl (fun H locs hw => ?_)
  refine lv_icmp_eq (tgt := 1115) C0.hx C0.hb dL_law_329 (by decide) (fun hc => ?_) (fun hc => ?_)
  · have h := (if_pos hc).symm.trans h
    obtain rfl := Option.some.inj h
    exact kk _ _ hw
  · have h := (if_neg hc).symm.trans h
    cases h
set_option maxHeartbeats 4000000 in
set_option maxRecDepth 100000 in
theorem lc_6 {p : Program} {l : Launch} {e : Env} {s : State} {m : MethodId} {below : List Frame} {meth : Method} {c : Code} {b0 : Nat} {D : va_G} {cy : Nat → ClassId} {b L : Nat} {xs : Nat → Int32} {Q : State → Prop} (C0 : Cx p m c cL_law 4 s #[Value.ref b] RL D cy) (hX : va_X b L xs s s.heap) (hbl : b < s.heap.size) (hbA : ¬ b0 ≤ b) {S S1 : Mem} {H : Heap} {locs : List Loc} {ls : Array Slot} {x3 : Int32} (hw : Wd b0 D cy S s.heap H locs) (hl : lv_has ls 4 [(0, .ref b), (1, .ref (b0 + 0)), (2, .ref (b0 + 216)), (3, .int x3)]) (hi1 : vp_in (x3 + (1 : Int32)) L) (hi2 : vp_in (x3 + (2 : Int32)) L) (h : sk_6 (xs (x3 + (1 : Int32)).toNatClampNeg) (xs (x3 + (2 : Int32)).toNatClampNeg) S = some S1) (kk : ∀ (H : Heap) (locs : List Loc), Wd b0 D cy S1 s.heap H locs → W p l e room_1 s m #[Value.ref b] below meth c H locs 600000 7302250 Q (F0 m 1115 ls [])) : W p l e room_1 s m #[Value.ref b] below meth c H locs 600000 7302250 Q (F0 m 334 ls []) := by
  rw [sk_6] at h
  refine lv_aload_n C0.hx C0.hb dL_law_334 rfl (lv_at hl 1 rfl) ?_
  refine lv_aload_n C0.hx C0.hb dL_law_335 rfl (lv_at hl 0 rfl) ?_
  refine lv_iload_n C0.hx C0.hb dL_law_336 rfl (lv_at hl 3 rfl) ?_
  refine lv_iconst (v := (1 : Int32)) C0.hx C0.hb dL_law_337 (by decide) ?_
  refine lv_iadd C0.hx C0.hb dL_law_338 ?_
  refine va_sld C0.hx C0.hb hX hbl hbA hw.2 hi1 dL_law_339 ?_
  obtain ⟨c1, hc1, h⟩ := Option.bind_eq_some_iff.mp h
  obtain ⟨v2, hv2, h⟩ := Option.bind_eq_some_iff.mp h
  refine q_callV (n := 1) (av := [.int (xs (x3 + (1 : Int32)).toNatClampNeg)]) (rest := []) (st1 := [.int v2]) C0 hw (m_X8_went l b0 D cy S 0 (xs (x3 + (1 : Int32)).toNatClampNeg) hv2) hc1 rfl (by decide) (goodV kw_546 kw_547 kw_548 kw_63 kw_549) ⟨rfl, rfl⟩ (by decide +kernel) ⟨(Nat.le_of_ble_eq_true rfl), (Nat.le_of_ble_eq_true rfl)⟩ rfl hl.1 rfl (Nat.le_of_ble_eq_true rfl) dL_law_340 ⟨Nat.le_refl _, Nat.le_refl _⟩ rfl (fun H locs hw => ?_)
  refine lv_aload_n C0.hx C0.hb dL_law_343 rfl (lv_at hl 2 rfl) ?_
  refine lv_aload_n C0.hx C0.hb dL_law_344 rfl (lv_at hl 0 rfl) ?_
  refine lv_iload_n C0.hx C0.hb dL_law_345 rfl (lv_at hl 3 rfl) ?_
  refine lv_iconst (v := (1 : Int32)) C0.hx C0.hb dL_law_346 (by decide) ?_
  refine lv_iadd C0.hx C0.hb dL_law_347 ?_
  refine va_sld C0.hx C0.hb hX hbl hbA hw.2 hi1 dL_law_348 ?_
  obtain ⟨c3, hc3, h⟩ := Option.bind_eq_some_iff.mp h
  obtain ⟨v4, hv4, h⟩ := Option.bind_eq_some_iff.mp h
  refine q_callV (n := 1) (av := [.int (xs (x3 + (1 : Int32)).toNatClampNeg)]) (rest := [.int v2]) (st1 := [.int v4, .int v2]) C0 hw (m_X9_went l b0 D cy S 216 (xs (x3 + (1 : Int32)).toNatClampNeg) hv4) hc3 rfl (by decide) (goodV kw_1059 kw_1060 kw_1061 kw_72 kw_1062) ⟨rfl, rfl⟩ (by decide +kernel) ⟨(Nat.le_of_ble_eq_true rfl), (Nat.le_of_ble_eq_true rfl)⟩ rfl hl.1 rfl (Nat.le_of_ble_eq_true rfl) dL_law_349 ⟨Nat.le_refl _, Nat.le_refl _⟩ rfl (fun H locs hw => ?_)
  refine lv_icmp_eq (tgt := 1115) C0.hx C0.hb dL_law_352 (by decide) (fun hc => ?_) (fun hc => ?_)
  · have h := (if_pos hc).symm.trans h
    obtain rfl := Option.some.inj h
    exact kk _ _ hw
  · have h := (if_neg hc).symm.trans h
    cases h
set_option maxHeartbeats 4000000 in
set_option maxRecDepth 100000 in
theorem lc_7 {p : Program} {l : Launch} {e : Env} {s : State} {m : MethodId} {below : List Frame} {meth : Method} {c : Code} {b0 : Nat} {D : va_G} {cy : Nat → ClassId} {b L : Nat} {xs : Nat → Int32} {Q : State → Prop} (C0 : Cx p m c cL_law 4 s #[Value.ref b] RL D cy) (hX : va_X b L xs s s.heap) (hbl : b < s.heap.size) (hbA : ¬ b0 ≤ b) {S S1 : Mem} {H : Heap} {locs : List Loc} {ls : Array Slot} {x3 : Int32} (hw : Wd b0 D cy S s.heap H locs) (hl : lv_has ls 4 [(0, .ref b), (1, .ref (b0 + 0)), (2, .ref (b0 + 216)), (3, .int x3)]) (hi1 : vp_in (x3 + (1 : Int32)) L) (hi2 : vp_in (x3 + (2 : Int32)) L) (h : sk_7 (xs (x3 + (1 : Int32)).toNatClampNeg) (xs (x3 + (2 : Int32)).toNatClampNeg) S = some S1) (kk : ∀ (H : Heap) (locs : List Loc), Wd b0 D cy S1 s.heap H locs → W p l e room_1 s m #[Value.ref b] below meth c H locs 600000 7302250 Q (F0 m 1115 ls [])) : W p l e room_1 s m #[Value.ref b] below meth c H locs 600000 7302250 Q (F0 m 357 ls []) := by
  rw [sk_7] at h
  refine lv_aload_n C0.hx C0.hb dL_law_357 rfl (lv_at hl 1 rfl) ?_
  refine lv_aload_n C0.hx C0.hb dL_law_358 rfl (lv_at hl 0 rfl) ?_
  refine lv_iload_n C0.hx C0.hb dL_law_359 rfl (lv_at hl 3 rfl) ?_
  refine lv_iconst (v := (1 : Int32)) C0.hx C0.hb dL_law_360 (by decide) ?_
  refine lv_iadd C0.hx C0.hb dL_law_361 ?_
  refine va_sld C0.hx C0.hb hX hbl hbA hw.2 hi1 dL_law_362 ?_
  obtain ⟨c1, hc1, h⟩ := Option.bind_eq_some_iff.mp h
  obtain ⟨q2, hq2, h⟩ := Option.bind_eq_some_iff.mp h
  refine q_callV (n := 1) (av := [.int (xs (x3 + (1 : Int32)).toNatClampNeg)]) (rest := []) (st1 := [.int q2.1]) C0 hw (m_X8_hour l b0 D cy S 0 (xs (x3 + (1 : Int32)).toNatClampNeg) hq2) hc1 rfl (by decide) (goodV kw_554 kw_555 kw_556 kw_63 kw_557) ⟨rfl, rfl⟩ (by decide +kernel) ⟨(Nat.le_of_ble_eq_true rfl), (Nat.le_of_ble_eq_true rfl)⟩ rfl hl.1 rfl (Nat.le_of_ble_eq_true rfl) dL_law_363 ⟨Nat.le_refl _, Nat.le_refl _⟩ rfl (fun H locs hw => ?_)
  refine lv_aload_n C0.hx C0.hb dL_law_366 rfl (lv_at hl 2 rfl) ?_
  refine lv_aload_n C0.hx C0.hb dL_law_367 rfl (lv_at hl 0 rfl) ?_
  refine lv_iload_n C0.hx C0.hb dL_law_368 rfl (lv_at hl 3 rfl) ?_
  refine lv_iconst (v := (1 : Int32)) C0.hx C0.hb dL_law_369 (by decide) ?_
  refine lv_iadd C0.hx C0.hb dL_law_370 ?_
  refine va_sld C0.hx C0.hb hX hbl hbA hw.2 hi1 dL_law_371 ?_
  obtain ⟨c3, hc3, h⟩ := Option.bind_eq_some_iff.mp h
  obtain ⟨q4, hq4, h⟩ := Option.bind_eq_some_iff.mp h
  refine q_callV (n := 1) (av := [.int (xs (x3 + (1 : Int32)).toNatClampNeg)]) (rest := [.int q2.1]) (st1 := [.int q4.1, .int q2.1]) C0 hw (m_X9_hour l b0 D cy q2.2 216 (xs (x3 + (1 : Int32)).toNatClampNeg) hq4) hc3 rfl (by decide) (goodV kw_1072 kw_1073 kw_1074 kw_72 kw_1075) ⟨rfl, rfl⟩ (by decide +kernel) ⟨(Nat.le_of_ble_eq_true rfl), (Nat.le_of_ble_eq_true rfl)⟩ rfl hl.1 rfl (Nat.le_of_ble_eq_true rfl) dL_law_372 ⟨Nat.le_refl _, Nat.le_refl _⟩ rfl (fun H locs hw => ?_)
  refine lv_icmp_eq (tgt := 1115) C0.hx C0.hb dL_law_375 (by decide) (fun hc => ?_) (fun hc => ?_)
  · have h := (if_pos hc).symm.trans h
    obtain rfl := Option.some.inj h
    exact kk _ _ hw
  · have h := (if_neg hc).symm.trans h
    cases h
set_option maxHeartbeats 4000000 in
set_option maxRecDepth 100000 in
theorem lc_8 {p : Program} {l : Launch} {e : Env} {s : State} {m : MethodId} {below : List Frame} {meth : Method} {c : Code} {b0 : Nat} {D : va_G} {cy : Nat → ClassId} {b L : Nat} {xs : Nat → Int32} {Q : State → Prop} (C0 : Cx p m c cL_law 4 s #[Value.ref b] RL D cy) (hX : va_X b L xs s s.heap) (hbl : b < s.heap.size) (hbA : ¬ b0 ≤ b) {S S1 : Mem} {H : Heap} {locs : List Loc} {ls : Array Slot} {x3 : Int32} (hw : Wd b0 D cy S s.heap H locs) (hl : lv_has ls 4 [(0, .ref b), (1, .ref (b0 + 0)), (2, .ref (b0 + 216)), (3, .int x3)]) (hi1 : vp_in (x3 + (1 : Int32)) L) (hi2 : vp_in (x3 + (2 : Int32)) L) (h : sk_8 (xs (x3 + (1 : Int32)).toNatClampNeg) (xs (x3 + (2 : Int32)).toNatClampNeg) S = some S1) (kk : ∀ (H : Heap) (locs : List Loc), Wd b0 D cy S1 s.heap H locs → W p l e room_1 s m #[Value.ref b] below meth c H locs 600000 7302250 Q (F0 m 1115 ls [])) : W p l e room_1 s m #[Value.ref b] below meth c H locs 600000 7302250 Q (F0 m 380 ls []) := by
  rw [sk_8] at h
  refine lv_aload_n C0.hx C0.hb dL_law_380 rfl (lv_at hl 1 rfl) ?_
  refine lv_aload_n C0.hx C0.hb dL_law_381 rfl (lv_at hl 0 rfl) ?_
  refine lv_iload_n C0.hx C0.hb dL_law_382 rfl (lv_at hl 3 rfl) ?_
  refine lv_iconst (v := (1 : Int32)) C0.hx C0.hb dL_law_383 (by decide) ?_
  refine lv_iadd C0.hx C0.hb dL_law_384 ?_
  refine va_sld C0.hx C0.hb hX hbl hbA hw.2 hi1 dL_law_385 ?_
  refine lv_aload_n C0.hx C0.hb dL_law_386 rfl (lv_at hl 0 rfl) ?_
  refine lv_iload_n C0.hx C0.hb dL_law_387 rfl (lv_at hl 3 rfl) ?_
  refine lv_iconst (v := (2 : Int32)) C0.hx C0.hb dL_law_388 (by decide) ?_
  refine lv_iadd C0.hx C0.hb dL_law_389 ?_
  refine va_sld C0.hx C0.hb hX hbl hbA hw.2 hi2 dL_law_390 ?_
  refine lv_if_eq (tgt := 398) C0.hx C0.hb dL_law_391 (by decide) (fun hz => ?_) (fun hz => ?_)
  · have h := (if_pos hz).symm.trans h
    refine lv_iconst (v := (0 : Int32)) C0.hx C0.hb dL_law_398 (by decide) ?_
    obtain ⟨c1, hc1, h⟩ := Option.bind_eq_some_iff.mp h
    obtain ⟨q2, hq2, h⟩ := Option.bind_eq_some_iff.mp h
    refine q_callV (n := 2) (av := [.int (xs (x3 + (1 : Int32)).toNatClampNeg), .int (0 : Int32)]) (rest := []) (st1 := [.int q2.1]) C0 hw (m_X8_carpet l b0 D cy S 0 (xs (x3 + (1 : Int32)).toNatClampNeg) (0 : Int32) hq2) hc1 rfl (by decide) (goodV kw_625 kw_626 kw_627 kw_63 kw_628) ⟨rfl, rfl⟩ (by decide +kernel) ⟨(Nat.le_of_ble_eq_true rfl), (Nat.le_of_ble_eq_true rfl)⟩ rfl hl.1 rfl (Nat.le_of_ble_eq_true rfl) dL_law_399 ⟨Nat.le_refl _, Nat.le_refl _⟩ rfl (fun H locs hw => ?_)
    refine lv_aload_n C0.hx C0.hb dL_law_402 rfl (lv_at hl 2 rfl) ?_
    refine lv_aload_n C0.hx C0.hb dL_law_403 rfl (lv_at hl 0 rfl) ?_
    refine lv_iload_n C0.hx C0.hb dL_law_404 rfl (lv_at hl 3 rfl) ?_
    refine lv_iconst (v := (1 : Int32)) C0.hx C0.hb dL_law_405 (by decide) ?_
    refine lv_iadd C0.hx C0.hb dL_law_406 ?_
    refine va_sld C0.hx C0.hb hX hbl hbA hw.2 hi1 dL_law_407 ?_
    refine lv_aload_n C0.hx C0.hb dL_law_408 rfl (lv_at hl 0 rfl) ?_
    refine lv_iload_n C0.hx C0.hb dL_law_409 rfl (lv_at hl 3 rfl) ?_
    refine lv_iconst (v := (2 : Int32)) C0.hx C0.hb dL_law_410 (by decide) ?_
    refine lv_iadd C0.hx C0.hb dL_law_411 ?_
    refine va_sld C0.hx C0.hb hX hbl hbA hw.2 hi2 dL_law_412 ?_
    refine lv_if_eq (tgt := 420) C0.hx C0.hb dL_law_413 (by decide) (fun _ => ?_) (fun hq => absurd hz hq)
    refine lv_iconst (v := (0 : Int32)) C0.hx C0.hb dL_law_420 (by decide) ?_
    obtain ⟨c3, hc3, h⟩ := Option.bind_eq_some_iff.mp h
    obtain ⟨q4, hq4, h⟩ := Option.bind_eq_some_iff.mp h
    refine q_callV (n := 2) (av := [.int (xs (x3 + (1 : Int32)).toNatClampNeg), .int (0 : Int32)]) (rest := [.int q2.1]) (st1 := [.int q4.1, .int q2.1]) C0 hw (m_X9_carpet l b0 D cy q2.2 216 (xs (x3 + (1 : Int32)).toNatClampNeg) (0 : Int32) hq4) hc3 rfl (by decide) (goodV kw_1115 kw_1116 kw_1117 kw_72 kw_1118) ⟨rfl, rfl⟩ (by decide +kernel) ⟨(Nat.le_of_ble_eq_true rfl), (Nat.le_of_ble_eq_true rfl)⟩ rfl hl.1 rfl (Nat.le_of_ble_eq_true rfl) dL_law_421 ⟨Nat.le_refl _, Nat.le_refl _⟩ rfl (fun H locs hw => ?_)
    refine lv_icmp_eq (tgt := 1115) C0.hx C0.hb dL_law_424 (by decide) (fun hc => ?_) (fun hc => ?_)
    · have h := (if_pos hc).symm.trans h
      obtain rfl := Option.some.inj h
      exact kk _ _ hw
    · have h := (if_neg hc).symm.trans h
      cases h
  · have h := (if_neg hz).symm.trans h
    refine lv_iconst (v := (1 : Int32)) C0.hx C0.hb dL_law_394 (by decide) ?_
    refine lv_goto (tgt := 399) C0.hx C0.hb dL_law_395 (by decide) ?_
    obtain ⟨c5, hc5, h⟩ := Option.bind_eq_some_iff.mp h
    obtain ⟨q6, hq6, h⟩ := Option.bind_eq_some_iff.mp h
    refine q_callV (n := 2) (av := [.int (xs (x3 + (1 : Int32)).toNatClampNeg), .int (1 : Int32)]) (rest := []) (st1 := [.int q6.1]) C0 hw (m_X8_carpet l b0 D cy S 0 (xs (x3 + (1 : Int32)).toNatClampNeg) (1 : Int32) hq6) hc5 rfl (by decide) (goodV kw_625 kw_626 kw_627 kw_63 kw_628) ⟨rfl, rfl⟩ (by decide +kernel) ⟨(Nat.le_of_ble_eq_true rfl), (Nat.le_of_ble_eq_true rfl)⟩ rfl hl.1 rfl (Nat.le_of_ble_eq_true rfl) dL_law_399 ⟨Nat.le_refl _, Nat.le_refl _⟩ rfl (fun H locs hw => ?_)
    refine lv_aload_n C0.hx C0.hb dL_law_402 rfl (lv_at hl 2 rfl) ?_
    refine lv_aload_n C0.hx C0.hb dL_law_403 rfl (lv_at hl 0 rfl) ?_
    refine lv_iload_n C0.hx C0.hb dL_law_404 rfl (lv_at hl 3 rfl) ?_
    refine lv_iconst (v := (1 : Int32)) C0.hx C0.hb dL_law_405 (by decide) ?_
    refine lv_iadd C0.hx C0.hb dL_law_406 ?_
    refine va_sld C0.hx C0.hb hX hbl hbA hw.2 hi1 dL_law_407 ?_
    refine lv_aload_n C0.hx C0.hb dL_law_408 rfl (lv_at hl 0 rfl) ?_
    refine lv_iload_n C0.hx C0.hb dL_law_409 rfl (lv_at hl 3 rfl) ?_
    refine lv_iconst (v := (2 : Int32)) C0.hx C0.hb dL_law_410 (by decide) ?_
    refine lv_iadd C0.hx C0.hb dL_law_411 ?_
    refine va_sld C0.hx C0.hb hX hbl hbA hw.2 hi2 dL_law_412 ?_
    refine lv_if_eq (tgt := 420) C0.hx C0.hb dL_law_413 (by decide) (fun hq => absurd hq hz) (fun _ => ?_)
    refine lv_iconst (v := (1 : Int32)) C0.hx C0.hb dL_law_416 (by decide) ?_
    refine lv_goto (tgt := 421) C0.hx C0.hb dL_law_417 (by decide) ?_
    obtain ⟨c7, hc7, h⟩ := Option.bind_eq_some_iff.mp h
    obtain ⟨q8, hq8, h⟩ := Option.bind_eq_some_iff.mp h
    refine q_callV (n := 2) (av := [.int (xs (x3 + (1 : Int32)).toNatClampNeg), .int (1 : Int32)]) (rest := [.int q6.1]) (st1 := [.int q8.1, .int q6.1]) C0 hw (m_X9_carpet l b0 D cy q6.2 216 (xs (x3 + (1 : Int32)).toNatClampNeg) (1 : Int32) hq8) hc7 rfl (by decide) (goodV kw_1115 kw_1116 kw_1117 kw_72 kw_1118) ⟨rfl, rfl⟩ (by decide +kernel) ⟨(Nat.le_of_ble_eq_true rfl), (Nat.le_of_ble_eq_true rfl)⟩ rfl hl.1 rfl (Nat.le_of_ble_eq_true rfl) dL_law_421 ⟨Nat.le_refl _, Nat.le_refl _⟩ rfl (fun H locs hw => ?_)
    refine lv_icmp_eq (tgt := 1115) C0.hx C0.hb dL_law_424 (by decide) (fun hc => ?_) (fun hc => ?_)
    · have h := (if_pos hc).symm.trans h
      obtain rfl := Option.some.inj h
      exact kk _ _ hw
    · have h := (if_neg hc).symm.trans h
      cases h
set_option maxHeartbeats 4000000 in
set_option maxRecDepth 100000 in
theorem lc_9 {p : Program} {l : Launch} {e : Env} {s : State} {m : MethodId} {below : List Frame} {meth : Method} {c : Code} {b0 : Nat} {D : va_G} {cy : Nat → ClassId} {b L : Nat} {xs : Nat → Int32} {Q : State → Prop} (C0 : Cx p m c cL_law 4 s #[Value.ref b] RL D cy) (hX : va_X b L xs s s.heap) (hbl : b < s.heap.size) (hbA : ¬ b0 ≤ b) {S S1 : Mem} {H : Heap} {locs : List Loc} {ls : Array Slot} {x3 : Int32} (hw : Wd b0 D cy S s.heap H locs) (hl : lv_has ls 4 [(0, .ref b), (1, .ref (b0 + 0)), (2, .ref (b0 + 216)), (3, .int x3)]) (hi1 : vp_in (x3 + (1 : Int32)) L) (hi2 : vp_in (x3 + (2 : Int32)) L) (h : sk_9 (xs (x3 + (1 : Int32)).toNatClampNeg) (xs (x3 + (2 : Int32)).toNatClampNeg) S = some S1) (kk : ∀ (H : Heap) (locs : List Loc), Wd b0 D cy S1 s.heap H locs → W p l e room_1 s m #[Value.ref b] below meth c H locs 600000 7302250 Q (F0 m 1115 ls [])) : W p l e room_1 s m #[Value.ref b] below meth c H locs 600000 7302250 Q (F0 m 429 ls []) := by
  rw [sk_9] at h
  refine lv_aload_n C0.hx C0.hb dL_law_429 rfl (lv_at hl 1 rfl) ?_
  refine lv_aload_n C0.hx C0.hb dL_law_430 rfl (lv_at hl 0 rfl) ?_
  refine lv_iload_n C0.hx C0.hb dL_law_431 rfl (lv_at hl 3 rfl) ?_
  refine lv_iconst (v := (1 : Int32)) C0.hx C0.hb dL_law_432 (by decide) ?_
  refine lv_iadd C0.hx C0.hb dL_law_433 ?_
  refine va_sld C0.hx C0.hb hX hbl hbA hw.2 hi1 dL_law_434 ?_
  refine lv_aload_n C0.hx C0.hb dL_law_435 rfl (lv_at hl 0 rfl) ?_
  refine lv_iload_n C0.hx C0.hb dL_law_436 rfl (lv_at hl 3 rfl) ?_
  refine lv_iconst (v := (2 : Int32)) C0.hx C0.hb dL_law_437 (by decide) ?_
  refine lv_iadd C0.hx C0.hb dL_law_438 ?_
  refine va_sld C0.hx C0.hb hX hbl hbA hw.2 hi2 dL_law_439 ?_
  obtain ⟨c1, hc1, h⟩ := Option.bind_eq_some_iff.mp h
  obtain ⟨q2, hq2, h⟩ := Option.bind_eq_some_iff.mp h
  refine q_callV (n := 2) (av := [.int (xs (x3 + (1 : Int32)).toNatClampNeg), .int (xs (x3 + (2 : Int32)).toNatClampNeg)]) (rest := []) (st1 := [.int q2.1]) C0 hw (m_X8_noise l b0 D cy S 0 (xs (x3 + (1 : Int32)).toNatClampNeg) (xs (x3 + (2 : Int32)).toNatClampNeg) hq2) hc1 rfl (by decide) (goodV kw_630 kw_631 kw_632 kw_63 kw_633) ⟨rfl, rfl⟩ (by decide +kernel) ⟨(Nat.le_of_ble_eq_true rfl), (Nat.le_of_ble_eq_true rfl)⟩ rfl hl.1 rfl (Nat.le_of_ble_eq_true rfl) dL_law_440 ⟨Nat.le_refl _, Nat.le_refl _⟩ rfl (fun H locs hw => ?_)
  refine lv_aload_n C0.hx C0.hb dL_law_443 rfl (lv_at hl 2 rfl) ?_
  refine lv_aload_n C0.hx C0.hb dL_law_444 rfl (lv_at hl 0 rfl) ?_
  refine lv_iload_n C0.hx C0.hb dL_law_445 rfl (lv_at hl 3 rfl) ?_
  refine lv_iconst (v := (1 : Int32)) C0.hx C0.hb dL_law_446 (by decide) ?_
  refine lv_iadd C0.hx C0.hb dL_law_447 ?_
  refine va_sld C0.hx C0.hb hX hbl hbA hw.2 hi1 dL_law_448 ?_
  refine lv_aload_n C0.hx C0.hb dL_law_449 rfl (lv_at hl 0 rfl) ?_
  refine lv_iload_n C0.hx C0.hb dL_law_450 rfl (lv_at hl 3 rfl) ?_
  refine lv_iconst (v := (2 : Int32)) C0.hx C0.hb dL_law_451 (by decide) ?_
  refine lv_iadd C0.hx C0.hb dL_law_452 ?_
  refine va_sld C0.hx C0.hb hX hbl hbA hw.2 hi2 dL_law_453 ?_
  obtain ⟨c3, hc3, h⟩ := Option.bind_eq_some_iff.mp h
  obtain ⟨q4, hq4, h⟩ := Option.bind_eq_some_iff.mp h
  refine q_callV (n := 2) (av := [.int (xs (x3 + (1 : Int32)).toNatClampNeg), .int (xs (x3 + (2 : Int32)).toNatClampNeg)]) (rest := [.int q2.1]) (st1 := [.int q4.1, .int q2.1]) C0 hw (m_X9_noise l b0 D cy q2.2 216 (xs (x3 + (1 : Int32)).toNatClampNeg) (xs (x3 + (2 : Int32)).toNatClampNeg) hq4) hc3 rfl (by decide) (goodV kw_1124 kw_1125 kw_1126 kw_72 kw_1127) ⟨rfl, rfl⟩ (by decide +kernel) ⟨(Nat.le_of_ble_eq_true rfl), (Nat.le_of_ble_eq_true rfl)⟩ rfl hl.1 rfl (Nat.le_of_ble_eq_true rfl) dL_law_454 ⟨Nat.le_refl _, Nat.le_refl _⟩ rfl (fun H locs hw => ?_)
  refine lv_icmp_eq (tgt := 1115) C0.hx C0.hb dL_law_457 (by decide) (fun hc => ?_) (fun hc => ?_)
  · have h := (if_pos hc).symm.trans h
    obtain rfl := Option.some.inj h
    exact kk _ _ hw
  · have h := (if_neg hc).symm.trans h
    cases h
set_option maxHeartbeats 4000000 in
set_option maxRecDepth 100000 in
theorem lc_10 {p : Program} {l : Launch} {e : Env} {s : State} {m : MethodId} {below : List Frame} {meth : Method} {c : Code} {b0 : Nat} {D : va_G} {cy : Nat → ClassId} {b L : Nat} {xs : Nat → Int32} {Q : State → Prop} (C0 : Cx p m c cL_law 4 s #[Value.ref b] RL D cy) (hX : va_X b L xs s s.heap) (hbl : b < s.heap.size) (hbA : ¬ b0 ≤ b) {S S1 : Mem} {H : Heap} {locs : List Loc} {ls : Array Slot} {x3 : Int32} (hw : Wd b0 D cy S s.heap H locs) (hl : lv_has ls 4 [(0, .ref b), (1, .ref (b0 + 0)), (2, .ref (b0 + 216)), (3, .int x3)]) (hi1 : vp_in (x3 + (1 : Int32)) L) (hi2 : vp_in (x3 + (2 : Int32)) L) (h : sk_10 (xs (x3 + (1 : Int32)).toNatClampNeg) (xs (x3 + (2 : Int32)).toNatClampNeg) S = some S1) (kk : ∀ (H : Heap) (locs : List Loc), Wd b0 D cy S1 s.heap H locs → W p l e room_1 s m #[Value.ref b] below meth c H locs 600000 7302250 Q (F0 m 1115 ls [])) : W p l e room_1 s m #[Value.ref b] below meth c H locs 600000 7302250 Q (F0 m 462 ls []) := by
  rw [sk_10] at h
  refine lv_aload_n C0.hx C0.hb dL_law_462 rfl (lv_at hl 1 rfl) ?_
  refine lv_aload_n C0.hx C0.hb dL_law_463 rfl (lv_at hl 0 rfl) ?_
  refine lv_iload_n C0.hx C0.hb dL_law_464 rfl (lv_at hl 3 rfl) ?_
  refine lv_iconst (v := (1 : Int32)) C0.hx C0.hb dL_law_465 (by decide) ?_
  refine lv_iadd C0.hx C0.hb dL_law_466 ?_
  refine va_sld C0.hx C0.hb hX hbl hbA hw.2 hi1 dL_law_467 ?_
  refine lv_aload_n C0.hx C0.hb dL_law_468 rfl (lv_at hl 0 rfl) ?_
  refine lv_iload_n C0.hx C0.hb dL_law_469 rfl (lv_at hl 3 rfl) ?_
  refine lv_iconst (v := (2 : Int32)) C0.hx C0.hb dL_law_470 (by decide) ?_
  refine lv_iadd C0.hx C0.hb dL_law_471 ?_
  refine va_sld C0.hx C0.hb hX hbl hbA hw.2 hi2 dL_law_472 ?_
  refine lv_if_eq (tgt := 480) C0.hx C0.hb dL_law_473 (by decide) (fun hz => ?_) (fun hz => ?_)
  · have h := (if_pos hz).symm.trans h
    refine lv_iconst (v := (0 : Int32)) C0.hx C0.hb dL_law_480 (by decide) ?_
    obtain ⟨c1, hc1, h⟩ := Option.bind_eq_some_iff.mp h
    obtain ⟨q2, hq2, h⟩ := Option.bind_eq_some_iff.mp h
    refine q_callV (n := 2) (av := [.int (xs (x3 + (1 : Int32)).toNatClampNeg), .int (0 : Int32)]) (rest := []) (st1 := [.int q2.1]) C0 hw (m_X8_nail l b0 D cy S 0 (xs (x3 + (1 : Int32)).toNatClampNeg) (0 : Int32) hq2) hc1 rfl (by decide) (goodV kw_635 kw_636 kw_637 kw_63 kw_638) ⟨rfl, rfl⟩ (by decide +kernel) ⟨(Nat.le_of_ble_eq_true rfl), (Nat.le_of_ble_eq_true rfl)⟩ rfl hl.1 rfl (Nat.le_of_ble_eq_true rfl) dL_law_481 ⟨Nat.le_refl _, Nat.le_refl _⟩ rfl (fun H locs hw => ?_)
    refine lv_aload_n C0.hx C0.hb dL_law_484 rfl (lv_at hl 2 rfl) ?_
    refine lv_aload_n C0.hx C0.hb dL_law_485 rfl (lv_at hl 0 rfl) ?_
    refine lv_iload_n C0.hx C0.hb dL_law_486 rfl (lv_at hl 3 rfl) ?_
    refine lv_iconst (v := (1 : Int32)) C0.hx C0.hb dL_law_487 (by decide) ?_
    refine lv_iadd C0.hx C0.hb dL_law_488 ?_
    refine va_sld C0.hx C0.hb hX hbl hbA hw.2 hi1 dL_law_489 ?_
    refine lv_aload_n C0.hx C0.hb dL_law_490 rfl (lv_at hl 0 rfl) ?_
    refine lv_iload_n C0.hx C0.hb dL_law_491 rfl (lv_at hl 3 rfl) ?_
    refine lv_iconst (v := (2 : Int32)) C0.hx C0.hb dL_law_492 (by decide) ?_
    refine lv_iadd C0.hx C0.hb dL_law_493 ?_
    refine va_sld C0.hx C0.hb hX hbl hbA hw.2 hi2 dL_law_494 ?_
    refine lv_if_eq (tgt := 502) C0.hx C0.hb dL_law_495 (by decide) (fun _ => ?_) (fun hq => absurd hz hq)
    refine lv_iconst (v := (0 : Int32)) C0.hx C0.hb dL_law_502 (by decide) ?_
    obtain ⟨c3, hc3, h⟩ := Option.bind_eq_some_iff.mp h
    obtain ⟨q4, hq4, h⟩ := Option.bind_eq_some_iff.mp h
    refine q_callV (n := 2) (av := [.int (xs (x3 + (1 : Int32)).toNatClampNeg), .int (0 : Int32)]) (rest := [.int q2.1]) (st1 := [.int q4.1, .int q2.1]) C0 hw (m_X9_nail l b0 D cy q2.2 216 (xs (x3 + (1 : Int32)).toNatClampNeg) (0 : Int32) hq4) hc3 rfl (by decide) (goodV kw_1128 kw_1129 kw_1130 kw_72 kw_1131) ⟨rfl, rfl⟩ (by decide +kernel) ⟨(Nat.le_of_ble_eq_true rfl), (Nat.le_of_ble_eq_true rfl)⟩ rfl hl.1 rfl (Nat.le_of_ble_eq_true rfl) dL_law_503 ⟨Nat.le_refl _, Nat.le_refl _⟩ rfl (fun H locs hw => ?_)
    refine lv_icmp_eq (tgt := 1115) C0.hx C0.hb dL_law_506 (by decide) (fun hc => ?_) (fun hc => ?_)
    · have h := (if_pos hc).symm.trans h
      obtain rfl := Option.some.inj h
      exact kk _ _ hw
    · have h := (if_neg hc).symm.trans h
      cases h
  · have h := (if_neg hz).symm.trans h
    refine lv_iconst (v := (1 : Int32)) C0.hx C0.hb dL_law_476 (by decide) ?_
    refine lv_goto (tgt := 481) C0.hx C0.hb dL_law_477 (by decide) ?_
    obtain ⟨c5, hc5, h⟩ := Option.bind_eq_some_iff.mp h
    obtain ⟨q6, hq6, h⟩ := Option.bind_eq_some_iff.mp h
    refine q_callV (n := 2) (av := [.int (xs (x3 + (1 : Int32)).toNatClampNeg), .int (1 : Int32)]) (rest := []) (st1 := [.int q6.1]) C0 hw (m_X8_nail l b0 D cy S 0 (xs (x3 + (1 : Int32)).toNatClampNeg) (1 : Int32) hq6) hc5 rfl (by decide) (goodV kw_635 kw_636 kw_637 kw_63 kw_638) ⟨rfl, rfl⟩ (by decide +kernel) ⟨(Nat.le_of_ble_eq_true rfl), (Nat.le_of_ble_eq_true rfl)⟩ rfl hl.1 rfl (Nat.le_of_ble_eq_true rfl) dL_law_481 ⟨Nat.le_refl _, Nat.le_refl _⟩ rfl (fun H locs hw => ?_)
    refine lv_aload_n C0.hx C0.hb dL_law_484 rfl (lv_at hl 2 rfl) ?_
    refine lv_aload_n C0.hx C0.hb dL_law_485 rfl (lv_at hl 0 rfl) ?_
    refine lv_iload_n C0.hx C0.hb dL_law_486 rfl (lv_at hl 3 rfl) ?_
    refine lv_iconst (v := (1 : Int32)) C0.hx C0.hb dL_law_487 (by decide) ?_
    refine lv_iadd C0.hx C0.hb dL_law_488 ?_
    refine va_sld C0.hx C0.hb hX hbl hbA hw.2 hi1 dL_law_489 ?_
    refine lv_aload_n C0.hx C0.hb dL_law_490 rfl (lv_at hl 0 rfl) ?_
    refine lv_iload_n C0.hx C0.hb dL_law_491 rfl (lv_at hl 3 rfl) ?_
    refine lv_iconst (v := (2 : Int32)) C0.hx C0.hb dL_law_492 (by decide) ?_
    refine lv_iadd C0.hx C0.hb dL_law_493 ?_
    refine va_sld C0.hx C0.hb hX hbl hbA hw.2 hi2 dL_law_494 ?_
    refine lv_if_eq (tgt := 502) C0.hx C0.hb dL_law_495 (by decide) (fun hq => absurd hq hz) (fun _ => ?_)
    refine lv_iconst (v := (1 : Int32)) C0.hx C0.hb dL_law_498 (by decide) ?_
    refine lv_goto (tgt := 503) C0.hx C0.hb dL_law_499 (by decide) ?_
    obtain ⟨c7, hc7, h⟩ := Option.bind_eq_some_iff.mp h
    obtain ⟨q8, hq8, h⟩ := Option.bind_eq_some_iff.mp h
    refine q_callV (n := 2) (av := [.int (xs (x3 + (1 : Int32)).toNatClampNeg), .int (1 : Int32)]) (rest := [.int q6.1]) (st1 := [.int q8.1, .int q6.1]) C0 hw (m_X9_nail l b0 D cy q6.2 216 (xs (x3 + (1 : Int32)).toNatClampNeg) (1 : Int32) hq8) hc7 rfl (by decide) (goodV kw_1128 kw_1129 kw_1130 kw_72 kw_1131) ⟨rfl, rfl⟩ (by decide +kernel) ⟨(Nat.le_of_ble_eq_true rfl), (Nat.le_of_ble_eq_true rfl)⟩ rfl hl.1 rfl (Nat.le_of_ble_eq_true rfl) dL_law_503 ⟨Nat.le_refl _, Nat.le_refl _⟩ rfl (fun H locs hw => ?_)
    refine lv_icmp_eq (tgt := 1115) C0.hx C0.hb dL_law_506 (by decide) (fun hc => ?_) (fun hc => ?_)
    · have h := (if_pos hc).symm.trans h
      obtain rfl := Option.some.inj h
      exact kk _ _ hw
    · have h := (if_neg hc).symm.trans h
      cases h
set_option maxHeartbeats 4000000 in
set_option maxRecDepth 100000 in
theorem lc_11 {p : Program} {l : Launch} {e : Env} {s : State} {m : MethodId} {below : List Frame} {meth : Method} {c : Code} {b0 : Nat} {D : va_G} {cy : Nat → ClassId} {b L : Nat} {xs : Nat → Int32} {Q : State → Prop} (C0 : Cx p m c cL_law 4 s #[Value.ref b] RL D cy) (hX : va_X b L xs s s.heap) (hbl : b < s.heap.size) (hbA : ¬ b0 ≤ b) {S S1 : Mem} {H : Heap} {locs : List Loc} {ls : Array Slot} {x3 : Int32} (hw : Wd b0 D cy S s.heap H locs) (hl : lv_has ls 4 [(0, .ref b), (1, .ref (b0 + 0)), (2, .ref (b0 + 216)), (3, .int x3)]) (hi1 : vp_in (x3 + (1 : Int32)) L) (hi2 : vp_in (x3 + (2 : Int32)) L) (h : sk_11 (xs (x3 + (1 : Int32)).toNatClampNeg) (xs (x3 + (2 : Int32)).toNatClampNeg) S = some S1) (kk : ∀ (H : Heap) (locs : List Loc), Wd b0 D cy S1 s.heap H locs → W p l e room_1 s m #[Value.ref b] below meth c H locs 600000 7302250 Q (F0 m 1115 ls [])) : W p l e room_1 s m #[Value.ref b] below meth c H locs 600000 7302250 Q (F0 m 511 ls []) := by
  rw [sk_11] at h
  refine lv_aload_n C0.hx C0.hb dL_law_511 rfl (lv_at hl 1 rfl) ?_
  refine lv_aload_n C0.hx C0.hb dL_law_512 rfl (lv_at hl 0 rfl) ?_
  refine lv_iload_n C0.hx C0.hb dL_law_513 rfl (lv_at hl 3 rfl) ?_
  refine lv_iconst (v := (1 : Int32)) C0.hx C0.hb dL_law_514 (by decide) ?_
  refine lv_iadd C0.hx C0.hb dL_law_515 ?_
  refine va_sld C0.hx C0.hb hX hbl hbA hw.2 hi1 dL_law_516 ?_
  refine lv_aload_n C0.hx C0.hb dL_law_517 rfl (lv_at hl 0 rfl) ?_
  refine lv_iload_n C0.hx C0.hb dL_law_518 rfl (lv_at hl 3 rfl) ?_
  refine lv_iconst (v := (2 : Int32)) C0.hx C0.hb dL_law_519 (by decide) ?_
  refine lv_iadd C0.hx C0.hb dL_law_520 ?_
  refine va_sld C0.hx C0.hb hX hbl hbA hw.2 hi2 dL_law_521 ?_
  refine lv_if_eq (tgt := 529) C0.hx C0.hb dL_law_522 (by decide) (fun hz => ?_) (fun hz => ?_)
  · have h := (if_pos hz).symm.trans h
    refine lv_iconst (v := (0 : Int32)) C0.hx C0.hb dL_law_529 (by decide) ?_
    obtain ⟨c1, hc1, h⟩ := Option.bind_eq_some_iff.mp h
    obtain ⟨q2, hq2, h⟩ := Option.bind_eq_some_iff.mp h
    refine q_callV (n := 2) (av := [.int (xs (x3 + (1 : Int32)).toNatClampNeg), .int (0 : Int32)]) (rest := []) (st1 := [.int q2.1]) C0 hw (m_X8_brick l b0 D cy S 0 (xs (x3 + (1 : Int32)).toNatClampNeg) (0 : Int32) hq2) hc1 rfl (by decide) (goodV kw_639 kw_640 kw_641 kw_63 kw_642) ⟨rfl, rfl⟩ (by decide +kernel) ⟨(Nat.le_of_ble_eq_true rfl), (Nat.le_of_ble_eq_true rfl)⟩ rfl hl.1 rfl (Nat.le_of_ble_eq_true rfl) dL_law_530 ⟨Nat.le_refl _, Nat.le_refl _⟩ rfl (fun H locs hw => ?_)
    refine lv_aload_n C0.hx C0.hb dL_law_533 rfl (lv_at hl 2 rfl) ?_
    refine lv_aload_n C0.hx C0.hb dL_law_534 rfl (lv_at hl 0 rfl) ?_
    refine lv_iload_n C0.hx C0.hb dL_law_535 rfl (lv_at hl 3 rfl) ?_
    refine lv_iconst (v := (1 : Int32)) C0.hx C0.hb dL_law_536 (by decide) ?_
    refine lv_iadd C0.hx C0.hb dL_law_537 ?_
    refine va_sld C0.hx C0.hb hX hbl hbA hw.2 hi1 dL_law_538 ?_
    refine lv_aload_n C0.hx C0.hb dL_law_539 rfl (lv_at hl 0 rfl) ?_
    refine lv_iload_n C0.hx C0.hb dL_law_540 rfl (lv_at hl 3 rfl) ?_
    refine lv_iconst (v := (2 : Int32)) C0.hx C0.hb dL_law_541 (by decide) ?_
    refine lv_iadd C0.hx C0.hb dL_law_542 ?_
    refine va_sld C0.hx C0.hb hX hbl hbA hw.2 hi2 dL_law_543 ?_
    refine lv_if_eq (tgt := 551) C0.hx C0.hb dL_law_544 (by decide) (fun _ => ?_) (fun hq => absurd hz hq)
    refine lv_iconst (v := (0 : Int32)) C0.hx C0.hb dL_law_551 (by decide) ?_
    obtain ⟨c3, hc3, h⟩ := Option.bind_eq_some_iff.mp h
    obtain ⟨q4, hq4, h⟩ := Option.bind_eq_some_iff.mp h
    refine q_callV (n := 2) (av := [.int (xs (x3 + (1 : Int32)).toNatClampNeg), .int (0 : Int32)]) (rest := [.int q2.1]) (st1 := [.int q4.1, .int q2.1]) C0 hw (m_X9_brick l b0 D cy q2.2 216 (xs (x3 + (1 : Int32)).toNatClampNeg) (0 : Int32) hq4) hc3 rfl (by decide) (goodV kw_1132 kw_1133 kw_1134 kw_72 kw_1135) ⟨rfl, rfl⟩ (by decide +kernel) ⟨(Nat.le_of_ble_eq_true rfl), (Nat.le_of_ble_eq_true rfl)⟩ rfl hl.1 rfl (Nat.le_of_ble_eq_true rfl) dL_law_552 ⟨Nat.le_refl _, Nat.le_refl _⟩ rfl (fun H locs hw => ?_)
    refine lv_icmp_eq (tgt := 1115) C0.hx C0.hb dL_law_555 (by decide) (fun hc => ?_) (fun hc => ?_)
    · have h := (if_pos hc).symm.trans h
      obtain rfl := Option.some.inj h
      exact kk _ _ hw
    · have h := (if_neg hc).symm.trans h
      cases h
  · have h := (if_neg hz).symm.trans h
    refine lv_iconst (v := (1 : Int32)) C0.hx C0.hb dL_law_525 (by decide) ?_
    refine lv_goto (tgt := 530) C0.hx C0.hb dL_law_526 (by decide) ?_
    obtain ⟨c5, hc5, h⟩ := Option.bind_eq_some_iff.mp h
    obtain ⟨q6, hq6, h⟩ := Option.bind_eq_some_iff.mp h
    refine q_callV (n := 2) (av := [.int (xs (x3 + (1 : Int32)).toNatClampNeg), .int (1 : Int32)]) (rest := []) (st1 := [.int q6.1]) C0 hw (m_X8_brick l b0 D cy S 0 (xs (x3 + (1 : Int32)).toNatClampNeg) (1 : Int32) hq6) hc5 rfl (by decide) (goodV kw_639 kw_640 kw_641 kw_63 kw_642) ⟨rfl, rfl⟩ (by decide +kernel) ⟨(Nat.le_of_ble_eq_true rfl), (Nat.le_of_ble_eq_true rfl)⟩ rfl hl.1 rfl (Nat.le_of_ble_eq_true rfl) dL_law_530 ⟨Nat.le_refl _, Nat.le_refl _⟩ rfl (fun H locs hw => ?_)
    refine lv_aload_n C0.hx C0.hb dL_law_533 rfl (lv_at hl 2 rfl) ?_
    refine lv_aload_n C0.hx C0.hb dL_law_534 rfl (lv_at hl 0 rfl) ?_
    refine lv_iload_n C0.hx C0.hb dL_law_535 rfl (lv_at hl 3 rfl) ?_
    refine lv_iconst (v := (1 : Int32)) C0.hx C0.hb dL_law_536 (by decide) ?_
    refine lv_iadd C0.hx C0.hb dL_law_537 ?_
    refine va_sld C0.hx C0.hb hX hbl hbA hw.2 hi1 dL_law_538 ?_
    refine lv_aload_n C0.hx C0.hb dL_law_539 rfl (lv_at hl 0 rfl) ?_
    refine lv_iload_n C0.hx C0.hb dL_law_540 rfl (lv_at hl 3 rfl) ?_
    refine lv_iconst (v := (2 : Int32)) C0.hx C0.hb dL_law_541 (by decide) ?_
    refine lv_iadd C0.hx C0.hb dL_law_542 ?_
    refine va_sld C0.hx C0.hb hX hbl hbA hw.2 hi2 dL_law_543 ?_
    refine lv_if_eq (tgt := 551) C0.hx C0.hb dL_law_544 (by decide) (fun hq => absurd hq hz) (fun _ => ?_)
    refine lv_iconst (v := (1 : Int32)) C0.hx C0.hb dL_law_547 (by decide) ?_
    refine lv_goto (tgt := 552) C0.hx C0.hb dL_law_548 (by decide) ?_
    obtain ⟨c7, hc7, h⟩ := Option.bind_eq_some_iff.mp h
    obtain ⟨q8, hq8, h⟩ := Option.bind_eq_some_iff.mp h
    refine q_callV (n := 2) (av := [.int (xs (x3 + (1 : Int32)).toNatClampNeg), .int (1 : Int32)]) (rest := [.int q6.1]) (st1 := [.int q8.1, .int q6.1]) C0 hw (m_X9_brick l b0 D cy q6.2 216 (xs (x3 + (1 : Int32)).toNatClampNeg) (1 : Int32) hq8) hc7 rfl (by decide) (goodV kw_1132 kw_1133 kw_1134 kw_72 kw_1135) ⟨rfl, rfl⟩ (by decide +kernel) ⟨(Nat.le_of_ble_eq_true rfl), (Nat.le_of_ble_eq_true rfl)⟩ rfl hl.1 rfl (Nat.le_of_ble_eq_true rfl) dL_law_552 ⟨Nat.le_refl _, Nat.le_refl _⟩ rfl (fun H locs hw => ?_)
    refine lv_icmp_eq (tgt := 1115) C0.hx C0.hb dL_law_555 (by decide) (fun hc => ?_) (fun hc => ?_)
    · have h := (if_pos hc).symm.trans h
      obtain rfl := Option.some.inj h
      exact kk _ _ hw
    · have h := (if_neg hc).symm.trans h
      cases h
set_option maxHeartbeats 4000000 in
set_option maxRecDepth 100000 in
theorem lc_12 {p : Program} {l : Launch} {e : Env} {s : State} {m : MethodId} {below : List Frame} {meth : Method} {c : Code} {b0 : Nat} {D : va_G} {cy : Nat → ClassId} {b L : Nat} {xs : Nat → Int32} {Q : State → Prop} (C0 : Cx p m c cL_law 4 s #[Value.ref b] RL D cy) (hX : va_X b L xs s s.heap) (hbl : b < s.heap.size) (hbA : ¬ b0 ≤ b) {S S1 : Mem} {H : Heap} {locs : List Loc} {ls : Array Slot} {x3 : Int32} (hw : Wd b0 D cy S s.heap H locs) (hl : lv_has ls 4 [(0, .ref b), (1, .ref (b0 + 0)), (2, .ref (b0 + 216)), (3, .int x3)]) (hi1 : vp_in (x3 + (1 : Int32)) L) (hi2 : vp_in (x3 + (2 : Int32)) L) (h : sk_12 (xs (x3 + (1 : Int32)).toNatClampNeg) (xs (x3 + (2 : Int32)).toNatClampNeg) S = some S1) (kk : ∀ (H : Heap) (locs : List Loc), Wd b0 D cy S1 s.heap H locs → W p l e room_1 s m #[Value.ref b] below meth c H locs 600000 7302250 Q (F0 m 1115 ls [])) : W p l e room_1 s m #[Value.ref b] below meth c H locs 600000 7302250 Q (F0 m 560 ls []) := by
  rw [sk_12] at h
  refine lv_aload_n C0.hx C0.hb dL_law_560 rfl (lv_at hl 1 rfl) ?_
  refine lv_aload_n C0.hx C0.hb dL_law_561 rfl (lv_at hl 0 rfl) ?_
  refine lv_iload_n C0.hx C0.hb dL_law_562 rfl (lv_at hl 3 rfl) ?_
  refine lv_iconst (v := (1 : Int32)) C0.hx C0.hb dL_law_563 (by decide) ?_
  refine lv_iadd C0.hx C0.hb dL_law_564 ?_
  refine va_sld C0.hx C0.hb hX hbl hbA hw.2 hi1 dL_law_565 ?_
  refine lv_aload_n C0.hx C0.hb dL_law_566 rfl (lv_at hl 0 rfl) ?_
  refine lv_iload_n C0.hx C0.hb dL_law_567 rfl (lv_at hl 3 rfl) ?_
  refine lv_iconst (v := (2 : Int32)) C0.hx C0.hb dL_law_568 (by decide) ?_
  refine lv_iadd C0.hx C0.hb dL_law_569 ?_
  refine va_sld C0.hx C0.hb hX hbl hbA hw.2 hi2 dL_law_570 ?_
  obtain ⟨c1, hc1, h⟩ := Option.bind_eq_some_iff.mp h
  obtain ⟨q2, hq2, h⟩ := Option.bind_eq_some_iff.mp h
  refine q_callV (n := 2) (av := [.int (xs (x3 + (1 : Int32)).toNatClampNeg), .int (xs (x3 + (2 : Int32)).toNatClampNeg)]) (rest := []) (st1 := [.int q2.1]) C0 hw (m_X8_chalk l b0 D cy S 0 (xs (x3 + (1 : Int32)).toNatClampNeg) (xs (x3 + (2 : Int32)).toNatClampNeg) hq2) hc1 rfl (by decide) (goodV kw_644 kw_645 kw_646 kw_63 kw_647) ⟨rfl, rfl⟩ (by decide +kernel) ⟨(Nat.le_of_ble_eq_true rfl), (Nat.le_of_ble_eq_true rfl)⟩ rfl hl.1 rfl (Nat.le_of_ble_eq_true rfl) dL_law_571 ⟨Nat.le_refl _, Nat.le_refl _⟩ rfl (fun H locs hw => ?_)
  refine lv_aload_n C0.hx C0.hb dL_law_574 rfl (lv_at hl 2 rfl) ?_
  refine lv_aload_n C0.hx C0.hb dL_law_575 rfl (lv_at hl 0 rfl) ?_
  refine lv_iload_n C0.hx C0.hb dL_law_576 rfl (lv_at hl 3 rfl) ?_
  refine lv_iconst (v := (1 : Int32)) C0.hx C0.hb dL_law_577 (by decide) ?_
  refine lv_iadd C0.hx C0.hb dL_law_578 ?_
  refine va_sld C0.hx C0.hb hX hbl hbA hw.2 hi1 dL_law_579 ?_
  refine lv_aload_n C0.hx C0.hb dL_law_580 rfl (lv_at hl 0 rfl) ?_
  refine lv_iload_n C0.hx C0.hb dL_law_581 rfl (lv_at hl 3 rfl) ?_
  refine lv_iconst (v := (2 : Int32)) C0.hx C0.hb dL_law_582 (by decide) ?_
  refine lv_iadd C0.hx C0.hb dL_law_583 ?_
  refine va_sld C0.hx C0.hb hX hbl hbA hw.2 hi2 dL_law_584 ?_
  obtain ⟨c3, hc3, h⟩ := Option.bind_eq_some_iff.mp h
  obtain ⟨q4, hq4, h⟩ := Option.bind_eq_some_iff.mp h
  refine q_callV (n := 2) (av := [.int (xs (x3 + (1 : Int32)).toNatClampNeg), .int (xs (x3 + (2 : Int32)).toNatClampNeg)]) (rest := [.int q2.1]) (st1 := [.int q4.1, .int q2.1]) C0 hw (m_X9_chalk l b0 D cy q2.2 216 (xs (x3 + (1 : Int32)).toNatClampNeg) (xs (x3 + (2 : Int32)).toNatClampNeg) hq4) hc3 rfl (by decide) (goodV kw_1140 kw_1141 kw_1142 kw_72 kw_1143) ⟨rfl, rfl⟩ (by decide +kernel) ⟨(Nat.le_of_ble_eq_true rfl), (Nat.le_of_ble_eq_true rfl)⟩ rfl hl.1 rfl (Nat.le_of_ble_eq_true rfl) dL_law_585 ⟨Nat.le_refl _, Nat.le_refl _⟩ rfl (fun H locs hw => ?_)
  refine lv_icmp_eq (tgt := 1115) C0.hx C0.hb dL_law_588 (by decide) (fun hc => ?_) (fun hc => ?_)
  · have h := (if_pos hc).symm.trans h
    obtain rfl := Option.some.inj h
    exact kk _ _ hw
  · have h := (if_neg hc).symm.trans h
    cases h
set_option maxHeartbeats 4000000 in
set_option maxRecDepth 100000 in
theorem lc_13 {p : Program} {l : Launch} {e : Env} {s : State} {m : MethodId} {below : List Frame} {meth : Method} {c : Code} {b0 : Nat} {D : va_G} {cy : Nat → ClassId} {b L : Nat} {xs : Nat → Int32} {Q : State → Prop} (C0 : Cx p m c cL_law 4 s #[Value.ref b] RL D cy) (hX : va_X b L xs s s.heap) (hbl : b < s.heap.size) (hbA : ¬ b0 ≤ b) {S S1 : Mem} {H : Heap} {locs : List Loc} {ls : Array Slot} {x3 : Int32} (hw : Wd b0 D cy S s.heap H locs) (hl : lv_has ls 4 [(0, .ref b), (1, .ref (b0 + 0)), (2, .ref (b0 + 216)), (3, .int x3)]) (hi1 : vp_in (x3 + (1 : Int32)) L) (hi2 : vp_in (x3 + (2 : Int32)) L) (h : sk_13 (xs (x3 + (1 : Int32)).toNatClampNeg) (xs (x3 + (2 : Int32)).toNatClampNeg) S = some S1) (kk : ∀ (H : Heap) (locs : List Loc), Wd b0 D cy S1 s.heap H locs → W p l e room_1 s m #[Value.ref b] below meth c H locs 600000 7302250 Q (F0 m 1115 ls [])) : W p l e room_1 s m #[Value.ref b] below meth c H locs 600000 7302250 Q (F0 m 593 ls []) := by
  rw [sk_13] at h
  refine lv_aload_n C0.hx C0.hb dL_law_593 rfl (lv_at hl 1 rfl) ?_
  obtain ⟨c1, hc1, h⟩ := Option.bind_eq_some_iff.mp h
  obtain ⟨q2, hq2, h⟩ := Option.bind_eq_some_iff.mp h
  refine q_callV (n := 0) (av := []) (rest := []) (st1 := [.int q2.1]) C0 hw (m_X8_sole l b0 D cy S 0 hq2) hc1 rfl (by decide) (goodV kw_648 kw_649 kw_650 kw_63 kw_651) ⟨rfl, rfl⟩ (by decide +kernel) ⟨(Nat.le_of_ble_eq_true rfl), (Nat.le_of_ble_eq_true rfl)⟩ rfl hl.1 rfl (Nat.le_of_ble_eq_true rfl) dL_law_594 ⟨Nat.le_refl _, Nat.le_refl _⟩ rfl (fun H locs hw => ?_)
  refine lv_aload_n C0.hx C0.hb dL_law_597 rfl (lv_at hl 2 rfl) ?_
  obtain ⟨c3, hc3, h⟩ := Option.bind_eq_some_iff.mp h
  obtain ⟨q4, hq4, h⟩ := Option.bind_eq_some_iff.mp h
  refine q_callV (n := 0) (av := []) (rest := [.int q2.1]) (st1 := [.int q4.1, .int q2.1]) C0 hw (m_X9_sole l b0 D cy q2.2 216 hq4) hc3 rfl (by decide) (goodV kw_1144 kw_1145 kw_1146 kw_72 kw_1147) ⟨rfl, rfl⟩ (by decide +kernel) ⟨(Nat.le_of_ble_eq_true rfl), (Nat.le_of_ble_eq_true rfl)⟩ rfl hl.1 rfl (Nat.le_of_ble_eq_true rfl) dL_law_598 ⟨Nat.le_refl _, Nat.le_refl _⟩ rfl (fun H locs hw => ?_)
  refine lv_icmp_eq (tgt := 1115) C0.hx C0.hb dL_law_601 (by decide) (fun hc => ?_) (fun hc => ?_)
  · have h := (if_pos hc).symm.trans h
    obtain rfl := Option.some.inj h
    exact kk _ _ hw
  · have h := (if_neg hc).symm.trans h
    cases h
set_option maxHeartbeats 4000000 in
set_option maxRecDepth 100000 in
theorem lc_14 {p : Program} {l : Launch} {e : Env} {s : State} {m : MethodId} {below : List Frame} {meth : Method} {c : Code} {b0 : Nat} {D : va_G} {cy : Nat → ClassId} {b L : Nat} {xs : Nat → Int32} {Q : State → Prop} (C0 : Cx p m c cL_law 4 s #[Value.ref b] RL D cy) (hX : va_X b L xs s s.heap) (hbl : b < s.heap.size) (hbA : ¬ b0 ≤ b) {S S1 : Mem} {H : Heap} {locs : List Loc} {ls : Array Slot} {x3 : Int32} (hw : Wd b0 D cy S s.heap H locs) (hl : lv_has ls 4 [(0, .ref b), (1, .ref (b0 + 0)), (2, .ref (b0 + 216)), (3, .int x3)]) (hi1 : vp_in (x3 + (1 : Int32)) L) (hi2 : vp_in (x3 + (2 : Int32)) L) (h : sk_14 (xs (x3 + (1 : Int32)).toNatClampNeg) (xs (x3 + (2 : Int32)).toNatClampNeg) S = some S1) (kk : ∀ (H : Heap) (locs : List Loc), Wd b0 D cy S1 s.heap H locs → W p l e room_1 s m #[Value.ref b] below meth c H locs 600000 7302250 Q (F0 m 1115 ls [])) : W p l e room_1 s m #[Value.ref b] below meth c H locs 600000 7302250 Q (F0 m 606 ls []) := by
  rw [sk_14] at h
  refine lv_aload_n C0.hx C0.hb dL_law_606 rfl (lv_at hl 1 rfl) ?_
  refine lv_aload_n C0.hx C0.hb dL_law_607 rfl (lv_at hl 0 rfl) ?_
  refine lv_iload_n C0.hx C0.hb dL_law_608 rfl (lv_at hl 3 rfl) ?_
  refine lv_iconst (v := (1 : Int32)) C0.hx C0.hb dL_law_609 (by decide) ?_
  refine lv_iadd C0.hx C0.hb dL_law_610 ?_
  refine va_sld C0.hx C0.hb hX hbl hbA hw.2 hi1 dL_law_611 ?_
  obtain ⟨c1, hc1, h⟩ := Option.bind_eq_some_iff.mp h
  obtain ⟨q2, hq2, h⟩ := Option.bind_eq_some_iff.mp h
  refine q_callV (n := 1) (av := [.int (xs (x3 + (1 : Int32)).toNatClampNeg)]) (rest := []) (st1 := [.int q2.1]) C0 hw (m_X8_teach l b0 D cy S 0 (xs (x3 + (1 : Int32)).toNatClampNeg) hq2) hc1 rfl (by decide) (goodV kw_652 kw_653 kw_654 kw_63 kw_655) ⟨rfl, rfl⟩ (by decide +kernel) ⟨(Nat.le_of_ble_eq_true rfl), (Nat.le_of_ble_eq_true rfl)⟩ rfl hl.1 rfl (Nat.le_of_ble_eq_true rfl) dL_law_612 ⟨Nat.le_refl _, Nat.le_refl _⟩ rfl (fun H locs hw => ?_)
  refine lv_aload_n C0.hx C0.hb dL_law_615 rfl (lv_at hl 2 rfl) ?_
  refine lv_aload_n C0.hx C0.hb dL_law_616 rfl (lv_at hl 0 rfl) ?_
  refine lv_iload_n C0.hx C0.hb dL_law_617 rfl (lv_at hl 3 rfl) ?_
  refine lv_iconst (v := (1 : Int32)) C0.hx C0.hb dL_law_618 (by decide) ?_
  refine lv_iadd C0.hx C0.hb dL_law_619 ?_
  refine va_sld C0.hx C0.hb hX hbl hbA hw.2 hi1 dL_law_620 ?_
  obtain ⟨c3, hc3, h⟩ := Option.bind_eq_some_iff.mp h
  obtain ⟨q4, hq4, h⟩ := Option.bind_eq_some_iff.mp h
  refine q_callV (n := 1) (av := [.int (xs (x3 + (1 : Int32)).toNatClampNeg)]) (rest := [.int q2.1]) (st1 := [.int q4.1, .int q2.1]) C0 hw (m_X9_teach l b0 D cy q2.2 216 (xs (x3 + (1 : Int32)).toNatClampNeg) hq4) hc3 rfl (by decide) (goodV kw_1148 kw_1149 kw_1150 kw_72 kw_1151) ⟨rfl, rfl⟩ (by decide +kernel) ⟨(Nat.le_of_ble_eq_true rfl), (Nat.le_of_ble_eq_true rfl)⟩ rfl hl.1 rfl (Nat.le_of_ble_eq_true rfl) dL_law_621 ⟨Nat.le_refl _, Nat.le_refl _⟩ rfl (fun H locs hw => ?_)
  refine lv_icmp_eq (tgt := 1115) C0.hx C0.hb dL_law_624 (by decide) (fun hc => ?_) (fun hc => ?_)
  · have h := (if_pos hc).symm.trans h
    obtain rfl := Option.some.inj h
    exact kk _ _ hw
  · have h := (if_neg hc).symm.trans h
    cases h
set_option maxHeartbeats 4000000 in
set_option maxRecDepth 100000 in
theorem lc_15 {p : Program} {l : Launch} {e : Env} {s : State} {m : MethodId} {below : List Frame} {meth : Method} {c : Code} {b0 : Nat} {D : va_G} {cy : Nat → ClassId} {b L : Nat} {xs : Nat → Int32} {Q : State → Prop} (C0 : Cx p m c cL_law 4 s #[Value.ref b] RL D cy) (hX : va_X b L xs s s.heap) (hbl : b < s.heap.size) (hbA : ¬ b0 ≤ b) {S S1 : Mem} {H : Heap} {locs : List Loc} {ls : Array Slot} {x3 : Int32} (hw : Wd b0 D cy S s.heap H locs) (hl : lv_has ls 4 [(0, .ref b), (1, .ref (b0 + 0)), (2, .ref (b0 + 216)), (3, .int x3)]) (hi1 : vp_in (x3 + (1 : Int32)) L) (hi2 : vp_in (x3 + (2 : Int32)) L) (h : sk_15 (xs (x3 + (1 : Int32)).toNatClampNeg) (xs (x3 + (2 : Int32)).toNatClampNeg) S = some S1) (kk : ∀ (H : Heap) (locs : List Loc), Wd b0 D cy S1 s.heap H locs → W p l e room_1 s m #[Value.ref b] below meth c H locs 600000 7302250 Q (F0 m 1115 ls [])) : W p l e room_1 s m #[Value.ref b] below meth c H locs 600000 7302250 Q (F0 m 629 ls []) := by
  rw [sk_15] at h
  refine lv_aload_n C0.hx C0.hb dL_law_629 rfl (lv_at hl 1 rfl) ?_
  refine lv_aload_n C0.hx C0.hb dL_law_630 rfl (lv_at hl 0 rfl) ?_
  refine lv_iload_n C0.hx C0.hb dL_law_631 rfl (lv_at hl 3 rfl) ?_
  refine lv_iconst (v := (1 : Int32)) C0.hx C0.hb dL_law_632 (by decide) ?_
  refine lv_iadd C0.hx C0.hb dL_law_633 ?_
  refine va_sld C0.hx C0.hb hX hbl hbA hw.2 hi1 dL_law_634 ?_
  obtain ⟨c1, hc1, h⟩ := Option.bind_eq_some_iff.mp h
  obtain ⟨q2, hq2, h⟩ := Option.bind_eq_some_iff.mp h
  refine q_callV (n := 1) (av := [.int (xs (x3 + (1 : Int32)).toNatClampNeg)]) (rest := []) (st1 := [.int q2.1]) C0 hw (m_X8_drift l b0 D cy S 0 (xs (x3 + (1 : Int32)).toNatClampNeg) hq2) hc1 rfl (by decide) (goodV kw_659 kw_660 kw_661 kw_63 kw_662) ⟨rfl, rfl⟩ (by decide +kernel) ⟨(Nat.le_of_ble_eq_true rfl), (Nat.le_of_ble_eq_true rfl)⟩ rfl hl.1 rfl (Nat.le_of_ble_eq_true rfl) dL_law_635 ⟨Nat.le_refl _, Nat.le_refl _⟩ rfl (fun H locs hw => ?_)
  refine lv_aload_n C0.hx C0.hb dL_law_638 rfl (lv_at hl 2 rfl) ?_
  refine lv_aload_n C0.hx C0.hb dL_law_639 rfl (lv_at hl 0 rfl) ?_
  refine lv_iload_n C0.hx C0.hb dL_law_640 rfl (lv_at hl 3 rfl) ?_
  refine lv_iconst (v := (1 : Int32)) C0.hx C0.hb dL_law_641 (by decide) ?_
  refine lv_iadd C0.hx C0.hb dL_law_642 ?_
  refine va_sld C0.hx C0.hb hX hbl hbA hw.2 hi1 dL_law_643 ?_
  obtain ⟨c3, hc3, h⟩ := Option.bind_eq_some_iff.mp h
  obtain ⟨q4, hq4, h⟩ := Option.bind_eq_some_iff.mp h
  refine q_callV (n := 1) (av := [.int (xs (x3 + (1 : Int32)).toNatClampNeg)]) (rest := [.int q2.1]) (st1 := [.int q4.1, .int q2.1]) C0 hw (m_X9_drift l b0 D cy q2.2 216 (xs (x3 + (1 : Int32)).toNatClampNeg) hq4) hc3 rfl (by decide) (goodV kw_1156 kw_1157 kw_1158 kw_72 kw_1159) ⟨rfl, rfl⟩ (by decide +kernel) ⟨(Nat.le_of_ble_eq_true rfl), (Nat.le_of_ble_eq_true rfl)⟩ rfl hl.1 rfl (Nat.le_of_ble_eq_true rfl) dL_law_644 ⟨Nat.le_refl _, Nat.le_refl _⟩ rfl (fun H locs hw => ?_)
  refine lv_icmp_eq (tgt := 1115) C0.hx C0.hb dL_law_647 (by decide) (fun hc => ?_) (fun hc => ?_)
  · have h := (if_pos hc).symm.trans h
    obtain rfl := Option.some.inj h
    exact kk _ _ hw
  · have h := (if_neg hc).symm.trans h
    cases h
set_option maxHeartbeats 4000000 in
set_option maxRecDepth 100000 in
theorem lc_16 {p : Program} {l : Launch} {e : Env} {s : State} {m : MethodId} {below : List Frame} {meth : Method} {c : Code} {b0 : Nat} {D : va_G} {cy : Nat → ClassId} {b L : Nat} {xs : Nat → Int32} {Q : State → Prop} (C0 : Cx p m c cL_law 4 s #[Value.ref b] RL D cy) (hX : va_X b L xs s s.heap) (hbl : b < s.heap.size) (hbA : ¬ b0 ≤ b) {S S1 : Mem} {H : Heap} {locs : List Loc} {ls : Array Slot} {x3 : Int32} (hw : Wd b0 D cy S s.heap H locs) (hl : lv_has ls 4 [(0, .ref b), (1, .ref (b0 + 0)), (2, .ref (b0 + 216)), (3, .int x3)]) (hi1 : vp_in (x3 + (1 : Int32)) L) (hi2 : vp_in (x3 + (2 : Int32)) L) (h : sk_16 (xs (x3 + (1 : Int32)).toNatClampNeg) (xs (x3 + (2 : Int32)).toNatClampNeg) S = some S1) (kk : ∀ (H : Heap) (locs : List Loc), Wd b0 D cy S1 s.heap H locs → W p l e room_1 s m #[Value.ref b] below meth c H locs 600000 7302250 Q (F0 m 1115 ls [])) : W p l e room_1 s m #[Value.ref b] below meth c H locs 600000 7302250 Q (F0 m 652 ls []) := by
  rw [sk_16] at h
  refine lv_aload_n C0.hx C0.hb dL_law_652 rfl (lv_at hl 1 rfl) ?_
  obtain ⟨c1, hc1, h⟩ := Option.bind_eq_some_iff.mp h
  obtain ⟨q2, hq2, h⟩ := Option.bind_eq_some_iff.mp h
  refine q_callV (n := 0) (av := []) (rest := []) (st1 := [.int q2.1]) C0 hw (m_X8_undo l b0 D cy S 0 hq2) hc1 rfl (by decide) (goodV kw_675 kw_676 kw_677 kw_63 kw_678) ⟨rfl, rfl⟩ (by decide +kernel) ⟨(Nat.le_of_ble_eq_true rfl), (Nat.le_of_ble_eq_true rfl)⟩ rfl hl.1 rfl (Nat.le_of_ble_eq_true rfl) dL_law_653 ⟨Nat.le_refl _, Nat.le_refl _⟩ rfl (fun H locs hw => ?_)
  refine lv_aload_n C0.hx C0.hb dL_law_656 rfl (lv_at hl 2 rfl) ?_
  obtain ⟨c3, hc3, h⟩ := Option.bind_eq_some_iff.mp h
  obtain ⟨q4, hq4, h⟩ := Option.bind_eq_some_iff.mp h
  refine q_callV (n := 0) (av := []) (rest := [.int q2.1]) (st1 := [.int q4.1, .int q2.1]) C0 hw (m_X9_undo l b0 D cy q2.2 216 hq4) hc3 rfl (by decide) (goodV kw_1172 kw_1173 kw_1174 kw_72 kw_1175) ⟨rfl, rfl⟩ (by decide +kernel) ⟨(Nat.le_of_ble_eq_true rfl), (Nat.le_of_ble_eq_true rfl)⟩ rfl hl.1 rfl (Nat.le_of_ble_eq_true rfl) dL_law_657 ⟨Nat.le_refl _, Nat.le_refl _⟩ rfl (fun H locs hw => ?_)
  refine lv_icmp_eq (tgt := 1115) C0.hx C0.hb dL_law_660 (by decide) (fun hc => ?_) (fun hc => ?_)
  · have h := (if_pos hc).symm.trans h
    obtain rfl := Option.some.inj h
    exact kk _ _ hw
  · have h := (if_neg hc).symm.trans h
    cases h
set_option maxHeartbeats 4000000 in
set_option maxRecDepth 100000 in
theorem lc_17 {p : Program} {l : Launch} {e : Env} {s : State} {m : MethodId} {below : List Frame} {meth : Method} {c : Code} {b0 : Nat} {D : va_G} {cy : Nat → ClassId} {b L : Nat} {xs : Nat → Int32} {Q : State → Prop} (C0 : Cx p m c cL_law 4 s #[Value.ref b] RL D cy) (hX : va_X b L xs s s.heap) (hbl : b < s.heap.size) (hbA : ¬ b0 ≤ b) {S S1 : Mem} {H : Heap} {locs : List Loc} {ls : Array Slot} {x3 : Int32} (hw : Wd b0 D cy S s.heap H locs) (hl : lv_has ls 4 [(0, .ref b), (1, .ref (b0 + 0)), (2, .ref (b0 + 216)), (3, .int x3)]) (hi1 : vp_in (x3 + (1 : Int32)) L) (hi2 : vp_in (x3 + (2 : Int32)) L) (h : sk_17 (xs (x3 + (1 : Int32)).toNatClampNeg) (xs (x3 + (2 : Int32)).toNatClampNeg) S = some S1) (kk : ∀ (H : Heap) (locs : List Loc), Wd b0 D cy S1 s.heap H locs → W p l e room_1 s m #[Value.ref b] below meth c H locs 600000 7302250 Q (F0 m 1115 ls [])) : W p l e room_1 s m #[Value.ref b] below meth c H locs 600000 7302250 Q (F0 m 665 ls []) := by
  rw [sk_17] at h
  refine lv_aload_n C0.hx C0.hb dL_law_665 rfl (lv_at hl 1 rfl) ?_
  refine lv_aload_n C0.hx C0.hb dL_law_666 rfl (lv_at hl 0 rfl) ?_
  refine lv_iload_n C0.hx C0.hb dL_law_667 rfl (lv_at hl 3 rfl) ?_
  refine lv_iconst (v := (1 : Int32)) C0.hx C0.hb dL_law_668 (by decide) ?_
  refine lv_iadd C0.hx C0.hb dL_law_669 ?_
  refine va_sld C0.hx C0.hb hX hbl hbA hw.2 hi1 dL_law_670 ?_
  obtain ⟨c1, hc1, h⟩ := Option.bind_eq_some_iff.mp h
  obtain ⟨q2, hq2, h⟩ := Option.bind_eq_some_iff.mp h
  refine q_callV (n := 1) (av := [.int (xs (x3 + (1 : Int32)).toNatClampNeg)]) (rest := []) (st1 := [.int q2.1]) C0 hw (m_X8_where l b0 D cy S 0 (xs (x3 + (1 : Int32)).toNatClampNeg) hq2) hc1 rfl (by decide) (goodV kw_683 kw_684 kw_685 kw_63 kw_686) ⟨rfl, rfl⟩ (by decide +kernel) ⟨(Nat.le_of_ble_eq_true rfl), (Nat.le_of_ble_eq_true rfl)⟩ rfl hl.1 rfl (Nat.le_of_ble_eq_true rfl) dL_law_671 ⟨Nat.le_refl _, Nat.le_refl _⟩ rfl (fun H locs hw => ?_)
  refine lv_aload_n C0.hx C0.hb dL_law_674 rfl (lv_at hl 2 rfl) ?_
  refine lv_aload_n C0.hx C0.hb dL_law_675 rfl (lv_at hl 0 rfl) ?_
  refine lv_iload_n C0.hx C0.hb dL_law_676 rfl (lv_at hl 3 rfl) ?_
  refine lv_iconst (v := (1 : Int32)) C0.hx C0.hb dL_law_677 (by decide) ?_
  refine lv_iadd C0.hx C0.hb dL_law_678 ?_
  refine va_sld C0.hx C0.hb hX hbl hbA hw.2 hi1 dL_law_679 ?_
  obtain ⟨c3, hc3, h⟩ := Option.bind_eq_some_iff.mp h
  obtain ⟨q4, hq4, h⟩ := Option.bind_eq_some_iff.mp h
  refine q_callV (n := 1) (av := [.int (xs (x3 + (1 : Int32)).toNatClampNeg)]) (rest := [.int q2.1]) (st1 := [.int q4.1, .int q2.1]) C0 hw (m_X9_where l b0 D cy q2.2 216 (xs (x3 + (1 : Int32)).toNatClampNeg) hq4) hc3 rfl (by decide) (goodV kw_1176 kw_1177 kw_1178 kw_72 kw_1179) ⟨rfl, rfl⟩ (by decide +kernel) ⟨(Nat.le_of_ble_eq_true rfl), (Nat.le_of_ble_eq_true rfl)⟩ rfl hl.1 rfl (Nat.le_of_ble_eq_true rfl) dL_law_680 ⟨Nat.le_refl _, Nat.le_refl _⟩ rfl (fun H locs hw => ?_)
  refine lv_icmp_eq (tgt := 1115) C0.hx C0.hb dL_law_683 (by decide) (fun hc => ?_) (fun hc => ?_)
  · have h := (if_pos hc).symm.trans h
    obtain rfl := Option.some.inj h
    exact kk _ _ hw
  · have h := (if_neg hc).symm.trans h
    cases h
set_option maxHeartbeats 4000000 in
set_option maxRecDepth 100000 in
theorem lc_18 {p : Program} {l : Launch} {e : Env} {s : State} {m : MethodId} {below : List Frame} {meth : Method} {c : Code} {b0 : Nat} {D : va_G} {cy : Nat → ClassId} {b L : Nat} {xs : Nat → Int32} {Q : State → Prop} (C0 : Cx p m c cL_law 4 s #[Value.ref b] RL D cy) (hX : va_X b L xs s s.heap) (hbl : b < s.heap.size) (hbA : ¬ b0 ≤ b) {S S1 : Mem} {H : Heap} {locs : List Loc} {ls : Array Slot} {x3 : Int32} (hw : Wd b0 D cy S s.heap H locs) (hl : lv_has ls 4 [(0, .ref b), (1, .ref (b0 + 0)), (2, .ref (b0 + 216)), (3, .int x3)]) (hi1 : vp_in (x3 + (1 : Int32)) L) (hi2 : vp_in (x3 + (2 : Int32)) L) (h : sk_18 (xs (x3 + (1 : Int32)).toNatClampNeg) (xs (x3 + (2 : Int32)).toNatClampNeg) S = some S1) (kk : ∀ (H : Heap) (locs : List Loc), Wd b0 D cy S1 s.heap H locs → W p l e room_1 s m #[Value.ref b] below meth c H locs 600000 7302250 Q (F0 m 1115 ls [])) : W p l e room_1 s m #[Value.ref b] below meth c H locs 600000 7302250 Q (F0 m 688 ls []) := by
  rw [sk_18] at h
  refine lv_aload_n C0.hx C0.hb dL_law_688 rfl (lv_at hl 1 rfl) ?_
  refine lv_aload_n C0.hx C0.hb dL_law_689 rfl (lv_at hl 0 rfl) ?_
  refine lv_iload_n C0.hx C0.hb dL_law_690 rfl (lv_at hl 3 rfl) ?_
  refine lv_iconst (v := (1 : Int32)) C0.hx C0.hb dL_law_691 (by decide) ?_
  refine lv_iadd C0.hx C0.hb dL_law_692 ?_
  refine va_sld C0.hx C0.hb hX hbl hbA hw.2 hi1 dL_law_693 ?_
  obtain ⟨c1, hc1, h⟩ := Option.bind_eq_some_iff.mp h
  obtain ⟨q2, hq2, h⟩ := Option.bind_eq_some_iff.mp h
  refine q_callV (n := 1) (av := [.int (xs (x3 + (1 : Int32)).toNatClampNeg)]) (rest := []) (st1 := [.int q2.1]) C0 hw (m_X8_when l b0 D cy S 0 (xs (x3 + (1 : Int32)).toNatClampNeg) hq2) hc1 rfl (by decide) (goodV kw_695 kw_696 kw_697 kw_63 kw_698) ⟨rfl, rfl⟩ (by decide +kernel) ⟨(Nat.le_of_ble_eq_true rfl), (Nat.le_of_ble_eq_true rfl)⟩ rfl hl.1 rfl (Nat.le_of_ble_eq_true rfl) dL_law_694 ⟨Nat.le_refl _, Nat.le_refl _⟩ rfl (fun H locs hw => ?_)
  refine lv_aload_n C0.hx C0.hb dL_law_697 rfl (lv_at hl 2 rfl) ?_
  refine lv_aload_n C0.hx C0.hb dL_law_698 rfl (lv_at hl 0 rfl) ?_
  refine lv_iload_n C0.hx C0.hb dL_law_699 rfl (lv_at hl 3 rfl) ?_
  refine lv_iconst (v := (1 : Int32)) C0.hx C0.hb dL_law_700 (by decide) ?_
  refine lv_iadd C0.hx C0.hb dL_law_701 ?_
  refine va_sld C0.hx C0.hb hX hbl hbA hw.2 hi1 dL_law_702 ?_
  obtain ⟨c3, hc3, h⟩ := Option.bind_eq_some_iff.mp h
  obtain ⟨q4, hq4, h⟩ := Option.bind_eq_some_iff.mp h
  refine q_callV (n := 1) (av := [.int (xs (x3 + (1 : Int32)).toNatClampNeg)]) (rest := [.int q2.1]) (st1 := [.int q4.1, .int q2.1]) C0 hw (m_X9_when l b0 D cy q2.2 216 (xs (x3 + (1 : Int32)).toNatClampNeg) hq4) hc3 rfl (by decide) (goodV kw_1189 kw_1190 kw_1191 kw_72 kw_1192) ⟨rfl, rfl⟩ (by decide +kernel) ⟨(Nat.le_of_ble_eq_true rfl), (Nat.le_of_ble_eq_true rfl)⟩ rfl hl.1 rfl (Nat.le_of_ble_eq_true rfl) dL_law_703 ⟨Nat.le_refl _, Nat.le_refl _⟩ rfl (fun H locs hw => ?_)
  refine lv_icmp_eq (tgt := 1115) C0.hx C0.hb dL_law_706 (by decide) (fun hc => ?_) (fun hc => ?_)
  · have h := (if_pos hc).symm.trans h
    obtain rfl := Option.some.inj h
    exact kk _ _ hw
  · have h := (if_neg hc).symm.trans h
    cases h
set_option maxHeartbeats 4000000 in
set_option maxRecDepth 100000 in
theorem lc_19 {p : Program} {l : Launch} {e : Env} {s : State} {m : MethodId} {below : List Frame} {meth : Method} {c : Code} {b0 : Nat} {D : va_G} {cy : Nat → ClassId} {b L : Nat} {xs : Nat → Int32} {Q : State → Prop} (C0 : Cx p m c cL_law 4 s #[Value.ref b] RL D cy) (hX : va_X b L xs s s.heap) (hbl : b < s.heap.size) (hbA : ¬ b0 ≤ b) {S S1 : Mem} {H : Heap} {locs : List Loc} {ls : Array Slot} {x3 : Int32} (hw : Wd b0 D cy S s.heap H locs) (hl : lv_has ls 4 [(0, .ref b), (1, .ref (b0 + 0)), (2, .ref (b0 + 216)), (3, .int x3)]) (hi1 : vp_in (x3 + (1 : Int32)) L) (hi2 : vp_in (x3 + (2 : Int32)) L) (h : sk_19 (xs (x3 + (1 : Int32)).toNatClampNeg) (xs (x3 + (2 : Int32)).toNatClampNeg) S = some S1) (kk : ∀ (H : Heap) (locs : List Loc), Wd b0 D cy S1 s.heap H locs → W p l e room_1 s m #[Value.ref b] below meth c H locs 600000 7302250 Q (F0 m 1115 ls [])) : W p l e room_1 s m #[Value.ref b] below meth c H locs 600000 7302250 Q (F0 m 711 ls []) := by
  rw [sk_19] at h
  refine lv_aload_n C0.hx C0.hb dL_law_711 rfl (lv_at hl 1 rfl) ?_
  refine lv_aload_n C0.hx C0.hb dL_law_712 rfl (lv_at hl 0 rfl) ?_
  refine lv_iload_n C0.hx C0.hb dL_law_713 rfl (lv_at hl 3 rfl) ?_
  refine lv_iconst (v := (1 : Int32)) C0.hx C0.hb dL_law_714 (by decide) ?_
  refine lv_iadd C0.hx C0.hb dL_law_715 ?_
  refine va_sld C0.hx C0.hb hX hbl hbA hw.2 hi1 dL_law_716 ?_
  refine lv_aload_n C0.hx C0.hb dL_law_717 rfl (lv_at hl 0 rfl) ?_
  refine lv_iload_n C0.hx C0.hb dL_law_718 rfl (lv_at hl 3 rfl) ?_
  refine lv_iconst (v := (2 : Int32)) C0.hx C0.hb dL_law_719 (by decide) ?_
  refine lv_iadd C0.hx C0.hb dL_law_720 ?_
  refine va_sld C0.hx C0.hb hX hbl hbA hw.2 hi2 dL_law_721 ?_
  obtain ⟨c1, hc1, h⟩ := Option.bind_eq_some_iff.mp h
  obtain ⟨q2, hq2, h⟩ := Option.bind_eq_some_iff.mp h
  refine q_callV (n := 2) (av := [.int (xs (x3 + (1 : Int32)).toNatClampNeg), .int (xs (x3 + (2 : Int32)).toNatClampNeg)]) (rest := []) (st1 := [.int q2.1]) C0 hw (m_X8_governed l b0 D cy S 0 (xs (x3 + (1 : Int32)).toNatClampNeg) (xs (x3 + (2 : Int32)).toNatClampNeg) hq2) hc1 rfl (by decide) (goodV kw_703 kw_704 kw_705 kw_63 kw_706) ⟨rfl, rfl⟩ (by decide +kernel) ⟨(Nat.le_of_ble_eq_true rfl), (Nat.le_of_ble_eq_true rfl)⟩ rfl hl.1 rfl (Nat.le_of_ble_eq_true rfl) dL_law_722 ⟨Nat.le_refl _, Nat.le_refl _⟩ rfl (fun H locs hw => ?_)
  refine lv_aload_n C0.hx C0.hb dL_law_725 rfl (lv_at hl 2 rfl) ?_
  refine lv_aload_n C0.hx C0.hb dL_law_726 rfl (lv_at hl 0 rfl) ?_
  refine lv_iload_n C0.hx C0.hb dL_law_727 rfl (lv_at hl 3 rfl) ?_
  refine lv_iconst (v := (1 : Int32)) C0.hx C0.hb dL_law_728 (by decide) ?_
  refine lv_iadd C0.hx C0.hb dL_law_729 ?_
  refine va_sld C0.hx C0.hb hX hbl hbA hw.2 hi1 dL_law_730 ?_
  refine lv_aload_n C0.hx C0.hb dL_law_731 rfl (lv_at hl 0 rfl) ?_
  refine lv_iload_n C0.hx C0.hb dL_law_732 rfl (lv_at hl 3 rfl) ?_
  refine lv_iconst (v := (2 : Int32)) C0.hx C0.hb dL_law_733 (by decide) ?_
  refine lv_iadd C0.hx C0.hb dL_law_734 ?_
  refine va_sld C0.hx C0.hb hX hbl hbA hw.2 hi2 dL_law_735 ?_
  obtain ⟨c3, hc3, h⟩ := Option.bind_eq_some_iff.mp h
  obtain ⟨q4, hq4, h⟩ := Option.bind_eq_some_iff.mp h
  refine q_callV (n := 2) (av := [.int (xs (x3 + (1 : Int32)).toNatClampNeg), .int (xs (x3 + (2 : Int32)).toNatClampNeg)]) (rest := [.int q2.1]) (st1 := [.int q4.1, .int q2.1]) C0 hw (m_X9_governed l b0 D cy q2.2 216 (xs (x3 + (1 : Int32)).toNatClampNeg) (xs (x3 + (2 : Int32)).toNatClampNeg) hq4) hc3 rfl (by decide) (goodV kw_1197 kw_1198 kw_1199 kw_72 kw_1200) ⟨rfl, rfl⟩ (by decide +kernel) ⟨(Nat.le_of_ble_eq_true rfl), (Nat.le_of_ble_eq_true rfl)⟩ rfl hl.1 rfl (Nat.le_of_ble_eq_true rfl) dL_law_736 ⟨Nat.le_refl _, Nat.le_refl _⟩ rfl (fun H locs hw => ?_)
  refine lv_icmp_eq (tgt := 1115) C0.hx C0.hb dL_law_739 (by decide) (fun hc => ?_) (fun hc => ?_)
  · have h := (if_pos hc).symm.trans h
    obtain rfl := Option.some.inj h
    exact kk _ _ hw
  · have h := (if_neg hc).symm.trans h
    cases h
set_option maxHeartbeats 4000000 in
set_option maxRecDepth 100000 in
theorem lc_20 {p : Program} {l : Launch} {e : Env} {s : State} {m : MethodId} {below : List Frame} {meth : Method} {c : Code} {b0 : Nat} {D : va_G} {cy : Nat → ClassId} {b L : Nat} {xs : Nat → Int32} {Q : State → Prop} (C0 : Cx p m c cL_law 4 s #[Value.ref b] RL D cy) (hX : va_X b L xs s s.heap) (hbl : b < s.heap.size) (hbA : ¬ b0 ≤ b) {S S1 : Mem} {H : Heap} {locs : List Loc} {ls : Array Slot} {x3 : Int32} (hw : Wd b0 D cy S s.heap H locs) (hl : lv_has ls 4 [(0, .ref b), (1, .ref (b0 + 0)), (2, .ref (b0 + 216)), (3, .int x3)]) (hi1 : vp_in (x3 + (1 : Int32)) L) (hi2 : vp_in (x3 + (2 : Int32)) L) (h : sk_20 (xs (x3 + (1 : Int32)).toNatClampNeg) (xs (x3 + (2 : Int32)).toNatClampNeg) S = some S1) (kk : ∀ (H : Heap) (locs : List Loc), Wd b0 D cy S1 s.heap H locs → W p l e room_1 s m #[Value.ref b] below meth c H locs 600000 7302250 Q (F0 m 1115 ls [])) : W p l e room_1 s m #[Value.ref b] below meth c H locs 600000 7302250 Q (F0 m 744 ls []) := by
  rw [sk_20] at h
  refine lv_aload_n C0.hx C0.hb dL_law_744 rfl (lv_at hl 1 rfl) ?_
  obtain ⟨c1, hc1, h⟩ := Option.bind_eq_some_iff.mp h
  obtain ⟨q2, hq2, h⟩ := Option.bind_eq_some_iff.mp h
  refine q_callV (n := 0) (av := []) (rest := []) (st1 := [.int q2.1]) C0 hw (m_X8_ring l b0 D cy S 0 hq2) hc1 rfl (by decide) (goodV kw_707 kw_708 kw_709 kw_63 kw_710) ⟨rfl, rfl⟩ (by decide +kernel) ⟨(Nat.le_of_ble_eq_true rfl), (Nat.le_of_ble_eq_true rfl)⟩ rfl hl.1 rfl (Nat.le_of_ble_eq_true rfl) dL_law_745 ⟨Nat.le_refl _, Nat.le_refl _⟩ rfl (fun H locs hw => ?_)
  refine lv_aload_n C0.hx C0.hb dL_law_748 rfl (lv_at hl 2 rfl) ?_
  obtain ⟨c3, hc3, h⟩ := Option.bind_eq_some_iff.mp h
  obtain ⟨q4, hq4, h⟩ := Option.bind_eq_some_iff.mp h
  refine q_callV (n := 0) (av := []) (rest := [.int q2.1]) (st1 := [.int q4.1, .int q2.1]) C0 hw (m_X9_ring l b0 D cy q2.2 216 hq4) hc3 rfl (by decide) (goodV kw_1201 kw_1202 kw_1203 kw_72 kw_1204) ⟨rfl, rfl⟩ (by decide +kernel) ⟨(Nat.le_of_ble_eq_true rfl), (Nat.le_of_ble_eq_true rfl)⟩ rfl hl.1 rfl (Nat.le_of_ble_eq_true rfl) dL_law_749 ⟨Nat.le_refl _, Nat.le_refl _⟩ rfl (fun H locs hw => ?_)
  refine lv_icmp_eq (tgt := 1115) C0.hx C0.hb dL_law_752 (by decide) (fun hc => ?_) (fun hc => ?_)
  · have h := (if_pos hc).symm.trans h
    obtain rfl := Option.some.inj h
    exact kk _ _ hw
  · have h := (if_neg hc).symm.trans h
    cases h
set_option maxHeartbeats 4000000 in
set_option maxRecDepth 100000 in
theorem lc_21 {p : Program} {l : Launch} {e : Env} {s : State} {m : MethodId} {below : List Frame} {meth : Method} {c : Code} {b0 : Nat} {D : va_G} {cy : Nat → ClassId} {b L : Nat} {xs : Nat → Int32} {Q : State → Prop} (C0 : Cx p m c cL_law 4 s #[Value.ref b] RL D cy) (hX : va_X b L xs s s.heap) (hbl : b < s.heap.size) (hbA : ¬ b0 ≤ b) {S S1 : Mem} {H : Heap} {locs : List Loc} {ls : Array Slot} {x3 : Int32} (hw : Wd b0 D cy S s.heap H locs) (hl : lv_has ls 4 [(0, .ref b), (1, .ref (b0 + 0)), (2, .ref (b0 + 216)), (3, .int x3)]) (hi1 : vp_in (x3 + (1 : Int32)) L) (hi2 : vp_in (x3 + (2 : Int32)) L) (h : sk_21 (xs (x3 + (1 : Int32)).toNatClampNeg) (xs (x3 + (2 : Int32)).toNatClampNeg) S = some S1) (kk : ∀ (H : Heap) (locs : List Loc), Wd b0 D cy S1 s.heap H locs → W p l e room_1 s m #[Value.ref b] below meth c H locs 600000 7302250 Q (F0 m 1115 ls [])) : W p l e room_1 s m #[Value.ref b] below meth c H locs 600000 7302250 Q (F0 m 757 ls []) := by
  rw [sk_21] at h
  refine lv_aload_n C0.hx C0.hb dL_law_757 rfl (lv_at hl 1 rfl) ?_
  refine lv_aload_n C0.hx C0.hb dL_law_758 rfl (lv_at hl 0 rfl) ?_
  refine lv_iload_n C0.hx C0.hb dL_law_759 rfl (lv_at hl 3 rfl) ?_
  refine lv_iconst (v := (1 : Int32)) C0.hx C0.hb dL_law_760 (by decide) ?_
  refine lv_iadd C0.hx C0.hb dL_law_761 ?_
  refine va_sld C0.hx C0.hb hX hbl hbA hw.2 hi1 dL_law_762 ?_
  refine lv_aload_n C0.hx C0.hb dL_law_763 rfl (lv_at hl 0 rfl) ?_
  refine lv_iload_n C0.hx C0.hb dL_law_764 rfl (lv_at hl 3 rfl) ?_
  refine lv_iconst (v := (2 : Int32)) C0.hx C0.hb dL_law_765 (by decide) ?_
  refine lv_iadd C0.hx C0.hb dL_law_766 ?_
  refine va_sld C0.hx C0.hb hX hbl hbA hw.2 hi2 dL_law_767 ?_
  obtain ⟨c1, hc1, h⟩ := Option.bind_eq_some_iff.mp h
  obtain ⟨q2, hq2, h⟩ := Option.bind_eq_some_iff.mp h
  refine q_callV (n := 2) (av := [.int (xs (x3 + (1 : Int32)).toNatClampNeg), .int (xs (x3 + (2 : Int32)).toNatClampNeg)]) (rest := []) (st1 := [.int q2.1]) C0 hw (m_X8_carpets l b0 D cy S 0 (xs (x3 + (1 : Int32)).toNatClampNeg) (xs (x3 + (2 : Int32)).toNatClampNeg) hq2) hc1 rfl (by decide) (goodV kw_711 kw_712 kw_713 kw_63 kw_714) ⟨rfl, rfl⟩ (by decide +kernel) ⟨(Nat.le_of_ble_eq_true rfl), (Nat.le_of_ble_eq_true rfl)⟩ rfl hl.1 rfl (Nat.le_of_ble_eq_true rfl) dL_law_768 ⟨Nat.le_refl _, Nat.le_refl _⟩ rfl (fun H locs hw => ?_)
  refine lv_aload_n C0.hx C0.hb dL_law_771 rfl (lv_at hl 2 rfl) ?_
  refine lv_aload_n C0.hx C0.hb dL_law_772 rfl (lv_at hl 0 rfl) ?_
  refine lv_iload_n C0.hx C0.hb dL_law_773 rfl (lv_at hl 3 rfl) ?_
  refine lv_iconst (v := (1 : Int32)) C0.hx C0.hb dL_law_774 (by decide) ?_
  refine lv_iadd C0.hx C0.hb dL_law_775 ?_
  refine va_sld C0.hx C0.hb hX hbl hbA hw.2 hi1 dL_law_776 ?_
  refine lv_aload_n C0.hx C0.hb dL_law_777 rfl (lv_at hl 0 rfl) ?_
  refine lv_iload_n C0.hx C0.hb dL_law_778 rfl (lv_at hl 3 rfl) ?_
  refine lv_iconst (v := (2 : Int32)) C0.hx C0.hb dL_law_779 (by decide) ?_
  refine lv_iadd C0.hx C0.hb dL_law_780 ?_
  refine va_sld C0.hx C0.hb hX hbl hbA hw.2 hi2 dL_law_781 ?_
  obtain ⟨c3, hc3, h⟩ := Option.bind_eq_some_iff.mp h
  obtain ⟨q4, hq4, h⟩ := Option.bind_eq_some_iff.mp h
  refine q_callV (n := 2) (av := [.int (xs (x3 + (1 : Int32)).toNatClampNeg), .int (xs (x3 + (2 : Int32)).toNatClampNeg)]) (rest := [.int q2.1]) (st1 := [.int q4.1, .int q2.1]) C0 hw (m_X9_carpets l b0 D cy q2.2 216 (xs (x3 + (1 : Int32)).toNatClampNeg) (xs (x3 + (2 : Int32)).toNatClampNeg) hq4) hc3 rfl (by decide) (goodV kw_1205 kw_1206 kw_1207 kw_72 kw_1208) ⟨rfl, rfl⟩ (by decide +kernel) ⟨(Nat.le_of_ble_eq_true rfl), (Nat.le_of_ble_eq_true rfl)⟩ rfl hl.1 rfl (Nat.le_of_ble_eq_true rfl) dL_law_782 ⟨Nat.le_refl _, Nat.le_refl _⟩ rfl (fun H locs hw => ?_)
  refine lv_icmp_eq (tgt := 1115) C0.hx C0.hb dL_law_785 (by decide) (fun hc => ?_) (fun hc => ?_)
  · have h := (if_pos hc).symm.trans h
    obtain rfl := Option.some.inj h
    exact kk _ _ hw
  · have h := (if_neg hc).symm.trans h
    cases h
set_option maxHeartbeats 4000000 in
set_option maxRecDepth 100000 in
theorem lc_22 {p : Program} {l : Launch} {e : Env} {s : State} {m : MethodId} {below : List Frame} {meth : Method} {c : Code} {b0 : Nat} {D : va_G} {cy : Nat → ClassId} {b L : Nat} {xs : Nat → Int32} {Q : State → Prop} (C0 : Cx p m c cL_law 4 s #[Value.ref b] RL D cy) (hX : va_X b L xs s s.heap) (hbl : b < s.heap.size) (hbA : ¬ b0 ≤ b) {S S1 : Mem} {H : Heap} {locs : List Loc} {ls : Array Slot} {x3 : Int32} (hw : Wd b0 D cy S s.heap H locs) (hl : lv_has ls 4 [(0, .ref b), (1, .ref (b0 + 0)), (2, .ref (b0 + 216)), (3, .int x3)]) (hi1 : vp_in (x3 + (1 : Int32)) L) (hi2 : vp_in (x3 + (2 : Int32)) L) (h : sk_22 (xs (x3 + (1 : Int32)).toNatClampNeg) (xs (x3 + (2 : Int32)).toNatClampNeg) S = some S1) (kk : ∀ (H : Heap) (locs : List Loc), Wd b0 D cy S1 s.heap H locs → W p l e room_1 s m #[Value.ref b] below meth c H locs 600000 7302250 Q (F0 m 1115 ls [])) : W p l e room_1 s m #[Value.ref b] below meth c H locs 600000 7302250 Q (F0 m 790 ls []) := by
  rw [sk_22] at h
  refine lv_aload_n C0.hx C0.hb dL_law_790 rfl (lv_at hl 1 rfl) ?_
  refine lv_aload_n C0.hx C0.hb dL_law_791 rfl (lv_at hl 0 rfl) ?_
  refine lv_iload_n C0.hx C0.hb dL_law_792 rfl (lv_at hl 3 rfl) ?_
  refine lv_iconst (v := (1 : Int32)) C0.hx C0.hb dL_law_793 (by decide) ?_
  refine lv_iadd C0.hx C0.hb dL_law_794 ?_
  refine va_sld C0.hx C0.hb hX hbl hbA hw.2 hi1 dL_law_795 ?_
  obtain ⟨c1, hc1, h⟩ := Option.bind_eq_some_iff.mp h
  obtain ⟨v2, hv2, h⟩ := Option.bind_eq_some_iff.mp h
  refine q_callV (n := 1) (av := [.int (xs (x3 + (1 : Int32)).toNatClampNeg)]) (rest := []) (st1 := [.int v2]) C0 hw (m_X8_bricks l b0 D cy S 0 (xs (x3 + (1 : Int32)).toNatClampNeg) hv2) hc1 rfl (by decide) (goodV kw_724 kw_725 kw_726 kw_63 kw_727) ⟨rfl, rfl⟩ (by decide +kernel) ⟨(Nat.le_of_ble_eq_true rfl), (Nat.le_of_ble_eq_true rfl)⟩ rfl hl.1 rfl (Nat.le_of_ble_eq_true rfl) dL_law_796 ⟨Nat.le_refl _, Nat.le_refl _⟩ rfl (fun H locs hw => ?_)
  refine lv_aload_n C0.hx C0.hb dL_law_799 rfl (lv_at hl 2 rfl) ?_
  refine lv_aload_n C0.hx C0.hb dL_law_800 rfl (lv_at hl 0 rfl) ?_
  refine lv_iload_n C0.hx C0.hb dL_law_801 rfl (lv_at hl 3 rfl) ?_
  refine lv_iconst (v := (1 : Int32)) C0.hx C0.hb dL_law_802 (by decide) ?_
  refine lv_iadd C0.hx C0.hb dL_law_803 ?_
  refine va_sld C0.hx C0.hb hX hbl hbA hw.2 hi1 dL_law_804 ?_
  obtain ⟨c3, hc3, h⟩ := Option.bind_eq_some_iff.mp h
  obtain ⟨v4, hv4, h⟩ := Option.bind_eq_some_iff.mp h
  refine q_callV (n := 1) (av := [.int (xs (x3 + (1 : Int32)).toNatClampNeg)]) (rest := [.int v2]) (st1 := [.int v4, .int v2]) C0 hw (m_X9_bricks l b0 D cy S 216 (xs (x3 + (1 : Int32)).toNatClampNeg) hv4) hc3 rfl (by decide) (goodV kw_1213 kw_1214 kw_1215 kw_72 kw_1216) ⟨rfl, rfl⟩ (by decide +kernel) ⟨(Nat.le_of_ble_eq_true rfl), (Nat.le_of_ble_eq_true rfl)⟩ rfl hl.1 rfl (Nat.le_of_ble_eq_true rfl) dL_law_805 ⟨Nat.le_refl _, Nat.le_refl _⟩ rfl (fun H locs hw => ?_)
  refine lv_icmp_eq (tgt := 1115) C0.hx C0.hb dL_law_808 (by decide) (fun hc => ?_) (fun hc => ?_)
  · have h := (if_pos hc).symm.trans h
    obtain rfl := Option.some.inj h
    exact kk _ _ hw
  · have h := (if_neg hc).symm.trans h
    cases h
set_option maxHeartbeats 4000000 in
set_option maxRecDepth 100000 in
theorem lc_23 {p : Program} {l : Launch} {e : Env} {s : State} {m : MethodId} {below : List Frame} {meth : Method} {c : Code} {b0 : Nat} {D : va_G} {cy : Nat → ClassId} {b L : Nat} {xs : Nat → Int32} {Q : State → Prop} (C0 : Cx p m c cL_law 4 s #[Value.ref b] RL D cy) (hX : va_X b L xs s s.heap) (hbl : b < s.heap.size) (hbA : ¬ b0 ≤ b) {S S1 : Mem} {H : Heap} {locs : List Loc} {ls : Array Slot} {x3 : Int32} (hw : Wd b0 D cy S s.heap H locs) (hl : lv_has ls 4 [(0, .ref b), (1, .ref (b0 + 0)), (2, .ref (b0 + 216)), (3, .int x3)]) (hi1 : vp_in (x3 + (1 : Int32)) L) (hi2 : vp_in (x3 + (2 : Int32)) L) (h : sk_23 (xs (x3 + (1 : Int32)).toNatClampNeg) (xs (x3 + (2 : Int32)).toNatClampNeg) S = some S1) (kk : ∀ (H : Heap) (locs : List Loc), Wd b0 D cy S1 s.heap H locs → W p l e room_1 s m #[Value.ref b] below meth c H locs 600000 7302250 Q (F0 m 1115 ls [])) : W p l e room_1 s m #[Value.ref b] below meth c H locs 600000 7302250 Q (F0 m 813 ls []) := by
  rw [sk_23] at h
  refine lv_aload_n C0.hx C0.hb dL_law_813 rfl (lv_at hl 1 rfl) ?_
  refine lv_aload_n C0.hx C0.hb dL_law_814 rfl (lv_at hl 0 rfl) ?_
  refine lv_iload_n C0.hx C0.hb dL_law_815 rfl (lv_at hl 3 rfl) ?_
  refine lv_iconst (v := (1 : Int32)) C0.hx C0.hb dL_law_816 (by decide) ?_
  refine lv_iadd C0.hx C0.hb dL_law_817 ?_
  refine va_sld C0.hx C0.hb hX hbl hbA hw.2 hi1 dL_law_818 ?_
  obtain ⟨c1, hc1, h⟩ := Option.bind_eq_some_iff.mp h
  obtain ⟨q2, hq2, h⟩ := Option.bind_eq_some_iff.mp h
  refine q_callV (n := 1) (av := [.int (xs (x3 + (1 : Int32)).toNatClampNeg)]) (rest := []) (st1 := [.int q2.1]) C0 hw (m_X8_quietest l b0 D cy S 0 (xs (x3 + (1 : Int32)).toNatClampNeg) hq2) hc1 rfl (by decide) (goodV kw_737 kw_738 kw_739 kw_63 kw_740) ⟨rfl, rfl⟩ (by decide +kernel) ⟨(Nat.le_of_ble_eq_true rfl), (Nat.le_of_ble_eq_true rfl)⟩ rfl hl.1 rfl (Nat.le_of_ble_eq_true rfl) dL_law_819 ⟨Nat.le_refl _, Nat.le_refl _⟩ rfl (fun H locs hw => ?_)
  refine lv_aload_n C0.hx C0.hb dL_law_822 rfl (lv_at hl 2 rfl) ?_
  refine lv_aload_n C0.hx C0.hb dL_law_823 rfl (lv_at hl 0 rfl) ?_
  refine lv_iload_n C0.hx C0.hb dL_law_824 rfl (lv_at hl 3 rfl) ?_
  refine lv_iconst (v := (1 : Int32)) C0.hx C0.hb dL_law_825 (by decide) ?_
  refine lv_iadd C0.hx C0.hb dL_law_826 ?_
  refine va_sld C0.hx C0.hb hX hbl hbA hw.2 hi1 dL_law_827 ?_
  obtain ⟨c3, hc3, h⟩ := Option.bind_eq_some_iff.mp h
  obtain ⟨q4, hq4, h⟩ := Option.bind_eq_some_iff.mp h
  refine q_callV (n := 1) (av := [.int (xs (x3 + (1 : Int32)).toNatClampNeg)]) (rest := [.int q2.1]) (st1 := [.int q4.1, .int q2.1]) C0 hw (m_X9_quietest l b0 D cy q2.2 216 (xs (x3 + (1 : Int32)).toNatClampNeg) hq4) hc3 rfl (by decide) (goodV kw_1221 kw_1222 kw_1223 kw_72 kw_1224) ⟨rfl, rfl⟩ (by decide +kernel) ⟨(Nat.le_of_ble_eq_true rfl), (Nat.le_of_ble_eq_true rfl)⟩ rfl hl.1 rfl (Nat.le_of_ble_eq_true rfl) dL_law_828 ⟨Nat.le_refl _, Nat.le_refl _⟩ rfl (fun H locs hw => ?_)
  refine lv_icmp_eq (tgt := 1115) C0.hx C0.hb dL_law_831 (by decide) (fun hc => ?_) (fun hc => ?_)
  · have h := (if_pos hc).symm.trans h
    obtain rfl := Option.some.inj h
    exact kk _ _ hw
  · have h := (if_neg hc).symm.trans h
    cases h
set_option maxHeartbeats 4000000 in
set_option maxRecDepth 100000 in
theorem lc_24 {p : Program} {l : Launch} {e : Env} {s : State} {m : MethodId} {below : List Frame} {meth : Method} {c : Code} {b0 : Nat} {D : va_G} {cy : Nat → ClassId} {b L : Nat} {xs : Nat → Int32} {Q : State → Prop} (C0 : Cx p m c cL_law 4 s #[Value.ref b] RL D cy) (hX : va_X b L xs s s.heap) (hbl : b < s.heap.size) (hbA : ¬ b0 ≤ b) {S S1 : Mem} {H : Heap} {locs : List Loc} {ls : Array Slot} {x3 : Int32} (hw : Wd b0 D cy S s.heap H locs) (hl : lv_has ls 4 [(0, .ref b), (1, .ref (b0 + 0)), (2, .ref (b0 + 216)), (3, .int x3)]) (hi1 : vp_in (x3 + (1 : Int32)) L) (hi2 : vp_in (x3 + (2 : Int32)) L) (h : sk_24 (xs (x3 + (1 : Int32)).toNatClampNeg) (xs (x3 + (2 : Int32)).toNatClampNeg) S = some S1) (kk : ∀ (H : Heap) (locs : List Loc), Wd b0 D cy S1 s.heap H locs → W p l e room_1 s m #[Value.ref b] below meth c H locs 600000 7302250 Q (F0 m 1115 ls [])) : W p l e room_1 s m #[Value.ref b] below meth c H locs 600000 7302250 Q (F0 m 836 ls []) := by
  rw [sk_24] at h
  refine lv_aload_n C0.hx C0.hb dL_law_836 rfl (lv_at hl 1 rfl) ?_
  obtain ⟨c1, hc1, h⟩ := Option.bind_eq_some_iff.mp h
  obtain ⟨q2, hq2, h⟩ := Option.bind_eq_some_iff.mp h
  refine q_callV (n := 0) (av := []) (rest := []) (st1 := [.int q2.1]) C0 hw (m_X8_stand l b0 D cy S 0 hq2) hc1 rfl (by decide) (goodV kw_746 kw_747 kw_748 kw_63 kw_749) ⟨rfl, rfl⟩ (by decide +kernel) ⟨(Nat.le_of_ble_eq_true rfl), (Nat.le_of_ble_eq_true rfl)⟩ rfl hl.1 rfl (Nat.le_of_ble_eq_true rfl) dL_law_837 ⟨Nat.le_refl _, Nat.le_refl _⟩ rfl (fun H locs hw => ?_)
  refine lv_aload_n C0.hx C0.hb dL_law_840 rfl (lv_at hl 2 rfl) ?_
  obtain ⟨c3, hc3, h⟩ := Option.bind_eq_some_iff.mp h
  obtain ⟨q4, hq4, h⟩ := Option.bind_eq_some_iff.mp h
  refine q_callV (n := 0) (av := []) (rest := [.int q2.1]) (st1 := [.int q4.1, .int q2.1]) C0 hw (m_X9_stand l b0 D cy q2.2 216 hq4) hc3 rfl (by decide) (goodV kw_1229 kw_1230 kw_1231 kw_72 kw_1232) ⟨rfl, rfl⟩ (by decide +kernel) ⟨(Nat.le_of_ble_eq_true rfl), (Nat.le_of_ble_eq_true rfl)⟩ rfl hl.1 rfl (Nat.le_of_ble_eq_true rfl) dL_law_841 ⟨Nat.le_refl _, Nat.le_refl _⟩ rfl (fun H locs hw => ?_)
  refine lv_icmp_eq (tgt := 1115) C0.hx C0.hb dL_law_844 (by decide) (fun hc => ?_) (fun hc => ?_)
  · have h := (if_pos hc).symm.trans h
    obtain rfl := Option.some.inj h
    exact kk _ _ hw
  · have h := (if_neg hc).symm.trans h
    cases h
set_option maxHeartbeats 4000000 in
set_option maxRecDepth 100000 in
theorem lc_25 {p : Program} {l : Launch} {e : Env} {s : State} {m : MethodId} {below : List Frame} {meth : Method} {c : Code} {b0 : Nat} {D : va_G} {cy : Nat → ClassId} {b L : Nat} {xs : Nat → Int32} {Q : State → Prop} (C0 : Cx p m c cL_law 4 s #[Value.ref b] RL D cy) (hX : va_X b L xs s s.heap) (hbl : b < s.heap.size) (hbA : ¬ b0 ≤ b) {S S1 : Mem} {H : Heap} {locs : List Loc} {ls : Array Slot} {x3 : Int32} (hw : Wd b0 D cy S s.heap H locs) (hl : lv_has ls 4 [(0, .ref b), (1, .ref (b0 + 0)), (2, .ref (b0 + 216)), (3, .int x3)]) (hi1 : vp_in (x3 + (1 : Int32)) L) (hi2 : vp_in (x3 + (2 : Int32)) L) (h : sk_25 (xs (x3 + (1 : Int32)).toNatClampNeg) (xs (x3 + (2 : Int32)).toNatClampNeg) S = some S1) (kk : ∀ (H : Heap) (locs : List Loc), Wd b0 D cy S1 s.heap H locs → W p l e room_1 s m #[Value.ref b] below meth c H locs 600000 7302250 Q (F0 m 1115 ls [])) : W p l e room_1 s m #[Value.ref b] below meth c H locs 600000 7302250 Q (F0 m 849 ls []) := by
  rw [sk_25] at h
  refine lv_aload_n C0.hx C0.hb dL_law_849 rfl (lv_at hl 1 rfl) ?_
  refine lv_aload_n C0.hx C0.hb dL_law_850 rfl (lv_at hl 0 rfl) ?_
  refine lv_iload_n C0.hx C0.hb dL_law_851 rfl (lv_at hl 3 rfl) ?_
  refine lv_iconst (v := (1 : Int32)) C0.hx C0.hb dL_law_852 (by decide) ?_
  refine lv_iadd C0.hx C0.hb dL_law_853 ?_
  refine va_sld C0.hx C0.hb hX hbl hbA hw.2 hi1 dL_law_854 ?_
  obtain ⟨c1, hc1, h⟩ := Option.bind_eq_some_iff.mp h
  obtain ⟨q2, hq2, h⟩ := Option.bind_eq_some_iff.mp h
  refine q_callV (n := 1) (av := [.int (xs (x3 + (1 : Int32)).toNatClampNeg)]) (rest := []) (st1 := [.int q2.1]) C0 hw (m_X8_willHear l b0 D cy S 0 (xs (x3 + (1 : Int32)).toNatClampNeg) hq2) hc1 rfl (by decide) (goodV kw_750 kw_751 kw_752 kw_63 kw_753) ⟨rfl, rfl⟩ (by decide +kernel) ⟨(Nat.le_of_ble_eq_true rfl), (Nat.le_of_ble_eq_true rfl)⟩ rfl hl.1 rfl (Nat.le_of_ble_eq_true rfl) dL_law_855 ⟨Nat.le_refl _, Nat.le_refl _⟩ rfl (fun H locs hw => ?_)
  refine lv_aload_n C0.hx C0.hb dL_law_858 rfl (lv_at hl 2 rfl) ?_
  refine lv_aload_n C0.hx C0.hb dL_law_859 rfl (lv_at hl 0 rfl) ?_
  refine lv_iload_n C0.hx C0.hb dL_law_860 rfl (lv_at hl 3 rfl) ?_
  refine lv_iconst (v := (1 : Int32)) C0.hx C0.hb dL_law_861 (by decide) ?_
  refine lv_iadd C0.hx C0.hb dL_law_862 ?_
  refine va_sld C0.hx C0.hb hX hbl hbA hw.2 hi1 dL_law_863 ?_
  obtain ⟨c3, hc3, h⟩ := Option.bind_eq_some_iff.mp h
  obtain ⟨q4, hq4, h⟩ := Option.bind_eq_some_iff.mp h
  refine q_callV (n := 1) (av := [.int (xs (x3 + (1 : Int32)).toNatClampNeg)]) (rest := [.int q2.1]) (st1 := [.int q4.1, .int q2.1]) C0 hw (m_X9_willHear l b0 D cy q2.2 216 (xs (x3 + (1 : Int32)).toNatClampNeg) hq4) hc3 rfl (by decide) (goodV kw_1233 kw_1234 kw_1235 kw_72 kw_1236) ⟨rfl, rfl⟩ (by decide +kernel) ⟨(Nat.le_of_ble_eq_true rfl), (Nat.le_of_ble_eq_true rfl)⟩ rfl hl.1 rfl (Nat.le_of_ble_eq_true rfl) dL_law_864 ⟨Nat.le_refl _, Nat.le_refl _⟩ rfl (fun H locs hw => ?_)
  refine lv_icmp_eq (tgt := 1115) C0.hx C0.hb dL_law_867 (by decide) (fun hc => ?_) (fun hc => ?_)
  · have h := (if_pos hc).symm.trans h
    obtain rfl := Option.some.inj h
    exact kk _ _ hw
  · have h := (if_neg hc).symm.trans h
    cases h
set_option maxHeartbeats 4000000 in
set_option maxRecDepth 100000 in
theorem lc_26 {p : Program} {l : Launch} {e : Env} {s : State} {m : MethodId} {below : List Frame} {meth : Method} {c : Code} {b0 : Nat} {D : va_G} {cy : Nat → ClassId} {b L : Nat} {xs : Nat → Int32} {Q : State → Prop} (C0 : Cx p m c cL_law 4 s #[Value.ref b] RL D cy) (hX : va_X b L xs s s.heap) (hbl : b < s.heap.size) (hbA : ¬ b0 ≤ b) {S S1 : Mem} {H : Heap} {locs : List Loc} {ls : Array Slot} {x3 : Int32} (hw : Wd b0 D cy S s.heap H locs) (hl : lv_has ls 4 [(0, .ref b), (1, .ref (b0 + 0)), (2, .ref (b0 + 216)), (3, .int x3)]) (hi1 : vp_in (x3 + (1 : Int32)) L) (hi2 : vp_in (x3 + (2 : Int32)) L) (h : sk_26 (xs (x3 + (1 : Int32)).toNatClampNeg) (xs (x3 + (2 : Int32)).toNatClampNeg) S = some S1) (kk : ∀ (H : Heap) (locs : List Loc), Wd b0 D cy S1 s.heap H locs → W p l e room_1 s m #[Value.ref b] below meth c H locs 600000 7302250 Q (F0 m 1115 ls [])) : W p l e room_1 s m #[Value.ref b] below meth c H locs 600000 7302250 Q (F0 m 872 ls []) := by
  rw [sk_26] at h
  refine lv_aload_n C0.hx C0.hb dL_law_872 rfl (lv_at hl 1 rfl) ?_
  refine lv_aload_n C0.hx C0.hb dL_law_873 rfl (lv_at hl 0 rfl) ?_
  refine lv_iload_n C0.hx C0.hb dL_law_874 rfl (lv_at hl 3 rfl) ?_
  refine lv_iconst (v := (1 : Int32)) C0.hx C0.hb dL_law_875 (by decide) ?_
  refine lv_iadd C0.hx C0.hb dL_law_876 ?_
  refine va_sld C0.hx C0.hb hX hbl hbA hw.2 hi1 dL_law_877 ?_
  refine lv_aload_n C0.hx C0.hb dL_law_878 rfl (lv_at hl 0 rfl) ?_
  refine lv_iload_n C0.hx C0.hb dL_law_879 rfl (lv_at hl 3 rfl) ?_
  refine lv_iconst (v := (2 : Int32)) C0.hx C0.hb dL_law_880 (by decide) ?_
  refine lv_iadd C0.hx C0.hb dL_law_881 ?_
  refine va_sld C0.hx C0.hb hX hbl hbA hw.2 hi2 dL_law_882 ?_
  obtain ⟨c1, hc1, h⟩ := Option.bind_eq_some_iff.mp h
  obtain ⟨v2, hv2, h⟩ := Option.bind_eq_some_iff.mp h
  refine q_callV (n := 2) (av := [.int (xs (x3 + (1 : Int32)).toNatClampNeg), .int (xs (x3 + (2 : Int32)).toNatClampNeg)]) (rest := []) (st1 := [.int v2]) C0 hw (m_X8_dance l b0 D cy S 0 (xs (x3 + (1 : Int32)).toNatClampNeg) (xs (x3 + (2 : Int32)).toNatClampNeg) hv2) hc1 rfl (by decide) (goodV kw_758 kw_759 kw_760 kw_63 kw_761) ⟨rfl, rfl⟩ (by decide +kernel) ⟨(Nat.le_of_ble_eq_true rfl), (Nat.le_of_ble_eq_true rfl)⟩ rfl hl.1 rfl (Nat.le_of_ble_eq_true rfl) dL_law_883 ⟨Nat.le_refl _, Nat.le_refl _⟩ rfl (fun H locs hw => ?_)
  refine lv_aload_n C0.hx C0.hb dL_law_886 rfl (lv_at hl 2 rfl) ?_
  refine lv_aload_n C0.hx C0.hb dL_law_887 rfl (lv_at hl 0 rfl) ?_
  refine lv_iload_n C0.hx C0.hb dL_law_888 rfl (lv_at hl 3 rfl) ?_
  refine lv_iconst (v := (1 : Int32)) C0.hx C0.hb dL_law_889 (by decide) ?_
  refine lv_iadd C0.hx C0.hb dL_law_890 ?_
  refine va_sld C0.hx C0.hb hX hbl hbA hw.2 hi1 dL_law_891 ?_
  refine lv_aload_n C0.hx C0.hb dL_law_892 rfl (lv_at hl 0 rfl) ?_
  refine lv_iload_n C0.hx C0.hb dL_law_893 rfl (lv_at hl 3 rfl) ?_
  refine lv_iconst (v := (2 : Int32)) C0.hx C0.hb dL_law_894 (by decide) ?_
  refine lv_iadd C0.hx C0.hb dL_law_895 ?_
  refine va_sld C0.hx C0.hb hX hbl hbA hw.2 hi2 dL_law_896 ?_
  obtain ⟨c3, hc3, h⟩ := Option.bind_eq_some_iff.mp h
  obtain ⟨v4, hv4, h⟩ := Option.bind_eq_some_iff.mp h
  refine q_callV (n := 2) (av := [.int (xs (x3 + (1 : Int32)).toNatClampNeg), .int (xs (x3 + (2 : Int32)).toNatClampNeg)]) (rest := [.int v2]) (st1 := [.int v4, .int v2]) C0 hw (m_X9_dance l b0 D cy S 216 (xs (x3 + (1 : Int32)).toNatClampNeg) (xs (x3 + (2 : Int32)).toNatClampNeg) hv4) hc3 rfl (by decide) (goodV kw_1237 kw_1238 kw_1239 kw_72 kw_1240) ⟨rfl, rfl⟩ (by decide +kernel) ⟨(Nat.le_of_ble_eq_true rfl), (Nat.le_of_ble_eq_true rfl)⟩ rfl hl.1 rfl (Nat.le_of_ble_eq_true rfl) dL_law_897 ⟨Nat.le_refl _, Nat.le_refl _⟩ rfl (fun H locs hw => ?_)
  refine lv_icmp_eq (tgt := 1115) C0.hx C0.hb dL_law_900 (by decide) (fun hc => ?_) (fun hc => ?_)
  · have h := (if_pos hc).symm.trans h
    obtain rfl := Option.some.inj h
    exact kk _ _ hw
  · have h := (if_neg hc).symm.trans h
    cases h
set_option maxHeartbeats 4000000 in
set_option maxRecDepth 100000 in
theorem lc_27 {p : Program} {l : Launch} {e : Env} {s : State} {m : MethodId} {below : List Frame} {meth : Method} {c : Code} {b0 : Nat} {D : va_G} {cy : Nat → ClassId} {b L : Nat} {xs : Nat → Int32} {Q : State → Prop} (C0 : Cx p m c cL_law 4 s #[Value.ref b] RL D cy) (hX : va_X b L xs s s.heap) (hbl : b < s.heap.size) (hbA : ¬ b0 ≤ b) {S S1 : Mem} {H : Heap} {locs : List Loc} {ls : Array Slot} {x3 : Int32} (hw : Wd b0 D cy S s.heap H locs) (hl : lv_has ls 4 [(0, .ref b), (1, .ref (b0 + 0)), (2, .ref (b0 + 216)), (3, .int x3)]) (hi1 : vp_in (x3 + (1 : Int32)) L) (hi2 : vp_in (x3 + (2 : Int32)) L) (h : sk_27 (xs (x3 + (1 : Int32)).toNatClampNeg) (xs (x3 + (2 : Int32)).toNatClampNeg) S = some S1) (kk : ∀ (H : Heap) (locs : List Loc), Wd b0 D cy S1 s.heap H locs → W p l e room_1 s m #[Value.ref b] below meth c H locs 600000 7302250 Q (F0 m 1115 ls [])) : W p l e room_1 s m #[Value.ref b] below meth c H locs 600000 7302250 Q (F0 m 905 ls []) := by
  rw [sk_27] at h
  refine lv_aload_n C0.hx C0.hb dL_law_905 rfl (lv_at hl 1 rfl) ?_
  refine lv_aload_n C0.hx C0.hb dL_law_906 rfl (lv_at hl 0 rfl) ?_
  refine lv_iload_n C0.hx C0.hb dL_law_907 rfl (lv_at hl 3 rfl) ?_
  refine lv_iconst (v := (1 : Int32)) C0.hx C0.hb dL_law_908 (by decide) ?_
  refine lv_iadd C0.hx C0.hb dL_law_909 ?_
  refine va_sld C0.hx C0.hb hX hbl hbA hw.2 hi1 dL_law_910 ?_
  obtain ⟨c1, hc1, h⟩ := Option.bind_eq_some_iff.mp h
  obtain ⟨v2, hv2, h⟩ := Option.bind_eq_some_iff.mp h
  refine q_callV (n := 1) (av := [.int (xs (x3 + (1 : Int32)).toNatClampNeg)]) (rest := []) (st1 := [.int v2]) C0 hw (m_X8_fit l b0 D cy S 0 (xs (x3 + (1 : Int32)).toNatClampNeg) hv2) hc1 rfl (by decide) (goodV kw_764 kw_765 kw_766 kw_63 kw_767) ⟨rfl, rfl⟩ (by decide +kernel) ⟨(Nat.le_of_ble_eq_true rfl), (Nat.le_of_ble_eq_true rfl)⟩ rfl hl.1 rfl (Nat.le_of_ble_eq_true rfl) dL_law_911 ⟨Nat.le_refl _, Nat.le_refl _⟩ rfl (fun H locs hw => ?_)
  refine lv_aload_n C0.hx C0.hb dL_law_914 rfl (lv_at hl 2 rfl) ?_
  refine lv_aload_n C0.hx C0.hb dL_law_915 rfl (lv_at hl 0 rfl) ?_
  refine lv_iload_n C0.hx C0.hb dL_law_916 rfl (lv_at hl 3 rfl) ?_
  refine lv_iconst (v := (1 : Int32)) C0.hx C0.hb dL_law_917 (by decide) ?_
  refine lv_iadd C0.hx C0.hb dL_law_918 ?_
  refine va_sld C0.hx C0.hb hX hbl hbA hw.2 hi1 dL_law_919 ?_
  obtain ⟨c3, hc3, h⟩ := Option.bind_eq_some_iff.mp h
  obtain ⟨v4, hv4, h⟩ := Option.bind_eq_some_iff.mp h
  refine q_callV (n := 1) (av := [.int (xs (x3 + (1 : Int32)).toNatClampNeg)]) (rest := [.int v2]) (st1 := [.int v4, .int v2]) C0 hw (m_X9_fit l b0 D cy S 216 (xs (x3 + (1 : Int32)).toNatClampNeg) hv4) hc3 rfl (by decide) (goodV kw_1242 kw_1243 kw_1244 kw_72 kw_1245) ⟨rfl, rfl⟩ (by decide +kernel) ⟨(Nat.le_of_ble_eq_true rfl), (Nat.le_of_ble_eq_true rfl)⟩ rfl hl.1 rfl (Nat.le_of_ble_eq_true rfl) dL_law_920 ⟨Nat.le_refl _, Nat.le_refl _⟩ rfl (fun H locs hw => ?_)
  refine lv_icmp_eq (tgt := 1115) C0.hx C0.hb dL_law_923 (by decide) (fun hc => ?_) (fun hc => ?_)
  · have h := (if_pos hc).symm.trans h
    obtain rfl := Option.some.inj h
    exact kk _ _ hw
  · have h := (if_neg hc).symm.trans h
    cases h
set_option maxHeartbeats 4000000 in
set_option maxRecDepth 100000 in
theorem lc_28 {p : Program} {l : Launch} {e : Env} {s : State} {m : MethodId} {below : List Frame} {meth : Method} {c : Code} {b0 : Nat} {D : va_G} {cy : Nat → ClassId} {b L : Nat} {xs : Nat → Int32} {Q : State → Prop} (C0 : Cx p m c cL_law 4 s #[Value.ref b] RL D cy) (hX : va_X b L xs s s.heap) (hbl : b < s.heap.size) (hbA : ¬ b0 ≤ b) {S S1 : Mem} {H : Heap} {locs : List Loc} {ls : Array Slot} {x3 : Int32} (hw : Wd b0 D cy S s.heap H locs) (hl : lv_has ls 4 [(0, .ref b), (1, .ref (b0 + 0)), (2, .ref (b0 + 216)), (3, .int x3)]) (hi1 : vp_in (x3 + (1 : Int32)) L) (hi2 : vp_in (x3 + (2 : Int32)) L) (h : sk_28 (xs (x3 + (1 : Int32)).toNatClampNeg) (xs (x3 + (2 : Int32)).toNatClampNeg) S = some S1) (kk : ∀ (H : Heap) (locs : List Loc), Wd b0 D cy S1 s.heap H locs → W p l e room_1 s m #[Value.ref b] below meth c H locs 600000 7302250 Q (F0 m 1115 ls [])) : W p l e room_1 s m #[Value.ref b] below meth c H locs 600000 7302250 Q (F0 m 928 ls []) := by
  rw [sk_28] at h
  refine lv_aload_n C0.hx C0.hb dL_law_928 rfl (lv_at hl 1 rfl) ?_
  obtain ⟨c1, hc1, h⟩ := Option.bind_eq_some_iff.mp h
  obtain ⟨q2, hq2, h⟩ := Option.bind_eq_some_iff.mp h
  refine q_callV (n := 0) (av := []) (rest := []) (st1 := [.int q2.1]) C0 hw (m_X8_tells l b0 D cy S 0 hq2) hc1 rfl (by decide) (goodV kw_784 kw_785 kw_786 kw_63 kw_787) ⟨rfl, rfl⟩ (by decide +kernel) ⟨(Nat.le_of_ble_eq_true rfl), (Nat.le_of_ble_eq_true rfl)⟩ rfl hl.1 rfl (Nat.le_of_ble_eq_true rfl) dL_law_929 ⟨Nat.le_refl _, Nat.le_refl _⟩ rfl (fun H locs hw => ?_)
  refine lv_aload_n C0.hx C0.hb dL_law_932 rfl (lv_at hl 2 rfl) ?_
  obtain ⟨c3, hc3, h⟩ := Option.bind_eq_some_iff.mp h
  obtain ⟨q4, hq4, h⟩ := Option.bind_eq_some_iff.mp h
  refine q_callV (n := 0) (av := []) (rest := [.int q2.1]) (st1 := [.int q4.1, .int q2.1]) C0 hw (m_X9_tells l b0 D cy q2.2 216 hq4) hc3 rfl (by decide) (goodV kw_1251 kw_1252 kw_1253 kw_72 kw_1254) ⟨rfl, rfl⟩ (by decide +kernel) ⟨(Nat.le_of_ble_eq_true rfl), (Nat.le_of_ble_eq_true rfl)⟩ rfl hl.1 rfl (Nat.le_of_ble_eq_true rfl) dL_law_933 ⟨Nat.le_refl _, Nat.le_refl _⟩ rfl (fun H locs hw => ?_)
  refine lv_icmp_eq (tgt := 1115) C0.hx C0.hb dL_law_936 (by decide) (fun hc => ?_) (fun hc => ?_)
  · have h := (if_pos hc).symm.trans h
    obtain rfl := Option.some.inj h
    exact kk _ _ hw
  · have h := (if_neg hc).symm.trans h
    cases h
set_option maxHeartbeats 4000000 in
set_option maxRecDepth 100000 in
theorem lc_29 {p : Program} {l : Launch} {e : Env} {s : State} {m : MethodId} {below : List Frame} {meth : Method} {c : Code} {b0 : Nat} {D : va_G} {cy : Nat → ClassId} {b L : Nat} {xs : Nat → Int32} {Q : State → Prop} (C0 : Cx p m c cL_law 4 s #[Value.ref b] RL D cy) (hX : va_X b L xs s s.heap) (hbl : b < s.heap.size) (hbA : ¬ b0 ≤ b) {S S1 : Mem} {H : Heap} {locs : List Loc} {ls : Array Slot} {x3 : Int32} (hw : Wd b0 D cy S s.heap H locs) (hl : lv_has ls 4 [(0, .ref b), (1, .ref (b0 + 0)), (2, .ref (b0 + 216)), (3, .int x3)]) (hi1 : vp_in (x3 + (1 : Int32)) L) (hi2 : vp_in (x3 + (2 : Int32)) L) (h : sk_29 (xs (x3 + (1 : Int32)).toNatClampNeg) (xs (x3 + (2 : Int32)).toNatClampNeg) S = some S1) (kk : ∀ (H : Heap) (locs : List Loc), Wd b0 D cy S1 s.heap H locs → W p l e room_1 s m #[Value.ref b] below meth c H locs 600000 7302250 Q (F0 m 1115 ls [])) : W p l e room_1 s m #[Value.ref b] below meth c H locs 600000 7302250 Q (F0 m 941 ls []) := by
  rw [sk_29] at h
  refine lv_aload_n C0.hx C0.hb dL_law_941 rfl (lv_at hl 1 rfl) ?_
  refine lv_aload_n C0.hx C0.hb dL_law_942 rfl (lv_at hl 0 rfl) ?_
  refine lv_iload_n C0.hx C0.hb dL_law_943 rfl (lv_at hl 3 rfl) ?_
  refine lv_iconst (v := (1 : Int32)) C0.hx C0.hb dL_law_944 (by decide) ?_
  refine lv_iadd C0.hx C0.hb dL_law_945 ?_
  refine va_sld C0.hx C0.hb hX hbl hbA hw.2 hi1 dL_law_946 ?_
  obtain ⟨c1, hc1, h⟩ := Option.bind_eq_some_iff.mp h
  obtain ⟨q2, hq2, h⟩ := Option.bind_eq_some_iff.mp h
  refine q_callV (n := 1) (av := [.int (xs (x3 + (1 : Int32)).toNatClampNeg)]) (rest := []) (st1 := [.int q2.1]) C0 hw (m_X8_teachFor l b0 D cy S 0 (xs (x3 + (1 : Int32)).toNatClampNeg) hq2) hc1 rfl (by decide) (goodV kw_796 kw_797 kw_798 kw_63 kw_799) ⟨rfl, rfl⟩ (by decide +kernel) ⟨(Nat.le_of_ble_eq_true rfl), (Nat.le_of_ble_eq_true rfl)⟩ rfl hl.1 rfl (Nat.le_of_ble_eq_true rfl) dL_law_947 ⟨Nat.le_refl _, Nat.le_refl _⟩ rfl (fun H locs hw => ?_)
  refine lv_aload_n C0.hx C0.hb dL_law_950 rfl (lv_at hl 2 rfl) ?_
  refine lv_aload_n C0.hx C0.hb dL_law_951 rfl (lv_at hl 0 rfl) ?_
  refine lv_iload_n C0.hx C0.hb dL_law_952 rfl (lv_at hl 3 rfl) ?_
  refine lv_iconst (v := (1 : Int32)) C0.hx C0.hb dL_law_953 (by decide) ?_
  refine lv_iadd C0.hx C0.hb dL_law_954 ?_
  refine va_sld C0.hx C0.hb hX hbl hbA hw.2 hi1 dL_law_955 ?_
  obtain ⟨c3, hc3, h⟩ := Option.bind_eq_some_iff.mp h
  obtain ⟨q4, hq4, h⟩ := Option.bind_eq_some_iff.mp h
  refine q_callV (n := 1) (av := [.int (xs (x3 + (1 : Int32)).toNatClampNeg)]) (rest := [.int q2.1]) (st1 := [.int q4.1, .int q2.1]) C0 hw (m_X9_teachFor l b0 D cy q2.2 216 (xs (x3 + (1 : Int32)).toNatClampNeg) hq4) hc3 rfl (by decide) (goodV kw_1255 kw_1256 kw_1257 kw_72 kw_1258) ⟨rfl, rfl⟩ (by decide +kernel) ⟨(Nat.le_of_ble_eq_true rfl), (Nat.le_of_ble_eq_true rfl)⟩ rfl hl.1 rfl (Nat.le_of_ble_eq_true rfl) dL_law_956 ⟨Nat.le_refl _, Nat.le_refl _⟩ rfl (fun H locs hw => ?_)
  refine lv_icmp_eq (tgt := 1115) C0.hx C0.hb dL_law_959 (by decide) (fun hc => ?_) (fun hc => ?_)
  · have h := (if_pos hc).symm.trans h
    obtain rfl := Option.some.inj h
    exact kk _ _ hw
  · have h := (if_neg hc).symm.trans h
    cases h
set_option maxHeartbeats 4000000 in
set_option maxRecDepth 100000 in
theorem lc_30 {p : Program} {l : Launch} {e : Env} {s : State} {m : MethodId} {below : List Frame} {meth : Method} {c : Code} {b0 : Nat} {D : va_G} {cy : Nat → ClassId} {b L : Nat} {xs : Nat → Int32} {Q : State → Prop} (C0 : Cx p m c cL_law 4 s #[Value.ref b] RL D cy) (hX : va_X b L xs s s.heap) (hbl : b < s.heap.size) (hbA : ¬ b0 ≤ b) {S S1 : Mem} {H : Heap} {locs : List Loc} {ls : Array Slot} {x3 : Int32} (hw : Wd b0 D cy S s.heap H locs) (hl : lv_has ls 4 [(0, .ref b), (1, .ref (b0 + 0)), (2, .ref (b0 + 216)), (3, .int x3)]) (hi1 : vp_in (x3 + (1 : Int32)) L) (hi2 : vp_in (x3 + (2 : Int32)) L) (h : sk_30 (xs (x3 + (1 : Int32)).toNatClampNeg) (xs (x3 + (2 : Int32)).toNatClampNeg) S = some S1) (kk : ∀ (H : Heap) (locs : List Loc), Wd b0 D cy S1 s.heap H locs → W p l e room_1 s m #[Value.ref b] below meth c H locs 600000 7302250 Q (F0 m 1115 ls [])) : W p l e room_1 s m #[Value.ref b] below meth c H locs 600000 7302250 Q (F0 m 964 ls []) := by
  rw [sk_30] at h
  refine lv_aload_n C0.hx C0.hb dL_law_964 rfl (lv_at hl 1 rfl) ?_
  refine lv_aload_n C0.hx C0.hb dL_law_965 rfl (lv_at hl 0 rfl) ?_
  refine lv_iload_n C0.hx C0.hb dL_law_966 rfl (lv_at hl 3 rfl) ?_
  refine lv_iconst (v := (1 : Int32)) C0.hx C0.hb dL_law_967 (by decide) ?_
  refine lv_iadd C0.hx C0.hb dL_law_968 ?_
  refine va_sld C0.hx C0.hb hX hbl hbA hw.2 hi1 dL_law_969 ?_
  obtain ⟨c1, hc1, h⟩ := Option.bind_eq_some_iff.mp h
  obtain ⟨q2, hq2, h⟩ := Option.bind_eq_some_iff.mp h
  refine q_callV (n := 1) (av := [.int (xs (x3 + (1 : Int32)).toNatClampNeg)]) (rest := []) (st1 := [.int q2.1]) C0 hw (m_X8_otherwise l b0 D cy S 0 (xs (x3 + (1 : Int32)).toNatClampNeg) hq2) hc1 rfl (by decide) (goodV kw_819 kw_820 kw_821 kw_63 kw_822) ⟨rfl, rfl⟩ (by decide +kernel) ⟨(Nat.le_of_ble_eq_true rfl), (Nat.le_of_ble_eq_true rfl)⟩ rfl hl.1 rfl (Nat.le_of_ble_eq_true rfl) dL_law_970 ⟨Nat.le_refl _, Nat.le_refl _⟩ rfl (fun H locs hw => ?_)
  refine lv_aload_n C0.hx C0.hb dL_law_973 rfl (lv_at hl 2 rfl) ?_
  refine lv_aload_n C0.hx C0.hb dL_law_974 rfl (lv_at hl 0 rfl) ?_
  refine lv_iload_n C0.hx C0.hb dL_law_975 rfl (lv_at hl 3 rfl) ?_
  refine lv_iconst (v := (1 : Int32)) C0.hx C0.hb dL_law_976 (by decide) ?_
  refine lv_iadd C0.hx C0.hb dL_law_977 ?_
  refine va_sld C0.hx C0.hb hX hbl hbA hw.2 hi1 dL_law_978 ?_
  obtain ⟨c3, hc3, h⟩ := Option.bind_eq_some_iff.mp h
  obtain ⟨q4, hq4, h⟩ := Option.bind_eq_some_iff.mp h
  refine q_callV (n := 1) (av := [.int (xs (x3 + (1 : Int32)).toNatClampNeg)]) (rest := [.int q2.1]) (st1 := [.int q4.1, .int q2.1]) C0 hw (m_X9_otherwise l b0 D cy q2.2 216 (xs (x3 + (1 : Int32)).toNatClampNeg) hq4) hc3 rfl (by decide) (goodV kw_1270 kw_1271 kw_1272 kw_72 kw_1273) ⟨rfl, rfl⟩ (by decide +kernel) ⟨(Nat.le_of_ble_eq_true rfl), (Nat.le_of_ble_eq_true rfl)⟩ rfl hl.1 rfl (Nat.le_of_ble_eq_true rfl) dL_law_979 ⟨Nat.le_refl _, Nat.le_refl _⟩ rfl (fun H locs hw => ?_)
  refine lv_icmp_eq (tgt := 1115) C0.hx C0.hb dL_law_982 (by decide) (fun hc => ?_) (fun hc => ?_)
  · have h := (if_pos hc).symm.trans h
    obtain rfl := Option.some.inj h
    exact kk _ _ hw
  · have h := (if_neg hc).symm.trans h
    cases h
set_option maxHeartbeats 4000000 in
set_option maxRecDepth 100000 in
theorem lc_31 {p : Program} {l : Launch} {e : Env} {s : State} {m : MethodId} {below : List Frame} {meth : Method} {c : Code} {b0 : Nat} {D : va_G} {cy : Nat → ClassId} {b L : Nat} {xs : Nat → Int32} {Q : State → Prop} (C0 : Cx p m c cL_law 4 s #[Value.ref b] RL D cy) (hX : va_X b L xs s s.heap) (hbl : b < s.heap.size) (hbA : ¬ b0 ≤ b) {S S1 : Mem} {H : Heap} {locs : List Loc} {ls : Array Slot} {x3 : Int32} (hw : Wd b0 D cy S s.heap H locs) (hl : lv_has ls 4 [(0, .ref b), (1, .ref (b0 + 0)), (2, .ref (b0 + 216)), (3, .int x3)]) (hi1 : vp_in (x3 + (1 : Int32)) L) (hi2 : vp_in (x3 + (2 : Int32)) L) (h : sk_31 (xs (x3 + (1 : Int32)).toNatClampNeg) (xs (x3 + (2 : Int32)).toNatClampNeg) S = some S1) (kk : ∀ (H : Heap) (locs : List Loc), Wd b0 D cy S1 s.heap H locs → W p l e room_1 s m #[Value.ref b] below meth c H locs 600000 7302250 Q (F0 m 1115 ls [])) : W p l e room_1 s m #[Value.ref b] below meth c H locs 600000 7302250 Q (F0 m 987 ls []) := by
  rw [sk_31] at h
  refine lv_aload_n C0.hx C0.hb dL_law_987 rfl (lv_at hl 1 rfl) ?_
  refine lv_aload_n C0.hx C0.hb dL_law_988 rfl (lv_at hl 0 rfl) ?_
  refine lv_iload_n C0.hx C0.hb dL_law_989 rfl (lv_at hl 3 rfl) ?_
  refine lv_iconst (v := (1 : Int32)) C0.hx C0.hb dL_law_990 (by decide) ?_
  refine lv_iadd C0.hx C0.hb dL_law_991 ?_
  refine va_sld C0.hx C0.hb hX hbl hbA hw.2 hi1 dL_law_992 ?_
  refine lv_aload_n C0.hx C0.hb dL_law_993 rfl (lv_at hl 0 rfl) ?_
  refine lv_iload_n C0.hx C0.hb dL_law_994 rfl (lv_at hl 3 rfl) ?_
  refine lv_iconst (v := (2 : Int32)) C0.hx C0.hb dL_law_995 (by decide) ?_
  refine lv_iadd C0.hx C0.hb dL_law_996 ?_
  refine va_sld C0.hx C0.hb hX hbl hbA hw.2 hi2 dL_law_997 ?_
  obtain ⟨c1, hc1, h⟩ := Option.bind_eq_some_iff.mp h
  obtain ⟨q2, hq2, h⟩ := Option.bind_eq_some_iff.mp h
  refine q_callV (n := 2) (av := [.int (xs (x3 + (1 : Int32)).toNatClampNeg), .int (xs (x3 + (2 : Int32)).toNatClampNeg)]) (rest := []) (st1 := [.int q2.1]) C0 hw (m_X8_write l b0 D cy S 0 (xs (x3 + (1 : Int32)).toNatClampNeg) (xs (x3 + (2 : Int32)).toNatClampNeg) hq2) hc1 rfl (by decide) (goodV kw_823 kw_824 kw_825 kw_63 kw_826) ⟨rfl, rfl⟩ (by decide +kernel) ⟨(Nat.le_of_ble_eq_true rfl), (Nat.le_of_ble_eq_true rfl)⟩ rfl hl.1 rfl (Nat.le_of_ble_eq_true rfl) dL_law_998 ⟨Nat.le_refl _, Nat.le_refl _⟩ rfl (fun H locs hw => ?_)
  refine lv_aload_n C0.hx C0.hb dL_law_1001 rfl (lv_at hl 2 rfl) ?_
  refine lv_aload_n C0.hx C0.hb dL_law_1002 rfl (lv_at hl 0 rfl) ?_
  refine lv_iload_n C0.hx C0.hb dL_law_1003 rfl (lv_at hl 3 rfl) ?_
  refine lv_iconst (v := (1 : Int32)) C0.hx C0.hb dL_law_1004 (by decide) ?_
  refine lv_iadd C0.hx C0.hb dL_law_1005 ?_
  refine va_sld C0.hx C0.hb hX hbl hbA hw.2 hi1 dL_law_1006 ?_
  refine lv_aload_n C0.hx C0.hb dL_law_1007 rfl (lv_at hl 0 rfl) ?_
  refine lv_iload_n C0.hx C0.hb dL_law_1008 rfl (lv_at hl 3 rfl) ?_
  refine lv_iconst (v := (2 : Int32)) C0.hx C0.hb dL_law_1009 (by decide) ?_
  refine lv_iadd C0.hx C0.hb dL_law_1010 ?_
  refine va_sld C0.hx C0.hb hX hbl hbA hw.2 hi2 dL_law_1011 ?_
  obtain ⟨c3, hc3, h⟩ := Option.bind_eq_some_iff.mp h
  obtain ⟨q4, hq4, h⟩ := Option.bind_eq_some_iff.mp h
  refine q_callV (n := 2) (av := [.int (xs (x3 + (1 : Int32)).toNatClampNeg), .int (xs (x3 + (2 : Int32)).toNatClampNeg)]) (rest := [.int q2.1]) (st1 := [.int q4.1, .int q2.1]) C0 hw (m_X9_write l b0 D cy q2.2 216 (xs (x3 + (1 : Int32)).toNatClampNeg) (xs (x3 + (2 : Int32)).toNatClampNeg) hq4) hc3 rfl (by decide) (goodV kw_1274 kw_1275 kw_1276 kw_72 kw_1277) ⟨rfl, rfl⟩ (by decide +kernel) ⟨(Nat.le_of_ble_eq_true rfl), (Nat.le_of_ble_eq_true rfl)⟩ rfl hl.1 rfl (Nat.le_of_ble_eq_true rfl) dL_law_1012 ⟨Nat.le_refl _, Nat.le_refl _⟩ rfl (fun H locs hw => ?_)
  refine lv_icmp_eq (tgt := 1115) C0.hx C0.hb dL_law_1015 (by decide) (fun hc => ?_) (fun hc => ?_)
  · have h := (if_pos hc).symm.trans h
    obtain rfl := Option.some.inj h
    exact kk _ _ hw
  · have h := (if_neg hc).symm.trans h
    cases h
set_option maxHeartbeats 4000000 in
set_option maxRecDepth 100000 in
theorem lc_32 {p : Program} {l : Launch} {e : Env} {s : State} {m : MethodId} {below : List Frame} {meth : Method} {c : Code} {b0 : Nat} {D : va_G} {cy : Nat → ClassId} {b L : Nat} {xs : Nat → Int32} {Q : State → Prop} (C0 : Cx p m c cL_law 4 s #[Value.ref b] RL D cy) (hX : va_X b L xs s s.heap) (hbl : b < s.heap.size) (hbA : ¬ b0 ≤ b) {S S1 : Mem} {H : Heap} {locs : List Loc} {ls : Array Slot} {x3 : Int32} (hw : Wd b0 D cy S s.heap H locs) (hl : lv_has ls 4 [(0, .ref b), (1, .ref (b0 + 0)), (2, .ref (b0 + 216)), (3, .int x3)]) (hi1 : vp_in (x3 + (1 : Int32)) L) (hi2 : vp_in (x3 + (2 : Int32)) L) (h : sk_32 (xs (x3 + (1 : Int32)).toNatClampNeg) (xs (x3 + (2 : Int32)).toNatClampNeg) S = some S1) (kk : ∀ (H : Heap) (locs : List Loc), Wd b0 D cy S1 s.heap H locs → W p l e room_1 s m #[Value.ref b] below meth c H locs 600000 7302250 Q (F0 m 1115 ls [])) : W p l e room_1 s m #[Value.ref b] below meth c H locs 600000 7302250 Q (F0 m 1020 ls []) := by
  rw [sk_32] at h
  refine lv_aload_n C0.hx C0.hb dL_law_1020 rfl (lv_at hl 1 rfl) ?_
  obtain ⟨c1, hc1, h⟩ := Option.bind_eq_some_iff.mp h
  obtain ⟨q2, hq2, h⟩ := Option.bind_eq_some_iff.mp h
  refine q_callV (n := 0) (av := []) (rest := []) (st1 := [.int q2.1]) C0 hw (m_X8_tear l b0 D cy S 0 hq2) hc1 rfl (by decide) (goodV kw_831 kw_832 kw_833 kw_63 kw_834) ⟨rfl, rfl⟩ (by decide +kernel) ⟨(Nat.le_of_ble_eq_true rfl), (Nat.le_of_ble_eq_true rfl)⟩ rfl hl.1 rfl (Nat.le_of_ble_eq_true rfl) dL_law_1021 ⟨Nat.le_refl _, Nat.le_refl _⟩ rfl (fun H locs hw => ?_)
  refine lv_aload_n C0.hx C0.hb dL_law_1024 rfl (lv_at hl 2 rfl) ?_
  obtain ⟨c3, hc3, h⟩ := Option.bind_eq_some_iff.mp h
  obtain ⟨q4, hq4, h⟩ := Option.bind_eq_some_iff.mp h
  refine q_callV (n := 0) (av := []) (rest := [.int q2.1]) (st1 := [.int q4.1, .int q2.1]) C0 hw (m_X9_tear l b0 D cy q2.2 216 hq4) hc3 rfl (by decide) (goodV kw_1279 kw_1280 kw_1281 kw_72 kw_1282) ⟨rfl, rfl⟩ (by decide +kernel) ⟨(Nat.le_of_ble_eq_true rfl), (Nat.le_of_ble_eq_true rfl)⟩ rfl hl.1 rfl (Nat.le_of_ble_eq_true rfl) dL_law_1025 ⟨Nat.le_refl _, Nat.le_refl _⟩ rfl (fun H locs hw => ?_)
  refine lv_icmp_eq (tgt := 1115) C0.hx C0.hb dL_law_1028 (by decide) (fun hc => ?_) (fun hc => ?_)
  · have h := (if_pos hc).symm.trans h
    obtain rfl := Option.some.inj h
    exact kk _ _ hw
  · have h := (if_neg hc).symm.trans h
    cases h
set_option maxHeartbeats 4000000 in
set_option maxRecDepth 100000 in
theorem lc_33 {p : Program} {l : Launch} {e : Env} {s : State} {m : MethodId} {below : List Frame} {meth : Method} {c : Code} {b0 : Nat} {D : va_G} {cy : Nat → ClassId} {b L : Nat} {xs : Nat → Int32} {Q : State → Prop} (C0 : Cx p m c cL_law 4 s #[Value.ref b] RL D cy) (hX : va_X b L xs s s.heap) (hbl : b < s.heap.size) (hbA : ¬ b0 ≤ b) {S S1 : Mem} {H : Heap} {locs : List Loc} {ls : Array Slot} {x3 : Int32} (hw : Wd b0 D cy S s.heap H locs) (hl : lv_has ls 4 [(0, .ref b), (1, .ref (b0 + 0)), (2, .ref (b0 + 216)), (3, .int x3)]) (hi1 : vp_in (x3 + (1 : Int32)) L) (hi2 : vp_in (x3 + (2 : Int32)) L) (h : sk_33 (xs (x3 + (1 : Int32)).toNatClampNeg) (xs (x3 + (2 : Int32)).toNatClampNeg) S = some S1) (kk : ∀ (H : Heap) (locs : List Loc), Wd b0 D cy S1 s.heap H locs → W p l e room_1 s m #[Value.ref b] below meth c H locs 600000 7302250 Q (F0 m 1115 ls [])) : W p l e room_1 s m #[Value.ref b] below meth c H locs 600000 7302250 Q (F0 m 1033 ls []) := by
  rw [sk_33] at h
  refine lv_aload_n C0.hx C0.hb dL_law_1033 rfl (lv_at hl 1 rfl) ?_
  obtain ⟨c1, hc1, h⟩ := Option.bind_eq_some_iff.mp h
  obtain ⟨v2, hv2, h⟩ := Option.bind_eq_some_iff.mp h
  refine q_callV (n := 0) (av := []) (rest := []) (st1 := [.int v2]) C0 hw (m_X8_judge l b0 D cy S 0 hv2) hc1 rfl (by decide) (goodV kw_835 kw_836 kw_837 kw_63 kw_838) ⟨rfl, rfl⟩ (by decide +kernel) ⟨(Nat.le_of_ble_eq_true rfl), (Nat.le_of_ble_eq_true rfl)⟩ rfl hl.1 rfl (Nat.le_of_ble_eq_true rfl) dL_law_1034 ⟨Nat.le_refl _, Nat.le_refl _⟩ rfl (fun H locs hw => ?_)
  refine lv_aload_n C0.hx C0.hb dL_law_1037 rfl (lv_at hl 2 rfl) ?_
  obtain ⟨c3, hc3, h⟩ := Option.bind_eq_some_iff.mp h
  obtain ⟨v4, hv4, h⟩ := Option.bind_eq_some_iff.mp h
  refine q_callV (n := 0) (av := []) (rest := [.int v2]) (st1 := [.int v4, .int v2]) C0 hw (m_X9_judge l b0 D cy S 216 hv4) hc3 rfl (by decide) (goodV kw_1283 kw_1284 kw_1285 kw_72 kw_1286) ⟨rfl, rfl⟩ (by decide +kernel) ⟨(Nat.le_of_ble_eq_true rfl), (Nat.le_of_ble_eq_true rfl)⟩ rfl hl.1 rfl (Nat.le_of_ble_eq_true rfl) dL_law_1038 ⟨Nat.le_refl _, Nat.le_refl _⟩ rfl (fun H locs hw => ?_)
  refine lv_icmp_eq (tgt := 1115) C0.hx C0.hb dL_law_1041 (by decide) (fun hc => ?_) (fun hc => ?_)
  · have h := (if_pos hc).symm.trans h
    obtain rfl := Option.some.inj h
    exact kk _ _ hw
  · have h := (if_neg hc).symm.trans h
    cases h
set_option maxHeartbeats 4000000 in
set_option maxRecDepth 100000 in
theorem lc_34 {p : Program} {l : Launch} {e : Env} {s : State} {m : MethodId} {below : List Frame} {meth : Method} {c : Code} {b0 : Nat} {D : va_G} {cy : Nat → ClassId} {b L : Nat} {xs : Nat → Int32} {Q : State → Prop} (C0 : Cx p m c cL_law 4 s #[Value.ref b] RL D cy) (hX : va_X b L xs s s.heap) (hbl : b < s.heap.size) (hbA : ¬ b0 ≤ b) {S S1 : Mem} {H : Heap} {locs : List Loc} {ls : Array Slot} {x3 : Int32} (hw : Wd b0 D cy S s.heap H locs) (hl : lv_has ls 4 [(0, .ref b), (1, .ref (b0 + 0)), (2, .ref (b0 + 216)), (3, .int x3)]) (hi1 : vp_in (x3 + (1 : Int32)) L) (hi2 : vp_in (x3 + (2 : Int32)) L) (h : sk_34 (xs (x3 + (1 : Int32)).toNatClampNeg) (xs (x3 + (2 : Int32)).toNatClampNeg) S = some S1) (kk : ∀ (H : Heap) (locs : List Loc), Wd b0 D cy S1 s.heap H locs → W p l e room_1 s m #[Value.ref b] below meth c H locs 600000 7302250 Q (F0 m 1115 ls [])) : W p l e room_1 s m #[Value.ref b] below meth c H locs 600000 7302250 Q (F0 m 1046 ls []) := by
  rw [sk_34] at h
  refine lv_aload_n C0.hx C0.hb dL_law_1046 rfl (lv_at hl 1 rfl) ?_
  refine lv_aload_n C0.hx C0.hb dL_law_1047 rfl (lv_at hl 0 rfl) ?_
  refine lv_iload_n C0.hx C0.hb dL_law_1048 rfl (lv_at hl 3 rfl) ?_
  refine lv_iconst (v := (1 : Int32)) C0.hx C0.hb dL_law_1049 (by decide) ?_
  refine lv_iadd C0.hx C0.hb dL_law_1050 ?_
  refine va_sld C0.hx C0.hb hX hbl hbA hw.2 hi1 dL_law_1051 ?_
  obtain ⟨c1, hc1, h⟩ := Option.bind_eq_some_iff.mp h
  obtain ⟨q2, hq2, h⟩ := Option.bind_eq_some_iff.mp h
  refine q_callV (n := 1) (av := [.int (xs (x3 + (1 : Int32)).toNatClampNeg)]) (rest := []) (st1 := [.int q2.1]) C0 hw (m_X8_seed l b0 D cy S 0 (xs (x3 + (1 : Int32)).toNatClampNeg) hq2) hc1 rfl (by decide) (goodV kw_843 kw_844 kw_845 kw_63 kw_846) ⟨rfl, rfl⟩ (by decide +kernel) ⟨(Nat.le_of_ble_eq_true rfl), (Nat.le_of_ble_eq_true rfl)⟩ rfl hl.1 rfl (Nat.le_of_ble_eq_true rfl) dL_law_1052 ⟨Nat.le_refl _, Nat.le_refl _⟩ rfl (fun H locs hw => ?_)
  refine lv_aload_n C0.hx C0.hb dL_law_1055 rfl (lv_at hl 2 rfl) ?_
  refine lv_aload_n C0.hx C0.hb dL_law_1056 rfl (lv_at hl 0 rfl) ?_
  refine lv_iload_n C0.hx C0.hb dL_law_1057 rfl (lv_at hl 3 rfl) ?_
  refine lv_iconst (v := (1 : Int32)) C0.hx C0.hb dL_law_1058 (by decide) ?_
  refine lv_iadd C0.hx C0.hb dL_law_1059 ?_
  refine va_sld C0.hx C0.hb hX hbl hbA hw.2 hi1 dL_law_1060 ?_
  obtain ⟨c3, hc3, h⟩ := Option.bind_eq_some_iff.mp h
  obtain ⟨q4, hq4, h⟩ := Option.bind_eq_some_iff.mp h
  refine q_callV (n := 1) (av := [.int (xs (x3 + (1 : Int32)).toNatClampNeg)]) (rest := [.int q2.1]) (st1 := [.int q4.1, .int q2.1]) C0 hw (m_X9_seed l b0 D cy q2.2 216 (xs (x3 + (1 : Int32)).toNatClampNeg) hq4) hc3 rfl (by decide) (goodV kw_1287 kw_1288 kw_1289 kw_72 kw_1290) ⟨rfl, rfl⟩ (by decide +kernel) ⟨(Nat.le_of_ble_eq_true rfl), (Nat.le_of_ble_eq_true rfl)⟩ rfl hl.1 rfl (Nat.le_of_ble_eq_true rfl) dL_law_1061 ⟨Nat.le_refl _, Nat.le_refl _⟩ rfl (fun H locs hw => ?_)
  refine lv_icmp_eq (tgt := 1115) C0.hx C0.hb dL_law_1064 (by decide) (fun hc => ?_) (fun hc => ?_)
  · have h := (if_pos hc).symm.trans h
    obtain rfl := Option.some.inj h
    exact kk _ _ hw
  · have h := (if_neg hc).symm.trans h
    cases h
set_option maxHeartbeats 4000000 in
set_option maxRecDepth 100000 in
theorem lc_35 {p : Program} {l : Launch} {e : Env} {s : State} {m : MethodId} {below : List Frame} {meth : Method} {c : Code} {b0 : Nat} {D : va_G} {cy : Nat → ClassId} {b L : Nat} {xs : Nat → Int32} {Q : State → Prop} (C0 : Cx p m c cL_law 4 s #[Value.ref b] RL D cy) (hX : va_X b L xs s s.heap) (hbl : b < s.heap.size) (hbA : ¬ b0 ≤ b) {S S1 : Mem} {H : Heap} {locs : List Loc} {ls : Array Slot} {x3 : Int32} (hw : Wd b0 D cy S s.heap H locs) (hl : lv_has ls 4 [(0, .ref b), (1, .ref (b0 + 0)), (2, .ref (b0 + 216)), (3, .int x3)]) (hi1 : vp_in (x3 + (1 : Int32)) L) (hi2 : vp_in (x3 + (2 : Int32)) L) (h : sk_35 (xs (x3 + (1 : Int32)).toNatClampNeg) (xs (x3 + (2 : Int32)).toNatClampNeg) S = some S1) (kk : ∀ (H : Heap) (locs : List Loc), Wd b0 D cy S1 s.heap H locs → W p l e room_1 s m #[Value.ref b] below meth c H locs 600000 7302250 Q (F0 m 1115 ls [])) : W p l e room_1 s m #[Value.ref b] below meth c H locs 600000 7302250 Q (F0 m 1069 ls []) := by
  rw [sk_35] at h
  refine lv_aload_n C0.hx C0.hb dL_law_1069 rfl (lv_at hl 1 rfl) ?_
  refine lv_aload_n C0.hx C0.hb dL_law_1070 rfl (lv_at hl 0 rfl) ?_
  refine lv_iload_n C0.hx C0.hb dL_law_1071 rfl (lv_at hl 3 rfl) ?_
  refine lv_iconst (v := (1 : Int32)) C0.hx C0.hb dL_law_1072 (by decide) ?_
  refine lv_iadd C0.hx C0.hb dL_law_1073 ?_
  refine va_sld C0.hx C0.hb hX hbl hbA hw.2 hi1 dL_law_1074 ?_
  obtain ⟨c1, hc1, h⟩ := Option.bind_eq_some_iff.mp h
  obtain ⟨q2, hq2, h⟩ := Option.bind_eq_some_iff.mp h
  refine q_callV (n := 1) (av := [.int (xs (x3 + (1 : Int32)).toNatClampNeg)]) (rest := []) (st1 := [.int q2.1]) C0 hw (m_X8_keep l b0 D cy S 0 (xs (x3 + (1 : Int32)).toNatClampNeg) hq2) hc1 rfl (by decide) (goodV kw_847 kw_848 kw_849 kw_63 kw_850) ⟨rfl, rfl⟩ (by decide +kernel) ⟨(Nat.le_of_ble_eq_true rfl), (Nat.le_of_ble_eq_true rfl)⟩ rfl hl.1 rfl (Nat.le_of_ble_eq_true rfl) dL_law_1075 ⟨Nat.le_refl _, Nat.le_refl _⟩ rfl (fun H locs hw => ?_)
  refine lv_aload_n C0.hx C0.hb dL_law_1078 rfl (lv_at hl 2 rfl) ?_
  refine lv_aload_n C0.hx C0.hb dL_law_1079 rfl (lv_at hl 0 rfl) ?_
  refine lv_iload_n C0.hx C0.hb dL_law_1080 rfl (lv_at hl 3 rfl) ?_
  refine lv_iconst (v := (1 : Int32)) C0.hx C0.hb dL_law_1081 (by decide) ?_
  refine lv_iadd C0.hx C0.hb dL_law_1082 ?_
  refine va_sld C0.hx C0.hb hX hbl hbA hw.2 hi1 dL_law_1083 ?_
  obtain ⟨c3, hc3, h⟩ := Option.bind_eq_some_iff.mp h
  obtain ⟨q4, hq4, h⟩ := Option.bind_eq_some_iff.mp h
  refine q_callV (n := 1) (av := [.int (xs (x3 + (1 : Int32)).toNatClampNeg)]) (rest := [.int q2.1]) (st1 := [.int q4.1, .int q2.1]) C0 hw (m_X9_keep l b0 D cy q2.2 216 (xs (x3 + (1 : Int32)).toNatClampNeg) hq4) hc3 rfl (by decide) (goodV kw_1291 kw_1292 kw_1293 kw_72 kw_1294) ⟨rfl, rfl⟩ (by decide +kernel) ⟨(Nat.le_of_ble_eq_true rfl), (Nat.le_of_ble_eq_true rfl)⟩ rfl hl.1 rfl (Nat.le_of_ble_eq_true rfl) dL_law_1084 ⟨Nat.le_refl _, Nat.le_refl _⟩ rfl (fun H locs hw => ?_)
  refine lv_icmp_eq (tgt := 1115) C0.hx C0.hb dL_law_1087 (by decide) (fun hc => ?_) (fun hc => ?_)
  · have h := (if_pos hc).symm.trans h
    obtain rfl := Option.some.inj h
    exact kk _ _ hw
  · have h := (if_neg hc).symm.trans h
    cases h
set_option maxHeartbeats 4000000 in
set_option maxRecDepth 100000 in
theorem lc_36 {p : Program} {l : Launch} {e : Env} {s : State} {m : MethodId} {below : List Frame} {meth : Method} {c : Code} {b0 : Nat} {D : va_G} {cy : Nat → ClassId} {b L : Nat} {xs : Nat → Int32} {Q : State → Prop} (C0 : Cx p m c cL_law 4 s #[Value.ref b] RL D cy) (hX : va_X b L xs s s.heap) (hbl : b < s.heap.size) (hbA : ¬ b0 ≤ b) {S S1 : Mem} {H : Heap} {locs : List Loc} {ls : Array Slot} {x3 : Int32} (hw : Wd b0 D cy S s.heap H locs) (hl : lv_has ls 4 [(0, .ref b), (1, .ref (b0 + 0)), (2, .ref (b0 + 216)), (3, .int x3)]) (hi1 : vp_in (x3 + (1 : Int32)) L) (hi2 : vp_in (x3 + (2 : Int32)) L) (h : sk_36 (xs (x3 + (1 : Int32)).toNatClampNeg) (xs (x3 + (2 : Int32)).toNatClampNeg) S = some S1) (kk : ∀ (H : Heap) (locs : List Loc), Wd b0 D cy S1 s.heap H locs → W p l e room_1 s m #[Value.ref b] below meth c H locs 600000 7302250 Q (F0 m 1115 ls [])) : W p l e room_1 s m #[Value.ref b] below meth c H locs 600000 7302250 Q (F0 m 1092 ls []) := by
  rw [sk_36] at h
  refine lv_aload_n C0.hx C0.hb dL_law_1092 rfl (lv_at hl 1 rfl) ?_
  refine lv_aload_n C0.hx C0.hb dL_law_1093 rfl (lv_at hl 0 rfl) ?_
  refine lv_iload_n C0.hx C0.hb dL_law_1094 rfl (lv_at hl 3 rfl) ?_
  refine lv_iconst (v := (1 : Int32)) C0.hx C0.hb dL_law_1095 (by decide) ?_
  refine lv_iadd C0.hx C0.hb dL_law_1096 ?_
  refine va_sld C0.hx C0.hb hX hbl hbA hw.2 hi1 dL_law_1097 ?_
  obtain ⟨c1, hc1, h⟩ := Option.bind_eq_some_iff.mp h
  obtain ⟨q2, hq2, h⟩ := Option.bind_eq_some_iff.mp h
  refine q_callV (n := 1) (av := [.int (xs (x3 + (1 : Int32)).toNatClampNeg)]) (rest := []) (st1 := [.int q2.1]) C0 hw (m_X8_goBack l b0 D cy S 0 (xs (x3 + (1 : Int32)).toNatClampNeg) hq2) hc1 rfl (by decide) (goodV kw_852 kw_853 kw_854 kw_63 kw_855) ⟨rfl, rfl⟩ (by decide +kernel) ⟨(Nat.le_of_ble_eq_true rfl), (Nat.le_of_ble_eq_true rfl)⟩ rfl hl.1 rfl (Nat.le_of_ble_eq_true rfl) dL_law_1098 ⟨Nat.le_refl _, Nat.le_refl _⟩ rfl (fun H locs hw => ?_)
  refine lv_aload_n C0.hx C0.hb dL_law_1101 rfl (lv_at hl 2 rfl) ?_
  refine lv_aload_n C0.hx C0.hb dL_law_1102 rfl (lv_at hl 0 rfl) ?_
  refine lv_iload_n C0.hx C0.hb dL_law_1103 rfl (lv_at hl 3 rfl) ?_
  refine lv_iconst (v := (1 : Int32)) C0.hx C0.hb dL_law_1104 (by decide) ?_
  refine lv_iadd C0.hx C0.hb dL_law_1105 ?_
  refine va_sld C0.hx C0.hb hX hbl hbA hw.2 hi1 dL_law_1106 ?_
  obtain ⟨c3, hc3, h⟩ := Option.bind_eq_some_iff.mp h
  obtain ⟨q4, hq4, h⟩ := Option.bind_eq_some_iff.mp h
  refine q_callV (n := 1) (av := [.int (xs (x3 + (1 : Int32)).toNatClampNeg)]) (rest := [.int q2.1]) (st1 := [.int q4.1, .int q2.1]) C0 hw (m_X9_goBack l b0 D cy q2.2 216 (xs (x3 + (1 : Int32)).toNatClampNeg) hq4) hc3 rfl (by decide) (goodV kw_1295 kw_1296 kw_1297 kw_72 kw_1298) ⟨rfl, rfl⟩ (by decide +kernel) ⟨(Nat.le_of_ble_eq_true rfl), (Nat.le_of_ble_eq_true rfl)⟩ rfl hl.1 rfl (Nat.le_of_ble_eq_true rfl) dL_law_1107 ⟨Nat.le_refl _, Nat.le_refl _⟩ rfl (fun H locs hw => ?_)
  refine lv_icmp_eq (tgt := 1115) C0.hx C0.hb dL_law_1110 (by decide) (fun hc => ?_) (fun hc => ?_)
  · have h := (if_pos hc).symm.trans h
    obtain rfl := Option.some.inj h
    exact kk _ _ hw
  · have h := (if_neg hc).symm.trans h
    cases h
set_option maxHeartbeats 4000000 in
set_option maxRecDepth 100000 in
theorem lc_sw {p : Program} {l : Launch} {e : Env} {s : State} {m : MethodId} {below : List Frame} {meth : Method} {c : Code} {b0 : Nat} {D : va_G} {cy : Nat → ClassId} {b L : Nat} {xs : Nat → Int32} {Q : State → Prop} (C0 : Cx p m c cL_law 4 s #[Value.ref b] RL D cy) (hX : va_X b L xs s s.heap) (hbl : b < s.heap.size) (hbA : ¬ b0 ≤ b) {S S1 : Mem} {H : Heap} {locs : List Loc} {ls : Array Slot} {x3 x : Int32} (hw : Wd b0 D cy S s.heap H locs) (hl : lv_has ls 4 [(0, .ref b), (1, .ref (b0 + 0)), (2, .ref (b0 + 216)), (3, .int x3)]) (hi1 : vp_in (x3 + (1 : Int32)) L) (hi2 : vp_in (x3 + (2 : Int32)) L) (h : stepL x (xs (x3 + (1 : Int32)).toNatClampNeg) (xs (x3 + (2 : Int32)).toNatClampNeg) S = some S1) (kk : ∀ (H : Heap) (locs : List Loc), Wd b0 D cy S1 s.heap H locs → W p l e room_1 s m #[Value.ref b] below meth c H locs 600000 7302250 Q (F0 m 1115 ls [])) : W p l e room_1 s m #[Value.ref b] below meth c H locs 600000 7302250 Q (F0 m 32 ls [.int x]) := by
  rw [stepL] at h
  by_cases hc0 : x = (0 : Int32)
  · have h := (if_pos hc0).symm.trans h
    refine lv_tableIn (off := 164) (tgt := 196) C0.hx C0.hb dL_law_32 (by rw [hc0]; decide) (by rw [hc0]; decide) (by rw [hc0]; rfl) (by decide) ?_
    exact lc_0 C0 hX hbl hbA hw hl hi1 hi2 h kk
  · have h := (if_neg hc0).symm.trans h
    by_cases hc1 : x = (1 : Int32)
    · have h := (if_pos hc1).symm.trans h
      refine lv_tableIn (off := 187) (tgt := 219) C0.hx C0.hb dL_law_32 (by rw [hc1]; decide) (by rw [hc1]; decide) (by rw [hc1]; rfl) (by decide) ?_
      exact lc_1 C0 hX hbl hbA hw hl hi1 hi2 h kk
    · have h := (if_neg hc1).symm.trans h
      by_cases hc2 : x = (2 : Int32)
      · have h := (if_pos hc2).symm.trans h
        refine lv_tableIn (off := 200) (tgt := 232) C0.hx C0.hb dL_law_32 (by rw [hc2]; decide) (by rw [hc2]; decide) (by rw [hc2]; rfl) (by decide) ?_
        exact lc_2 C0 hX hbl hbA hw hl hi1 hi2 h kk
      · have h := (if_neg hc2).symm.trans h
        by_cases hc3 : x = (3 : Int32)
        · have h := (if_pos hc3).symm.trans h
          refine lv_tableIn (off := 213) (tgt := 245) C0.hx C0.hb dL_law_32 (by rw [hc3]; decide) (by rw [hc3]; decide) (by rw [hc3]; rfl) (by decide) ?_
          exact lc_3 C0 hX hbl hbA hw hl hi1 hi2 h kk
        · have h := (if_neg hc3).symm.trans h
          by_cases hc4 : x = (4 : Int32)
          · have h := (if_pos hc4).symm.trans h
            refine lv_tableIn (off := 236) (tgt := 268) C0.hx C0.hb dL_law_32 (by rw [hc4]; decide) (by rw [hc4]; decide) (by rw [hc4]; rfl) (by decide) ?_
            exact lc_4 C0 hX hbl hbA hw hl hi1 hi2 h kk
          · have h := (if_neg hc4).symm.trans h
            by_cases hc5 : x = (5 : Int32)
            · have h := (if_pos hc5).symm.trans h
              refine lv_tableIn (off := 269) (tgt := 301) C0.hx C0.hb dL_law_32 (by rw [hc5]; decide) (by rw [hc5]; decide) (by rw [hc5]; rfl) (by decide) ?_
              exact lc_5 C0 hX hbl hbA hw hl hi1 hi2 h kk
            · have h := (if_neg hc5).symm.trans h
              by_cases hc6 : x = (6 : Int32)
              · have h := (if_pos hc6).symm.trans h
                refine lv_tableIn (off := 302) (tgt := 334) C0.hx C0.hb dL_law_32 (by rw [hc6]; decide) (by rw [hc6]; decide) (by rw [hc6]; rfl) (by decide) ?_
                exact lc_6 C0 hX hbl hbA hw hl hi1 hi2 h kk
              · have h := (if_neg hc6).symm.trans h
                by_cases hc7 : x = (7 : Int32)
                · have h := (if_pos hc7).symm.trans h
                  refine lv_tableIn (off := 325) (tgt := 357) C0.hx C0.hb dL_law_32 (by rw [hc7]; decide) (by rw [hc7]; decide) (by rw [hc7]; rfl) (by decide) ?_
                  exact lc_7 C0 hX hbl hbA hw hl hi1 hi2 h kk
                · have h := (if_neg hc7).symm.trans h
                  by_cases hc8 : x = (8 : Int32)
                  · have h := (if_pos hc8).symm.trans h
                    refine lv_tableIn (off := 348) (tgt := 380) C0.hx C0.hb dL_law_32 (by rw [hc8]; decide) (by rw [hc8]; decide) (by rw [hc8]; rfl) (by decide) ?_
                    exact lc_8 C0 hX hbl hbA hw hl hi1 hi2 h kk
                  · have h := (if_neg hc8).symm.trans h
                    by_cases hc9 : x = (9 : Int32)
                    · have h := (if_pos hc9).symm.trans h
                      refine lv_tableIn (off := 397) (tgt := 429) C0.hx C0.hb dL_law_32 (by rw [hc9]; decide) (by rw [hc9]; decide) (by rw [hc9]; rfl) (by decide) ?_
                      exact lc_9 C0 hX hbl hbA hw hl hi1 hi2 h kk
                    · have h := (if_neg hc9).symm.trans h
                      by_cases hc10 : x = (10 : Int32)
                      · have h := (if_pos hc10).symm.trans h
                        refine lv_tableIn (off := 430) (tgt := 462) C0.hx C0.hb dL_law_32 (by rw [hc10]; decide) (by rw [hc10]; decide) (by rw [hc10]; rfl) (by decide) ?_
                        exact lc_10 C0 hX hbl hbA hw hl hi1 hi2 h kk
                      · have h := (if_neg hc10).symm.trans h
                        by_cases hc11 : x = (11 : Int32)
                        · have h := (if_pos hc11).symm.trans h
                          refine lv_tableIn (off := 479) (tgt := 511) C0.hx C0.hb dL_law_32 (by rw [hc11]; decide) (by rw [hc11]; decide) (by rw [hc11]; rfl) (by decide) ?_
                          exact lc_11 C0 hX hbl hbA hw hl hi1 hi2 h kk
                        · have h := (if_neg hc11).symm.trans h
                          by_cases hc12 : x = (12 : Int32)
                          · have h := (if_pos hc12).symm.trans h
                            refine lv_tableIn (off := 528) (tgt := 560) C0.hx C0.hb dL_law_32 (by rw [hc12]; decide) (by rw [hc12]; decide) (by rw [hc12]; rfl) (by decide) ?_
                            exact lc_12 C0 hX hbl hbA hw hl hi1 hi2 h kk
                          · have h := (if_neg hc12).symm.trans h
                            by_cases hc13 : x = (13 : Int32)
                            · have h := (if_pos hc13).symm.trans h
                              refine lv_tableIn (off := 561) (tgt := 593) C0.hx C0.hb dL_law_32 (by rw [hc13]; decide) (by rw [hc13]; decide) (by rw [hc13]; rfl) (by decide) ?_
                              exact lc_13 C0 hX hbl hbA hw hl hi1 hi2 h kk
                            · have h := (if_neg hc13).symm.trans h
                              by_cases hc14 : x = (14 : Int32)
                              · have h := (if_pos hc14).symm.trans h
                                refine lv_tableIn (off := 574) (tgt := 606) C0.hx C0.hb dL_law_32 (by rw [hc14]; decide) (by rw [hc14]; decide) (by rw [hc14]; rfl) (by decide) ?_
                                exact lc_14 C0 hX hbl hbA hw hl hi1 hi2 h kk
                              · have h := (if_neg hc14).symm.trans h
                                by_cases hc15 : x = (15 : Int32)
                                · have h := (if_pos hc15).symm.trans h
                                  refine lv_tableIn (off := 597) (tgt := 629) C0.hx C0.hb dL_law_32 (by rw [hc15]; decide) (by rw [hc15]; decide) (by rw [hc15]; rfl) (by decide) ?_
                                  exact lc_15 C0 hX hbl hbA hw hl hi1 hi2 h kk
                                · have h := (if_neg hc15).symm.trans h
                                  by_cases hc16 : x = (16 : Int32)
                                  · have h := (if_pos hc16).symm.trans h
                                    refine lv_tableIn (off := 620) (tgt := 652) C0.hx C0.hb dL_law_32 (by rw [hc16]; decide) (by rw [hc16]; decide) (by rw [hc16]; rfl) (by decide) ?_
                                    exact lc_16 C0 hX hbl hbA hw hl hi1 hi2 h kk
                                  · have h := (if_neg hc16).symm.trans h
                                    by_cases hc17 : x = (17 : Int32)
                                    · have h := (if_pos hc17).symm.trans h
                                      refine lv_tableIn (off := 633) (tgt := 665) C0.hx C0.hb dL_law_32 (by rw [hc17]; decide) (by rw [hc17]; decide) (by rw [hc17]; rfl) (by decide) ?_
                                      exact lc_17 C0 hX hbl hbA hw hl hi1 hi2 h kk
                                    · have h := (if_neg hc17).symm.trans h
                                      by_cases hc18 : x = (18 : Int32)
                                      · have h := (if_pos hc18).symm.trans h
                                        refine lv_tableIn (off := 656) (tgt := 688) C0.hx C0.hb dL_law_32 (by rw [hc18]; decide) (by rw [hc18]; decide) (by rw [hc18]; rfl) (by decide) ?_
                                        exact lc_18 C0 hX hbl hbA hw hl hi1 hi2 h kk
                                      · have h := (if_neg hc18).symm.trans h
                                        by_cases hc19 : x = (19 : Int32)
                                        · have h := (if_pos hc19).symm.trans h
                                          refine lv_tableIn (off := 679) (tgt := 711) C0.hx C0.hb dL_law_32 (by rw [hc19]; decide) (by rw [hc19]; decide) (by rw [hc19]; rfl) (by decide) ?_
                                          exact lc_19 C0 hX hbl hbA hw hl hi1 hi2 h kk
                                        · have h := (if_neg hc19).symm.trans h
                                          by_cases hc20 : x = (20 : Int32)
                                          · have h := (if_pos hc20).symm.trans h
                                            refine lv_tableIn (off := 712) (tgt := 744) C0.hx C0.hb dL_law_32 (by rw [hc20]; decide) (by rw [hc20]; decide) (by rw [hc20]; rfl) (by decide) ?_
                                            exact lc_20 C0 hX hbl hbA hw hl hi1 hi2 h kk
                                          · have h := (if_neg hc20).symm.trans h
                                            by_cases hc21 : x = (21 : Int32)
                                            · have h := (if_pos hc21).symm.trans h
                                              refine lv_tableIn (off := 725) (tgt := 757) C0.hx C0.hb dL_law_32 (by rw [hc21]; decide) (by rw [hc21]; decide) (by rw [hc21]; rfl) (by decide) ?_
                                              exact lc_21 C0 hX hbl hbA hw hl hi1 hi2 h kk
                                            · have h := (if_neg hc21).symm.trans h
                                              by_cases hc22 : x = (22 : Int32)
                                              · have h := (if_pos hc22).symm.trans h
                                                refine lv_tableIn (off := 758) (tgt := 790) C0.hx C0.hb dL_law_32 (by rw [hc22]; decide) (by rw [hc22]; decide) (by rw [hc22]; rfl) (by decide) ?_
                                                exact lc_22 C0 hX hbl hbA hw hl hi1 hi2 h kk
                                              · have h := (if_neg hc22).symm.trans h
                                                by_cases hc23 : x = (23 : Int32)
                                                · have h := (if_pos hc23).symm.trans h
                                                  refine lv_tableIn (off := 781) (tgt := 813) C0.hx C0.hb dL_law_32 (by rw [hc23]; decide) (by rw [hc23]; decide) (by rw [hc23]; rfl) (by decide) ?_
                                                  exact lc_23 C0 hX hbl hbA hw hl hi1 hi2 h kk
                                                · have h := (if_neg hc23).symm.trans h
                                                  by_cases hc24 : x = (24 : Int32)
                                                  · have h := (if_pos hc24).symm.trans h
                                                    refine lv_tableIn (off := 804) (tgt := 836) C0.hx C0.hb dL_law_32 (by rw [hc24]; decide) (by rw [hc24]; decide) (by rw [hc24]; rfl) (by decide) ?_
                                                    exact lc_24 C0 hX hbl hbA hw hl hi1 hi2 h kk
                                                  · have h := (if_neg hc24).symm.trans h
                                                    by_cases hc25 : x = (25 : Int32)
                                                    · have h := (if_pos hc25).symm.trans h
                                                      refine lv_tableIn (off := 817) (tgt := 849) C0.hx C0.hb dL_law_32 (by rw [hc25]; decide) (by rw [hc25]; decide) (by rw [hc25]; rfl) (by decide) ?_
                                                      exact lc_25 C0 hX hbl hbA hw hl hi1 hi2 h kk
                                                    · have h := (if_neg hc25).symm.trans h
                                                      by_cases hc26 : x = (26 : Int32)
                                                      · have h := (if_pos hc26).symm.trans h
                                                        refine lv_tableIn (off := 840) (tgt := 872) C0.hx C0.hb dL_law_32 (by rw [hc26]; decide) (by rw [hc26]; decide) (by rw [hc26]; rfl) (by decide) ?_
                                                        exact lc_26 C0 hX hbl hbA hw hl hi1 hi2 h kk
                                                      · have h := (if_neg hc26).symm.trans h
                                                        by_cases hc27 : x = (27 : Int32)
                                                        · have h := (if_pos hc27).symm.trans h
                                                          refine lv_tableIn (off := 873) (tgt := 905) C0.hx C0.hb dL_law_32 (by rw [hc27]; decide) (by rw [hc27]; decide) (by rw [hc27]; rfl) (by decide) ?_
                                                          exact lc_27 C0 hX hbl hbA hw hl hi1 hi2 h kk
                                                        · have h := (if_neg hc27).symm.trans h
                                                          by_cases hc28 : x = (28 : Int32)
                                                          · have h := (if_pos hc28).symm.trans h
                                                            refine lv_tableIn (off := 896) (tgt := 928) C0.hx C0.hb dL_law_32 (by rw [hc28]; decide) (by rw [hc28]; decide) (by rw [hc28]; rfl) (by decide) ?_
                                                            exact lc_28 C0 hX hbl hbA hw hl hi1 hi2 h kk
                                                          · have h := (if_neg hc28).symm.trans h
                                                            by_cases hc29 : x = (29 : Int32)
                                                            · have h := (if_pos hc29).symm.trans h
                                                              refine lv_tableIn (off := 909) (tgt := 941) C0.hx C0.hb dL_law_32 (by rw [hc29]; decide) (by rw [hc29]; decide) (by rw [hc29]; rfl) (by decide) ?_
                                                              exact lc_29 C0 hX hbl hbA hw hl hi1 hi2 h kk
                                                            · have h := (if_neg hc29).symm.trans h
                                                              by_cases hc30 : x = (30 : Int32)
                                                              · have h := (if_pos hc30).symm.trans h
                                                                refine lv_tableIn (off := 932) (tgt := 964) C0.hx C0.hb dL_law_32 (by rw [hc30]; decide) (by rw [hc30]; decide) (by rw [hc30]; rfl) (by decide) ?_
                                                                exact lc_30 C0 hX hbl hbA hw hl hi1 hi2 h kk
                                                              · have h := (if_neg hc30).symm.trans h
                                                                by_cases hc31 : x = (31 : Int32)
                                                                · have h := (if_pos hc31).symm.trans h
                                                                  refine lv_tableIn (off := 955) (tgt := 987) C0.hx C0.hb dL_law_32 (by rw [hc31]; decide) (by rw [hc31]; decide) (by rw [hc31]; rfl) (by decide) ?_
                                                                  exact lc_31 C0 hX hbl hbA hw hl hi1 hi2 h kk
                                                                · have h := (if_neg hc31).symm.trans h
                                                                  by_cases hc32 : x = (32 : Int32)
                                                                  · have h := (if_pos hc32).symm.trans h
                                                                    refine lv_tableIn (off := 988) (tgt := 1020) C0.hx C0.hb dL_law_32 (by rw [hc32]; decide) (by rw [hc32]; decide) (by rw [hc32]; rfl) (by decide) ?_
                                                                    exact lc_32 C0 hX hbl hbA hw hl hi1 hi2 h kk
                                                                  · have h := (if_neg hc32).symm.trans h
                                                                    by_cases hc33 : x = (33 : Int32)
                                                                    · have h := (if_pos hc33).symm.trans h
                                                                      refine lv_tableIn (off := 1001) (tgt := 1033) C0.hx C0.hb dL_law_32 (by rw [hc33]; decide) (by rw [hc33]; decide) (by rw [hc33]; rfl) (by decide) ?_
                                                                      exact lc_33 C0 hX hbl hbA hw hl hi1 hi2 h kk
                                                                    · have h := (if_neg hc33).symm.trans h
                                                                      by_cases hc34 : x = (34 : Int32)
                                                                      · have h := (if_pos hc34).symm.trans h
                                                                        refine lv_tableIn (off := 1014) (tgt := 1046) C0.hx C0.hb dL_law_32 (by rw [hc34]; decide) (by rw [hc34]; decide) (by rw [hc34]; rfl) (by decide) ?_
                                                                        exact lc_34 C0 hX hbl hbA hw hl hi1 hi2 h kk
                                                                      · have h := (if_neg hc34).symm.trans h
                                                                        by_cases hc35 : x = (35 : Int32)
                                                                        · have h := (if_pos hc35).symm.trans h
                                                                          refine lv_tableIn (off := 1037) (tgt := 1069) C0.hx C0.hb dL_law_32 (by rw [hc35]; decide) (by rw [hc35]; decide) (by rw [hc35]; rfl) (by decide) ?_
                                                                          exact lc_35 C0 hX hbl hbA hw hl hi1 hi2 h kk
                                                                        · have h := (if_neg hc35).symm.trans h
                                                                          by_cases hc36 : x = (36 : Int32)
                                                                          · have h := (if_pos hc36).symm.trans h
                                                                            refine lv_tableIn (off := 1060) (tgt := 1092) C0.hx C0.hb dL_law_32 (by rw [hc36]; decide) (by rw [hc36]; decide) (by rw [hc36]; rfl) (by decide) ?_
                                                                            exact lc_36 C0 hX hbl hbA hw hl hi1 hi2 h kk
                                                                          · have h := (if_neg hc36).symm.trans h
                                                                            refine lv_tableOut (tgt := 1115) C0.hx C0.hb dL_law_32 (by have n0 := lv_neT (a := 0) hc0 (by decide); have n1 := lv_neT (a := 1) hc1 (by decide); have n2 := lv_neT (a := 2) hc2 (by decide); have n3 := lv_neT (a := 3) hc3 (by decide); have n4 := lv_neT (a := 4) hc4 (by decide); have n5 := lv_neT (a := 5) hc5 (by decide); have n6 := lv_neT (a := 6) hc6 (by decide); have n7 := lv_neT (a := 7) hc7 (by decide); have n8 := lv_neT (a := 8) hc8 (by decide); have n9 := lv_neT (a := 9) hc9 (by decide); have n10 := lv_neT (a := 10) hc10 (by decide); have n11 := lv_neT (a := 11) hc11 (by decide); have n12 := lv_neT (a := 12) hc12 (by decide); have n13 := lv_neT (a := 13) hc13 (by decide); have n14 := lv_neT (a := 14) hc14 (by decide); have n15 := lv_neT (a := 15) hc15 (by decide); have n16 := lv_neT (a := 16) hc16 (by decide); have n17 := lv_neT (a := 17) hc17 (by decide); have n18 := lv_neT (a := 18) hc18 (by decide); have n19 := lv_neT (a := 19) hc19 (by decide); have n20 := lv_neT (a := 20) hc20 (by decide); have n21 := lv_neT (a := 21) hc21 (by decide); have n22 := lv_neT (a := 22) hc22 (by decide); have n23 := lv_neT (a := 23) hc23 (by decide); have n24 := lv_neT (a := 24) hc24 (by decide); have n25 := lv_neT (a := 25) hc25 (by decide); have n26 := lv_neT (a := 26) hc26 (by decide); have n27 := lv_neT (a := 27) hc27 (by decide); have n28 := lv_neT (a := 28) hc28 (by decide); have n29 := lv_neT (a := 29) hc29 (by decide); have n30 := lv_neT (a := 30) hc30 (by decide); have n31 := lv_neT (a := 31) hc31 (by decide); have n32 := lv_neT (a := 32) hc32 (by decide); have n33 := lv_neT (a := 33) hc33 (by decide); have n34 := lv_neT (a := 34) hc34 (by decide); have n35 := lv_neT (a := 35) hc35 (by decide); have n36 := lv_neT (a := 36) hc36 (by decide); omega) (by decide) ?_
                                                                            obtain rfl := Option.some.inj h
                                                                            exact kk _ _ hw

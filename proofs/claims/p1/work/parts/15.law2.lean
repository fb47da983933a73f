theorem w_455 : (Cond.methodLink "MapFramerLaw" 103 ⟨"MapFramerLaw", "codeAt", "(LMapFramer;II[J)I"⟩ : Cond) ∈ bigW := inB_7 26 (by decide +kernel) rfl
theorem w_456 : (Cond.static ⟨"MapFramerLaw", "codeAt", "(LMapFramer;II[J)I"⟩ : Cond) ∈ bigW := inB_7 27 (by decide +kernel) rfl
theorem w_457 : (Cond.codeWith ⟨"MapFramerLaw", "codeAt", "(LMapFramer;II[J)I"⟩ method_10_code 5 (some .int) [(0, 10, 13, 42)] : Cond) ∈ bigW := inB_7 28 rfl rfl
theorem w_458 : (Cond.methodLink "MapFramerLaw" 105 ⟨"MapFramerModel", "codeAt", "(II)I"⟩ : Cond) ∈ bigW := inB_10 82 (by decide +kernel) rfl
theorem w_459 : (Cond.instanceMethod ⟨"MapFramerModel", "codeAt", "(II)I"⟩ : Cond) ∈ bigW := inB_10 83 (by decide +kernel) rfl
theorem w_460 : (Cond.selects "MapFramerModel" ⟨"MapFramerModel", "codeAt", "(II)I"⟩ ⟨"MapFramerModel", "codeAt", "(II)I"⟩ : Cond) ∈ bigW := inB_10 84 (by decide +kernel) rfl
theorem w_461 : (Cond.code ⟨"MapFramerModel", "codeAt", "(II)I"⟩ prog_14_method_76_code 3 (some .int) : Cond) ∈ bigW := inB_10 85 rfl rfl
theorem w_462 : (Cond.methodLink "MapFramerLaw" 106 ⟨"MapFramerLaw", "frameAt", "(LMapFramer;II[J)I"⟩ : Cond) ∈ bigW := inB_7 34 (by decide +kernel) rfl
theorem w_463 : (Cond.static ⟨"MapFramerLaw", "frameAt", "(LMapFramer;II[J)I"⟩ : Cond) ∈ bigW := inB_7 35 (by decide +kernel) rfl
theorem w_464 : (Cond.codeWith ⟨"MapFramerLaw", "frameAt", "(LMapFramer;II[J)I"⟩ method_11_code 5 (some .int) [(0, 10, 13, 42)] : Cond) ∈ bigW := inB_7 36 rfl rfl
theorem w_465 : (Cond.methodLink "MapFramerLaw" 108 ⟨"MapFramerModel", "frameAt", "(II)I"⟩ : Cond) ∈ bigW := inB_10 86 (by decide +kernel) rfl
theorem w_466 : (Cond.instanceMethod ⟨"MapFramerModel", "frameAt", "(II)I"⟩ : Cond) ∈ bigW := inB_10 87 (by decide +kernel) rfl
theorem w_467 : (Cond.selects "MapFramerModel" ⟨"MapFramerModel", "frameAt", "(II)I"⟩ ⟨"MapFramerModel", "frameAt", "(II)I"⟩ : Cond) ∈ bigW := inB_10 88 (by decide +kernel) rfl
theorem w_468 : (Cond.code ⟨"MapFramerModel", "frameAt", "(II)I"⟩ prog_14_method_77_code 3 (some .int) : Cond) ∈ bigW := inB_10 89 rfl rfl
theorem w_469 : (Cond.methodLink "MapFramerLaw" 109 ⟨"MapFramerLaw", "handlerAt", "(LMapFramer;III[J)I"⟩ : Cond) ∈ bigW := inB_7 42 (by decide +kernel) rfl
theorem w_470 : (Cond.static ⟨"MapFramerLaw", "handlerAt", "(LMapFramer;III[J)I"⟩ : Cond) ∈ bigW := inB_7 43 (by decide +kernel) rfl
theorem w_471 : (Cond.codeWith ⟨"MapFramerLaw", "handlerAt", "(LMapFramer;III[J)I"⟩ method_12_code 6 (some .int) [(0, 12, 15, 42)] : Cond) ∈ bigW := inB_7 44 rfl rfl
theorem w_472 : (Cond.methodLink "MapFramerLaw" 112 ⟨"MapFramerModel", "handlerAt", "(III)I"⟩ : Cond) ∈ bigW := inB_10 90 (by decide +kernel) rfl
theorem w_473 : (Cond.instanceMethod ⟨"MapFramerModel", "handlerAt", "(III)I"⟩ : Cond) ∈ bigW := inB_10 91 (by decide +kernel) rfl
theorem w_474 : (Cond.selects "MapFramerModel" ⟨"MapFramerModel", "handlerAt", "(III)I"⟩ ⟨"MapFramerModel", "handlerAt", "(III)I"⟩ : Cond) ∈ bigW := inB_10 92 (by decide +kernel) rfl
theorem w_475 : (Cond.code ⟨"MapFramerModel", "handlerAt", "(III)I"⟩ prog_14_method_78_code 5 (some .int) : Cond) ∈ bigW := inB_10 93 rfl rfl
theorem w_476 : (Cond.methodLink "MapFramerLaw" 113 ⟨"MapFramerLaw", "typeAt", "(LMapFramer;III[J)I"⟩ : Cond) ∈ bigW := inB_7 51 (by decide +kernel) rfl
theorem w_477 : (Cond.static ⟨"MapFramerLaw", "typeAt", "(LMapFramer;III[J)I"⟩ : Cond) ∈ bigW := inB_7 52 (by decide +kernel) rfl
theorem w_478 : (Cond.codeWith ⟨"MapFramerLaw", "typeAt", "(LMapFramer;III[J)I"⟩ method_13_code 6 (some .int) [(0, 12, 15, 42)] : Cond) ∈ bigW := inB_7 53 rfl rfl
theorem w_479 : (Cond.methodLink "MapFramerLaw" 115 ⟨"MapFramerModel", "typeAt", "(III)I"⟩ : Cond) ∈ bigW := inB_10 94 (by decide +kernel) rfl
theorem w_480 : (Cond.instanceMethod ⟨"MapFramerModel", "typeAt", "(III)I"⟩ : Cond) ∈ bigW := inB_10 95 (by decide +kernel) rfl
theorem w_481 : (Cond.selects "MapFramerModel" ⟨"MapFramerModel", "typeAt", "(III)I"⟩ ⟨"MapFramerModel", "typeAt", "(III)I"⟩ : Cond) ∈ bigW := inB_10 96 (by decide +kernel) rfl
theorem w_482 : (Cond.code ⟨"MapFramerModel", "typeAt", "(III)I"⟩ prog_14_method_79_code 7 (some .int) : Cond) ∈ bigW := inB_10 97 rfl rfl
theorem w_483 : (Cond.constantLong "MapFramerLaw" 116 4294967295 : Cond) ∈ bigW := inB_10 202 (by decide +kernel) rfl
theorem w_484 : (Cond.methodLink "MapFramerLaw" 118 ⟨"MapFramerLaw", "run", "(LMapFramer;IJJI[J)I"⟩ : Cond) ∈ bigW := inB_7 64 (by decide +kernel) rfl
theorem w_485 : (Cond.static ⟨"MapFramerLaw", "run", "(LMapFramer;IJJI[J)I"⟩ : Cond) ∈ bigW := inB_7 65 (by decide +kernel) rfl
theorem w_486 : (Cond.codeWith ⟨"MapFramerLaw", "run", "(LMapFramer;IJJI[J)I"⟩ method_14_code 9 (some .int) [(0, 14, 17, 13), (0, 14, 21, 15), (0, 14, 25, 37)] : Cond) ∈ bigW := inB_7 66 rfl rfl
theorem w_487 : (Cond.methodLink "MapFramerLaw" 121 ⟨"MapFramerModel", "run", "(IJJI)J"⟩ : Cond) ∈ bigW := inB_10 98 (by decide +kernel) rfl
theorem w_488 : (Cond.instanceMethod ⟨"MapFramerModel", "run", "(IJJI)J"⟩ : Cond) ∈ bigW := inB_10 99 (by decide +kernel) rfl
theorem w_489 : (Cond.selects "MapFramerModel" ⟨"MapFramerModel", "run", "(IJJI)J"⟩ ⟨"MapFramerModel", "run", "(IJJI)J"⟩ : Cond) ∈ bigW := inB_10 100 (by decide +kernel) rfl
theorem w_490 : (Cond.code ⟨"MapFramerModel", "run", "(IJJI)J"⟩ prog_14_method_103_code 12 (some .long) : Cond) ∈ bigW := inB_10 101 rfl rfl
theorem w_491 : (Cond.methodLink "MapFramerLaw" 122 ⟨"MapFramer", "end", "(I)I"⟩ : Cond) ∈ bigW := inB_1 207 (by decide +kernel) rfl
theorem w_492 : (Cond.instanceMethod ⟨"MapFramer", "end", "(I)I"⟩ : Cond) ∈ bigW := inB_1 208 (by decide +kernel) rfl
theorem w_493 : (Cond.selects "MapFramer" ⟨"MapFramer", "end", "(I)I"⟩ ⟨"MapFramer", "end", "(I)I"⟩ : Cond) ∈ bigW := inB_1 209 (by decide +kernel) rfl
theorem w_494 : (Cond.code ⟨"MapFramer", "end", "(I)I"⟩ prog_1_method_16_code 2 (some .int) : Cond) ∈ bigW := inB_1 210 rfl rfl
theorem w_495 : (Cond.methodLink "MapFramerLaw" 125 ⟨"MapFramerModel", "end", "(I)I"⟩ : Cond) ∈ bigW := inB_10 194 (by decide +kernel) rfl
theorem w_496 : (Cond.instanceMethod ⟨"MapFramerModel", "end", "(I)I"⟩ : Cond) ∈ bigW := inB_10 195 (by decide +kernel) rfl
theorem w_497 : (Cond.selects "MapFramerModel" ⟨"MapFramerModel", "end", "(I)I"⟩ ⟨"MapFramerModel", "end", "(I)I"⟩ : Cond) ∈ bigW := inB_10 196 (by decide +kernel) rfl
theorem w_498 : (Cond.code ⟨"MapFramerModel", "end", "(I)I"⟩ prog_14_method_104_code 2 (some .int) : Cond) ∈ bigW := inB_10 197 rfl rfl
theorem w_499 : (Cond.methodLink "MapFramerLaw" 126 ⟨"MapFramer", "count", "(I)I"⟩ : Cond) ∈ bigW := inB_1 211 (by decide +kernel) rfl
theorem w_500 : (Cond.instanceMethod ⟨"MapFramer", "count", "(I)I"⟩ : Cond) ∈ bigW := inB_1 212 (by decide +kernel) rfl
theorem w_501 : (Cond.selects "MapFramer" ⟨"MapFramer", "count", "(I)I"⟩ ⟨"MapFramer", "count", "(I)I"⟩ : Cond) ∈ bigW := inB_1 213 (by decide +kernel) rfl
theorem w_502 : (Cond.code ⟨"MapFramer", "count", "(I)I"⟩ prog_1_method_17_code 2 (some .int) : Cond) ∈ bigW := inB_1 214 rfl rfl
theorem w_503 : (Cond.methodLink "MapFramerLaw" 129 ⟨"MapFramerModel", "count", "(I)I"⟩ : Cond) ∈ bigW := inB_10 198 (by decide +kernel) rfl
theorem w_504 : (Cond.instanceMethod ⟨"MapFramerModel", "count", "(I)I"⟩ : Cond) ∈ bigW := inB_10 199 (by decide +kernel) rfl
theorem w_505 : (Cond.selects "MapFramerModel" ⟨"MapFramerModel", "count", "(I)I"⟩ ⟨"MapFramerModel", "count", "(I)I"⟩ : Cond) ∈ bigW := inB_10 200 (by decide +kernel) rfl
theorem w_506 : (Cond.code ⟨"MapFramerModel", "count", "(I)I"⟩ prog_14_method_105_code 2 (some .int) : Cond) ∈ bigW := inB_10 201 rfl rfl
theorem d_L_law_689 : decode code 689 = .ok (.aload_n 1, 1) := by decide +kernel
theorem d_L_law_690 : decode code 690 = .ok (.aload_n 0, 1) := by decide +kernel
theorem d_L_law_691 : decode code 691 = .ok (.iload 4, 2) := by decide +kernel
theorem d_L_law_693 : decode code 693 = .ok (.iconst 1, 1) := by decide +kernel
theorem d_L_law_694 : decode code 694 = .ok (.iadd, 1) := by decide +kernel
theorem d_L_law_695 : decode code 695 = .ok (.iaload, 1) := by decide +kernel
theorem d_L_law_696 : decode code 696 = .ok (.aload_n 0, 1) := by decide +kernel
theorem d_L_law_697 : decode code 697 = .ok (.iload 4, 2) := by decide +kernel
theorem d_L_law_699 : decode code 699 = .ok (.iconst 2, 1) := by decide +kernel
theorem d_L_law_700 : decode code 700 = .ok (.iadd, 1) := by decide +kernel
theorem d_L_law_701 : decode code 701 = .ok (.iaload, 1) := by decide +kernel
theorem d_L_law_702 : decode code 702 = .ok (.aload_n 3, 1) := by decide +kernel
theorem d_L_law_703 : decode code 703 = .ok (.invokestatic 103, 3) := by decide +kernel
theorem d_L_law_706 : decode code 706 = .ok (.istore 5, 2) := by decide +kernel
theorem d_L_law_708 : decode code 708 = .ok (.aload_n 2, 1) := by decide +kernel
theorem d_L_law_709 : decode code 709 = .ok (.aload_n 0, 1) := by decide +kernel
theorem d_L_law_710 : decode code 710 = .ok (.iload 4, 2) := by decide +kernel
theorem d_L_law_712 : decode code 712 = .ok (.iconst 1, 1) := by decide +kernel
theorem d_L_law_713 : decode code 713 = .ok (.iadd, 1) := by decide +kernel
theorem d_L_law_714 : decode code 714 = .ok (.iaload, 1) := by decide +kernel
theorem d_L_law_715 : decode code 715 = .ok (.aload_n 0, 1) := by decide +kernel
theorem d_L_law_716 : decode code 716 = .ok (.iload 4, 2) := by decide +kernel
theorem d_L_law_718 : decode code 718 = .ok (.iconst 2, 1) := by decide +kernel
theorem d_L_law_719 : decode code 719 = .ok (.iadd, 1) := by decide +kernel
theorem d_L_law_720 : decode code 720 = .ok (.iaload, 1) := by decide +kernel
theorem d_L_law_721 : decode code 721 = .ok (.invokevirtual 105, 3) := by decide +kernel
theorem d_L_law_724 : decode code 724 = .ok (.istore 6, 2) := by decide +kernel
theorem d_L_law_726 : decode code 726 = .ok (.aload_n 2, 1) := by decide +kernel
theorem d_L_law_727 : decode code 727 = .ok (.invokevirtual 71, 3) := by decide +kernel
theorem d_L_law_730 : decode code 730 = .ok (.iload 5, 2) := by decide +kernel
theorem d_L_law_732 : decode code 732 = .ok (.if_icmp .eq 5, 3) := by decide +kernel
theorem d_L_law_737 : decode code 737 = .ok (.iload 5, 2) := by decide +kernel
theorem d_L_law_739 : decode code 739 = .ok (.ifCond .ne 15, 3) := by decide +kernel
theorem d_L_law_754 : decode code 754 = .ok (.goto 438, 3) := by decide +kernel
theorem d_L_law_757 : decode code 757 = .ok (.aload_n 1, 1) := by decide +kernel
theorem d_L_law_758 : decode code 758 = .ok (.aload_n 0, 1) := by decide +kernel
theorem d_L_law_759 : decode code 759 = .ok (.iload 4, 2) := by decide +kernel
theorem d_L_law_761 : decode code 761 = .ok (.iconst 1, 1) := by decide +kernel
theorem d_L_law_762 : decode code 762 = .ok (.iadd, 1) := by decide +kernel
theorem d_L_law_763 : decode code 763 = .ok (.iaload, 1) := by decide +kernel
theorem d_L_law_764 : decode code 764 = .ok (.aload_n 0, 1) := by decide +kernel
theorem d_L_law_765 : decode code 765 = .ok (.iload 4, 2) := by decide +kernel
theorem d_L_law_767 : decode code 767 = .ok (.iconst 2, 1) := by decide +kernel
theorem d_L_law_768 : decode code 768 = .ok (.iadd, 1) := by decide +kernel
theorem d_L_law_769 : decode code 769 = .ok (.iaload, 1) := by decide +kernel
theorem d_L_law_770 : decode code 770 = .ok (.aload_n 3, 1) := by decide +kernel
theorem d_L_law_771 : decode code 771 = .ok (.invokestatic 106, 3) := by decide +kernel
theorem d_L_law_774 : decode code 774 = .ok (.istore 5, 2) := by decide +kernel
theorem d_L_law_776 : decode code 776 = .ok (.aload_n 2, 1) := by decide +kernel
theorem d_L_law_777 : decode code 777 = .ok (.aload_n 0, 1) := by decide +kernel
theorem d_L_law_778 : decode code 778 = .ok (.iload 4, 2) := by decide +kernel
theorem d_L_law_780 : decode code 780 = .ok (.iconst 1, 1) := by decide +kernel
theorem d_L_law_781 : decode code 781 = .ok (.iadd, 1) := by decide +kernel
theorem d_L_law_782 : decode code 782 = .ok (.iaload, 1) := by decide +kernel
theorem d_L_law_783 : decode code 783 = .ok (.aload_n 0, 1) := by decide +kernel
theorem d_L_law_784 : decode code 784 = .ok (.iload 4, 2) := by decide +kernel
theorem d_L_law_786 : decode code 786 = .ok (.iconst 2, 1) := by decide +kernel
theorem d_L_law_787 : decode code 787 = .ok (.iadd, 1) := by decide +kernel
theorem d_L_law_788 : decode code 788 = .ok (.iaload, 1) := by decide +kernel
theorem d_L_law_789 : decode code 789 = .ok (.invokevirtual 108, 3) := by decide +kernel
theorem d_L_law_792 : decode code 792 = .ok (.istore 6, 2) := by decide +kernel
theorem d_L_law_794 : decode code 794 = .ok (.aload_n 2, 1) := by decide +kernel
theorem d_L_law_795 : decode code 795 = .ok (.invokevirtual 71, 3) := by decide +kernel
theorem d_L_law_798 : decode code 798 = .ok (.iload 5, 2) := by decide +kernel
theorem d_L_law_800 : decode code 800 = .ok (.if_icmp .eq 5, 3) := by decide +kernel
theorem d_L_law_805 : decode code 805 = .ok (.iload 5, 2) := by decide +kernel
theorem d_L_law_807 : decode code 807 = .ok (.ifCond .ne 15, 3) := by decide +kernel
theorem d_L_law_822 : decode code 822 = .ok (.goto 370, 3) := by decide +kernel
theorem d_L_law_825 : decode code 825 = .ok (.aload_n 1, 1) := by decide +kernel
theorem d_L_law_826 : decode code 826 = .ok (.aload_n 0, 1) := by decide +kernel
theorem d_L_law_827 : decode code 827 = .ok (.iload 4, 2) := by decide +kernel
theorem d_L_law_829 : decode code 829 = .ok (.iconst 1, 1) := by decide +kernel
theorem d_L_law_830 : decode code 830 = .ok (.iadd, 1) := by decide +kernel
theorem d_L_law_831 : decode code 831 = .ok (.iaload, 1) := by decide +kernel
theorem d_L_law_832 : decode code 832 = .ok (.aload_n 0, 1) := by decide +kernel
theorem d_L_law_833 : decode code 833 = .ok (.iload 4, 2) := by decide +kernel
theorem d_L_law_835 : decode code 835 = .ok (.iconst 2, 1) := by decide +kernel
theorem d_L_law_836 : decode code 836 = .ok (.iadd, 1) := by decide +kernel
theorem d_L_law_837 : decode code 837 = .ok (.iaload, 1) := by decide +kernel
theorem d_L_law_838 : decode code 838 = .ok (.aload_n 0, 1) := by decide +kernel
theorem d_L_law_839 : decode code 839 = .ok (.iload 4, 2) := by decide +kernel
theorem d_L_law_841 : decode code 841 = .ok (.iconst 3, 1) := by decide +kernel
theorem d_L_law_842 : decode code 842 = .ok (.iadd, 1) := by decide +kernel
theorem d_L_law_843 : decode code 843 = .ok (.iaload, 1) := by decide +kernel
theorem d_L_law_844 : decode code 844 = .ok (.aload_n 3, 1) := by decide +kernel
theorem d_L_law_845 : decode code 845 = .ok (.invokestatic 109, 3) := by decide +kernel
theorem d_L_law_848 : decode code 848 = .ok (.istore 5, 2) := by decide +kernel
theorem d_L_law_850 : decode code 850 = .ok (.aload_n 2, 1) := by decide +kernel
theorem d_L_law_851 : decode code 851 = .ok (.aload_n 0, 1) := by decide +kernel
theorem d_L_law_852 : decode code 852 = .ok (.iload 4, 2) := by decide +kernel
theorem d_L_law_854 : decode code 854 = .ok (.iconst 1, 1) := by decide +kernel
theorem d_L_law_855 : decode code 855 = .ok (.iadd, 1) := by decide +kernel
theorem d_L_law_856 : decode code 856 = .ok (.iaload, 1) := by decide +kernel
theorem d_L_law_857 : decode code 857 = .ok (.aload_n 0, 1) := by decide +kernel
theorem d_L_law_858 : decode code 858 = .ok (.iload 4, 2) := by decide +kernel
theorem d_L_law_860 : decode code 860 = .ok (.iconst 2, 1) := by decide +kernel
theorem d_L_law_861 : decode code 861 = .ok (.iadd, 1) := by decide +kernel
theorem d_L_law_862 : decode code 862 = .ok (.iaload, 1) := by decide +kernel
theorem d_L_law_863 : decode code 863 = .ok (.aload_n 0, 1) := by decide +kernel
theorem d_L_law_864 : decode code 864 = .ok (.iload 4, 2) := by decide +kernel
theorem d_L_law_866 : decode code 866 = .ok (.iconst 3, 1) := by decide +kernel
theorem d_L_law_867 : decode code 867 = .ok (.iadd, 1) := by decide +kernel
theorem d_L_law_868 : decode code 868 = .ok (.iaload, 1) := by decide +kernel
theorem d_L_law_869 : decode code 869 = .ok (.invokevirtual 112, 3) := by decide +kernel
theorem d_L_law_872 : decode code 872 = .ok (.istore 6, 2) := by decide +kernel
theorem d_L_law_874 : decode code 874 = .ok (.aload_n 2, 1) := by decide +kernel
theorem d_L_law_875 : decode code 875 = .ok (.invokevirtual 71, 3) := by decide +kernel
theorem d_L_law_878 : decode code 878 = .ok (.iload 5, 2) := by decide +kernel
theorem d_L_law_880 : decode code 880 = .ok (.if_icmp .eq 5, 3) := by decide +kernel
theorem d_L_law_885 : decode code 885 = .ok (.iload 5, 2) := by decide +kernel
theorem d_L_law_887 : decode code 887 = .ok (.ifCond .ne 15, 3) := by decide +kernel
theorem d_L_law_902 : decode code 902 = .ok (.goto 290, 3) := by decide +kernel
theorem d_L_law_905 : decode code 905 = .ok (.aload_n 1, 1) := by decide +kernel
theorem d_L_law_906 : decode code 906 = .ok (.aload_n 0, 1) := by decide +kernel
theorem d_L_law_907 : decode code 907 = .ok (.iload 4, 2) := by decide +kernel
theorem d_L_law_909 : decode code 909 = .ok (.iconst 1, 1) := by decide +kernel
theorem d_L_law_910 : decode code 910 = .ok (.iadd, 1) := by decide +kernel
theorem d_L_law_911 : decode code 911 = .ok (.iaload, 1) := by decide +kernel
theorem d_L_law_912 : decode code 912 = .ok (.aload_n 0, 1) := by decide +kernel
theorem d_L_law_913 : decode code 913 = .ok (.iload 4, 2) := by decide +kernel
theorem d_L_law_915 : decode code 915 = .ok (.iconst 2, 1) := by decide +kernel
theorem d_L_law_916 : decode code 916 = .ok (.iadd, 1) := by decide +kernel
theorem d_L_law_917 : decode code 917 = .ok (.iaload, 1) := by decide +kernel
theorem d_L_law_918 : decode code 918 = .ok (.aload_n 0, 1) := by decide +kernel
theorem d_L_law_919 : decode code 919 = .ok (.iload 4, 2) := by decide +kernel
theorem d_L_law_921 : decode code 921 = .ok (.iconst 3, 1) := by decide +kernel
theorem d_L_law_922 : decode code 922 = .ok (.iadd, 1) := by decide +kernel
theorem d_L_law_923 : decode code 923 = .ok (.iaload, 1) := by decide +kernel
theorem d_L_law_924 : decode code 924 = .ok (.aload_n 3, 1) := by decide +kernel
theorem d_L_law_925 : decode code 925 = .ok (.invokestatic 113, 3) := by decide +kernel
theorem d_L_law_928 : decode code 928 = .ok (.istore 5, 2) := by decide +kernel
theorem d_L_law_930 : decode code 930 = .ok (.aload_n 2, 1) := by decide +kernel
theorem d_L_law_931 : decode code 931 = .ok (.aload_n 0, 1) := by decide +kernel
theorem d_L_law_932 : decode code 932 = .ok (.iload 4, 2) := by decide +kernel
theorem d_L_law_934 : decode code 934 = .ok (.iconst 1, 1) := by decide +kernel
theorem d_L_law_935 : decode code 935 = .ok (.iadd, 1) := by decide +kernel
theorem d_L_law_936 : decode code 936 = .ok (.iaload, 1) := by decide +kernel
theorem d_L_law_937 : decode code 937 = .ok (.aload_n 0, 1) := by decide +kernel
theorem d_L_law_938 : decode code 938 = .ok (.iload 4, 2) := by decide +kernel
theorem d_L_law_940 : decode code 940 = .ok (.iconst 2, 1) := by decide +kernel
theorem d_L_law_941 : decode code 941 = .ok (.iadd, 1) := by decide +kernel
theorem d_L_law_942 : decode code 942 = .ok (.iaload, 1) := by decide +kernel
theorem d_L_law_943 : decode code 943 = .ok (.aload_n 0, 1) := by decide +kernel
theorem d_L_law_944 : decode code 944 = .ok (.iload 4, 2) := by decide +kernel
theorem d_L_law_946 : decode code 946 = .ok (.iconst 3, 1) := by decide +kernel
theorem d_L_law_947 : decode code 947 = .ok (.iadd, 1) := by decide +kernel
theorem d_L_law_948 : decode code 948 = .ok (.iaload, 1) := by decide +kernel
theorem d_L_law_949 : decode code 949 = .ok (.invokevirtual 115, 3) := by decide +kernel
theorem d_L_law_952 : decode code 952 = .ok (.istore 6, 2) := by decide +kernel
theorem d_L_law_954 : decode code 954 = .ok (.aload_n 2, 1) := by decide +kernel
theorem d_L_law_955 : decode code 955 = .ok (.invokevirtual 71, 3) := by decide +kernel
theorem d_L_law_958 : decode code 958 = .ok (.iload 5, 2) := by decide +kernel
theorem d_L_law_960 : decode code 960 = .ok (.if_icmp .eq 5, 3) := by decide +kernel
theorem d_L_law_965 : decode code 965 = .ok (.iload 5, 2) := by decide +kernel
theorem d_L_law_967 : decode code 967 = .ok (.ifCond .ne 15, 3) := by decide +kernel
theorem d_L_law_982 : decode code 982 = .ok (.goto 210, 3) := by decide +kernel
theorem d_L_law_985 : decode code 985 = .ok (.aload_n 1, 1) := by decide +kernel
theorem d_L_law_986 : decode code 986 = .ok (.aload_n 0, 1) := by decide +kernel
theorem d_L_law_987 : decode code 987 = .ok (.iload 4, 2) := by decide +kernel
theorem d_L_law_989 : decode code 989 = .ok (.iconst 1, 1) := by decide +kernel
theorem d_L_law_990 : decode code 990 = .ok (.iadd, 1) := by decide +kernel
theorem d_L_law_991 : decode code 991 = .ok (.iaload, 1) := by decide +kernel
theorem d_L_law_992 : decode code 992 = .ok (.aload_n 0, 1) := by decide +kernel
theorem d_L_law_993 : decode code 993 = .ok (.iload 4, 2) := by decide +kernel
theorem d_L_law_995 : decode code 995 = .ok (.iconst 2, 1) := by decide +kernel
theorem d_L_law_996 : decode code 996 = .ok (.iadd, 1) := by decide +kernel
theorem d_L_law_997 : decode code 997 = .ok (.iaload, 1) := by decide +kernel
theorem d_L_law_998 : decode code 998 = .ok (.i2l, 1) := by decide +kernel
theorem d_L_law_999 : decode code 999 = .ok (.bipush 32, 2) := by decide +kernel
theorem d_L_law_1001 : decode code 1001 = .ok (.lshl, 1) := by decide +kernel
theorem d_L_law_1002 : decode code 1002 = .ok (.aload_n 0, 1) := by decide +kernel
theorem d_L_law_1003 : decode code 1003 = .ok (.iload 4, 2) := by decide +kernel
theorem d_L_law_1005 : decode code 1005 = .ok (.iconst 3, 1) := by decide +kernel
theorem d_L_law_1006 : decode code 1006 = .ok (.iadd, 1) := by decide +kernel
theorem d_L_law_1007 : decode code 1007 = .ok (.iaload, 1) := by decide +kernel
theorem d_L_law_1008 : decode code 1008 = .ok (.i2l, 1) := by decide +kernel
theorem d_L_law_1009 : decode code 1009 = .ok (.ldc2_w 116, 3) := by decide +kernel
theorem d_L_law_1012 : decode code 1012 = .ok (.land, 1) := by decide +kernel
theorem d_L_law_1013 : decode code 1013 = .ok (.lor, 1) := by decide +kernel
theorem d_L_law_1014 : decode code 1014 = .ok (.aload_n 0, 1) := by decide +kernel
theorem d_L_law_1015 : decode code 1015 = .ok (.iload 4, 2) := by decide +kernel
theorem d_L_law_1017 : decode code 1017 = .ok (.iconst 4, 1) := by decide +kernel
theorem d_L_law_1018 : decode code 1018 = .ok (.iadd, 1) := by decide +kernel
theorem d_L_law_1019 : decode code 1019 = .ok (.iaload, 1) := by decide +kernel
theorem d_L_law_1020 : decode code 1020 = .ok (.i2l, 1) := by decide +kernel
theorem d_L_law_1021 : decode code 1021 = .ok (.bipush 32, 2) := by decide +kernel
theorem d_L_law_1023 : decode code 1023 = .ok (.lshl, 1) := by decide +kernel
theorem d_L_law_1024 : decode code 1024 = .ok (.aload_n 0, 1) := by decide +kernel
theorem d_L_law_1025 : decode code 1025 = .ok (.iload 4, 2) := by decide +kernel
theorem d_L_law_1027 : decode code 1027 = .ok (.iconst 5, 1) := by decide +kernel
theorem d_L_law_1028 : decode code 1028 = .ok (.iadd, 1) := by decide +kernel
theorem d_L_law_1029 : decode code 1029 = .ok (.iaload, 1) := by decide +kernel
theorem d_L_law_1030 : decode code 1030 = .ok (.i2l, 1) := by decide +kernel
theorem d_L_law_1031 : decode code 1031 = .ok (.ldc2_w 116, 3) := by decide +kernel
theorem d_L_law_1034 : decode code 1034 = .ok (.land, 1) := by decide +kernel
theorem d_L_law_1035 : decode code 1035 = .ok (.lor, 1) := by decide +kernel
theorem d_L_law_1036 : decode code 1036 = .ok (.aload_n 0, 1) := by decide +kernel
theorem d_L_law_1037 : decode code 1037 = .ok (.iload 4, 2) := by decide +kernel
theorem d_L_law_1039 : decode code 1039 = .ok (.bipush 6, 2) := by decide +kernel
theorem d_L_law_1041 : decode code 1041 = .ok (.iadd, 1) := by decide +kernel
theorem d_L_law_1042 : decode code 1042 = .ok (.iaload, 1) := by decide +kernel
theorem d_L_law_1043 : decode code 1043 = .ok (.aload_n 3, 1) := by decide +kernel
theorem d_L_law_1044 : decode code 1044 = .ok (.invokestatic 118, 3) := by decide +kernel
theorem d_L_law_1047 : decode code 1047 = .ok (.istore 5, 2) := by decide +kernel
theorem d_L_law_1049 : decode code 1049 = .ok (.aload_n 2, 1) := by decide +kernel
theorem d_L_law_1050 : decode code 1050 = .ok (.aload_n 0, 1) := by decide +kernel
theorem d_L_law_1051 : decode code 1051 = .ok (.iload 4, 2) := by decide +kernel
theorem d_L_law_1053 : decode code 1053 = .ok (.iconst 1, 1) := by decide +kernel
theorem d_L_law_1054 : decode code 1054 = .ok (.iadd, 1) := by decide +kernel
theorem d_L_law_1055 : decode code 1055 = .ok (.iaload, 1) := by decide +kernel
theorem d_L_law_1056 : decode code 1056 = .ok (.aload_n 0, 1) := by decide +kernel
theorem d_L_law_1057 : decode code 1057 = .ok (.iload 4, 2) := by decide +kernel
theorem d_L_law_1059 : decode code 1059 = .ok (.iconst 2, 1) := by decide +kernel
theorem d_L_law_1060 : decode code 1060 = .ok (.iadd, 1) := by decide +kernel
theorem d_L_law_1061 : decode code 1061 = .ok (.iaload, 1) := by decide +kernel
theorem d_L_law_1062 : decode code 1062 = .ok (.i2l, 1) := by decide +kernel
theorem d_L_law_1063 : decode code 1063 = .ok (.bipush 32, 2) := by decide +kernel
theorem d_L_law_1065 : decode code 1065 = .ok (.lshl, 1) := by decide +kernel
theorem d_L_law_1066 : decode code 1066 = .ok (.aload_n 0, 1) := by decide +kernel
theorem d_L_law_1067 : decode code 1067 = .ok (.iload 4, 2) := by decide +kernel
theorem d_L_law_1069 : decode code 1069 = .ok (.iconst 3, 1) := by decide +kernel
theorem d_L_law_1070 : decode code 1070 = .ok (.iadd, 1) := by decide +kernel
theorem d_L_law_1071 : decode code 1071 = .ok (.iaload, 1) := by decide +kernel
theorem d_L_law_1072 : decode code 1072 = .ok (.i2l, 1) := by decide +kernel
theorem d_L_law_1073 : decode code 1073 = .ok (.ldc2_w 116, 3) := by decide +kernel
theorem d_L_law_1076 : decode code 1076 = .ok (.land, 1) := by decide +kernel
theorem d_L_law_1077 : decode code 1077 = .ok (.lor, 1) := by decide +kernel
theorem d_L_law_1078 : decode code 1078 = .ok (.aload_n 0, 1) := by decide +kernel
theorem d_L_law_1079 : decode code 1079 = .ok (.iload 4, 2) := by decide +kernel
theorem d_L_law_1081 : decode code 1081 = .ok (.iconst 4, 1) := by decide +kernel
theorem d_L_law_1082 : decode code 1082 = .ok (.iadd, 1) := by decide +kernel
theorem d_L_law_1083 : decode code 1083 = .ok (.iaload, 1) := by decide +kernel
theorem d_L_law_1084 : decode code 1084 = .ok (.i2l, 1) := by decide +kernel
theorem d_L_law_1085 : decode code 1085 = .ok (.bipush 32, 2) := by decide +kernel
theorem d_L_law_1087 : decode code 1087 = .ok (.lshl, 1) := by decide +kernel
theorem d_L_law_1088 : decode code 1088 = .ok (.aload_n 0, 1) := by decide +kernel
theorem d_L_law_1089 : decode code 1089 = .ok (.iload 4, 2) := by decide +kernel
theorem d_L_law_1091 : decode code 1091 = .ok (.iconst 5, 1) := by decide +kernel
theorem d_L_law_1092 : decode code 1092 = .ok (.iadd, 1) := by decide +kernel
theorem d_L_law_1093 : decode code 1093 = .ok (.iaload, 1) := by decide +kernel
theorem d_L_law_1094 : decode code 1094 = .ok (.i2l, 1) := by decide +kernel
theorem d_L_law_1095 : decode code 1095 = .ok (.ldc2_w 116, 3) := by decide +kernel
theorem d_L_law_1098 : decode code 1098 = .ok (.land, 1) := by decide +kernel
theorem d_L_law_1099 : decode code 1099 = .ok (.lor, 1) := by decide +kernel
theorem d_L_law_1100 : decode code 1100 = .ok (.aload_n 0, 1) := by decide +kernel
theorem d_L_law_1101 : decode code 1101 = .ok (.iload 4, 2) := by decide +kernel
theorem d_L_law_1103 : decode code 1103 = .ok (.bipush 6, 2) := by decide +kernel
theorem d_L_law_1105 : decode code 1105 = .ok (.iadd, 1) := by decide +kernel
theorem d_L_law_1106 : decode code 1106 = .ok (.iaload, 1) := by decide +kernel
theorem d_L_law_1107 : decode code 1107 = .ok (.invokevirtual 121, 3) := by decide +kernel
theorem d_L_law_1110 : decode code 1110 = .ok (.lstore 6, 2) := by decide +kernel
theorem d_L_law_1112 : decode code 1112 = .ok (.aload_n 2, 1) := by decide +kernel
theorem d_L_law_1113 : decode code 1113 = .ok (.invokevirtual 71, 3) := by decide +kernel
theorem d_L_law_1116 : decode code 1116 = .ok (.iload 5, 2) := by decide +kernel
theorem d_L_law_1118 : decode code 1118 = .ok (.if_icmp .eq 5, 3) := by decide +kernel
theorem d_L_law_1123 : decode code 1123 = .ok (.iload 5, 2) := by decide +kernel
theorem d_L_law_1125 : decode code 1125 = .ok (.ifCond .ne 14, 3) := by decide +kernel
theorem d_L_law_1139 : decode code 1139 = .ok (.goto 53, 3) := by decide +kernel
theorem d_L_law_1142 : decode code 1142 = .ok (.aload_n 1, 1) := by decide +kernel
theorem d_L_law_1143 : decode code 1143 = .ok (.aload_n 0, 1) := by decide +kernel
theorem d_L_law_1144 : decode code 1144 = .ok (.iload 4, 2) := by decide +kernel
theorem d_L_law_1146 : decode code 1146 = .ok (.iconst 1, 1) := by decide +kernel
theorem d_L_law_1147 : decode code 1147 = .ok (.iadd, 1) := by decide +kernel
theorem d_L_law_1148 : decode code 1148 = .ok (.iaload, 1) := by decide +kernel
theorem d_L_law_1149 : decode code 1149 = .ok (.invokevirtual 122, 3) := by decide +kernel
theorem d_L_law_1152 : decode code 1152 = .ok (.aload_n 2, 1) := by decide +kernel
theorem d_L_law_1153 : decode code 1153 = .ok (.aload_n 0, 1) := by decide +kernel
theorem d_L_law_1154 : decode code 1154 = .ok (.iload 4, 2) := by decide +kernel
theorem d_L_law_1156 : decode code 1156 = .ok (.iconst 1, 1) := by decide +kernel
theorem d_L_law_1157 : decode code 1157 = .ok (.iadd, 1) := by decide +kernel
theorem d_L_law_1158 : decode code 1158 = .ok (.iaload, 1) := by decide +kernel
theorem d_L_law_1159 : decode code 1159 = .ok (.invokevirtual 125, 3) := by decide +kernel
theorem d_L_law_1162 : decode code 1162 = .ok (.if_icmp .eq 30, 3) := by decide +kernel
theorem d_L_law_1167 : decode code 1167 = .ok (.aload_n 1, 1) := by decide +kernel
theorem d_L_law_1168 : decode code 1168 = .ok (.aload_n 0, 1) := by decide +kernel
theorem d_L_law_1169 : decode code 1169 = .ok (.iload 4, 2) := by decide +kernel
theorem d_L_law_1171 : decode code 1171 = .ok (.iconst 1, 1) := by decide +kernel
theorem d_L_law_1172 : decode code 1172 = .ok (.iadd, 1) := by decide +kernel
theorem d_L_law_1173 : decode code 1173 = .ok (.iaload, 1) := by decide +kernel
theorem d_L_law_1174 : decode code 1174 = .ok (.invokevirtual 126, 3) := by decide +kernel
theorem d_L_law_1177 : decode code 1177 = .ok (.aload_n 2, 1) := by decide +kernel
theorem d_L_law_1178 : decode code 1178 = .ok (.aload_n 0, 1) := by decide +kernel
theorem d_L_law_1179 : decode code 1179 = .ok (.iload 4, 2) := by decide +kernel
theorem d_L_law_1181 : decode code 1181 = .ok (.iconst 1, 1) := by decide +kernel
theorem d_L_law_1182 : decode code 1182 = .ok (.iadd, 1) := by decide +kernel
theorem d_L_law_1183 : decode code 1183 = .ok (.iaload, 1) := by decide +kernel
theorem d_L_law_1184 : decode code 1184 = .ok (.invokevirtual 129, 3) := by decide +kernel
theorem d_L_law_1187 : decode code 1187 = .ok (.if_icmp .eq 5, 3) := by decide +kernel

set_option maxHeartbeats 4000000 in
set_option maxRecDepth 100000 in
theorem law_c8 {p : Program} {e : Env} {s : State} {m : MethodId} {below : List Frame} {meth : Method} {cx : Code} (l : Launch) (hl9 : l.stackTraces = false) {b : Nat} {xs : Nat → Int32} (C0 : lw_At p s m meth cx b 7 xs) (hex : exP (fun q : Nat => s.heap.size ≤ q) s) {dC : Nat → ClassId} {dI : Nat → Nat → Nat} {f w wp wu wi wc wt wx wm k kh ks kc9 tp mo m_above m_isFace m_fieldClass m_fieldType m_fieldStatic m_arguments m_argumentCount m_results m_sizes m_codes m_maxStack m_maxLocals m_handlers m_handlerFrom m_handlerTo m_handlerPlace m_handlerClass m_verified m_fault m_faultAt m_tape m_begins m_high m_locals m_stacks m_due m_dead m_framed m_local m_before m_stack m_given m_givenStack m_cutFrom m_cutTo m_cutPlace m_cutClass m_bytes m_was m_now m_ends m_statics m_thingType m_thingSize m_elements m_slots m_callMethod m_callPlace m_callHigh m_values m_piles ou : Nat} {kp  ku  ki  kc  kt  kx  km  kt9  k_above  k_isFace  k_fieldClass  k_fieldType  k_fieldStatic  k_arguments  k_argumentCount  k_results  k_tape  k_ends  ko : ClassId} {H : Heap} {locs : List Loc} (hK : va_K (dC, dI) vwCl [(ko, .long)] s) (hP : va_P (dC, dI) vwCl [(f, .inr (4, [.ref w, .ref k, .ref tp, .int 0])), (w, .inr (3, [.ref wp, .ref wu, .ref wi, .int 2, .ref wc, .ref wt, .ref wx, .int 0, .ref wm, .int 0])), (mo, .inr (5, [.int 0, .int 2, .ref m_above, .ref m_isFace, .int 0, .ref m_fieldClass, .ref m_fieldType, .ref m_fieldStatic, .int 0, .ref m_arguments, .ref m_argumentCount, .ref m_results, .ref m_sizes, .ref m_codes, .ref m_maxStack, .ref m_maxLocals, .ref m_handlers, .ref m_handlerFrom, .ref m_handlerTo, .ref m_handlerPlace, .ref m_handlerClass, .ref m_verified, .ref m_fault, .ref m_faultAt, .int 0, .ref m_tape, .ref m_begins, .ref m_high, .ref m_locals, .ref m_stacks, .ref m_due, .ref m_dead, .ref m_framed, .int 0, .int 0, .int 0, .int 0, .ref m_local, .ref m_before, .ref m_stack, .int 0, .ref m_given, .ref m_givenStack, .int 0, .int 0, .int 0, .ref m_cutFrom, .ref m_cutTo, .ref m_cutPlace, .ref m_cutClass, .int 0, .ref m_bytes, .ref m_was, .int 0, .ref m_now, .int 0, .ref m_ends, .ref m_statics, .int 0, .ref m_thingType, .ref m_thingSize, .ref m_elements, .ref m_slots, .int 0, .ref m_callMethod, .ref m_callPlace, .ref m_callHigh, .ref m_values, .ref m_piles, .int 0, .long 0])), (ou, .inl (ko, 1, .inr (.inl (fun _ => 0))))] H) (hD : va_D (fun q : Nat => s.heap.size ≤ q) [(f, .inr (4, [.ref w, .ref k, .ref tp, .int 0])), (w, .inr (3, [.ref wp, .ref wu, .ref wi, .int 2, .ref wc, .ref wt, .ref wx, .int 0, .ref wm, .int 0])), (mo, .inr (5, [.int 0, .int 2, .ref m_above, .ref m_isFace, .int 0, .ref m_fieldClass, .ref m_fieldType, .ref m_fieldStatic, .int 0, .ref m_arguments, .ref m_argumentCount, .ref m_results, .ref m_sizes, .ref m_codes, .ref m_maxStack, .ref m_maxLocals, .ref m_handlers, .ref m_handlerFrom, .ref m_handlerTo, .ref m_handlerPlace, .ref m_handlerClass, .ref m_verified, .ref m_fault, .ref m_faultAt, .int 0, .ref m_tape, .ref m_begins, .ref m_high, .ref m_locals, .ref m_stacks, .ref m_due, .ref m_dead, .ref m_framed, .int 0, .int 0, .int 0, .int 0, .ref m_local, .ref m_before, .ref m_stack, .int 0, .ref m_given, .ref m_givenStack, .int 0, .int 0, .int 0, .ref m_cutFrom, .ref m_cutTo, .ref m_cutPlace, .ref m_cutClass, .int 0, .ref m_bytes, .ref m_was, .int 0, .ref m_now, .int 0, .ref m_ends, .ref m_statics, .int 0, .ref m_thingType, .ref m_thingSize, .ref m_elements, .ref m_slots, .int 0, .ref m_callMethod, .ref m_callPlace, .ref m_callHigh, .ref m_values, .ref m_piles, .int 0, .long 0])), (ou, .inl (ko, 1, .inr (.inl (fun _ => 0))))]) (hS : va_S (fun q : Nat => s.heap.size ≤ q) s.heap H locs) {ls : Array Slot} (hl : lv_has ls 8 [(4, .int 0), (3, .ref ou), (2, .ref mo), (1, .ref f), (0, .ref b)]) : W p l e room_1 s m #[Value.ref b] below meth cx H locs 142 53745 (lw_Z below #[Value.ref b] s) (F0 m 689 ls []) := by
  obtain ⟨hx, hb, hr, hml, hown0, hts0, hX, hbl, hlocks, hgv⟩ := id C0
  have hown : s.vm.findClass "MapFramerLaw" = some m.cls := hown0
  have hts : ∀ w ∈ bigW, w.before #[Value.ref b] s = true := fun w h => hts0 w (List.mem_filter.mp h).1
  have hsub : ∀ w ∈ bigW, w ∈ bigW := fun _ h => h
  have hA : ∀ q : Nat, s.heap.size ≤ q → (fun q : Nat => s.heap.size ≤ q) q := fun _ h => h
  have hbA : ¬ (fun q : Nat => s.heap.size ≤ q) b := Nat.not_le.mpr hbl
  refine lv_aload_n hx hb d_L_law_689 rfl (lv_at hl 3 rfl) ?_
  refine lv_aload_n hx hb d_L_law_690 rfl (lv_at hl 4 rfl) ?_
  refine lv_iload hx hb d_L_law_691 (lv_at hl 0 rfl) ?_
  refine lv_iconst (v := 1) hx hb d_L_law_693 (by decide) ?_
  refine lv_iadd hx hb d_L_law_694 ?_
  refine tp_i 1 (by decide) ?_
  refine va_sld hx hb hX hbl hbA hS (vp_in_iff.mpr (by decide)) d_L_law_695 ?_
  refine tp_i (xs 1) (congrArg xs (by decide)) ?_
  refine lv_aload_n hx hb d_L_law_696 rfl (lv_at hl 4 rfl) ?_
  refine lv_iload hx hb d_L_law_697 (lv_at hl 0 rfl) ?_
  refine lv_iconst (v := 2) hx hb d_L_law_699 (by decide) ?_
  refine lv_iadd hx hb d_L_law_700 ?_
  refine tp_i 2 (by decide) ?_
  refine va_sld hx hb hX hbl hbA hS (vp_in_iff.mpr (by decide)) d_L_law_701 ?_
  refine tp_i (xs 2) (congrArg xs (by decide)) ?_
  refine lv_aload_n hx hb d_L_law_702 rfl (lv_at hl 1 rfl) ?_
  have hPc := hP.sub (ws' := [(f, .inr (4, [.ref w, .ref k, .ref tp, .int 0])), (w, .inr (3, [.ref wp, .ref wu, .ref wi, .int 2, .ref wc, .ref wt, .ref wx, .int 0, .ref wm, .int 0])), (ou, .inl (ko, 1, .inr (.inl (fun _ => 0))))]) [0, 1, 3] rfl
  have hKc := hK.sub (tys' := [(ko, .long)]) [0] rfl
  have hDc := hD.sub (ws' := [(f, .inr (4, [.ref w, .ref k, .ref tp, .int 0])), (w, .inr (3, [.ref wp, .ref wu, .ref wi, .int 2, .ref wc, .ref wt, .ref wx, .int 0, .ref wm, .int 0])), (ou, .inl (ko, 1, .inr (.inl (fun _ => 0))))]) [0, 1, 3] (by decide) rfl
  have hFc := va_free (wc := [(f, .inr (4, [.ref w, .ref k, .ref tp, .int 0])), (w, .inr (3, [.ref wp, .ref wu, .ref wi, .int 2, .ref wc, .ref wt, .ref wx, .int 0, .ref wm, .int 0])), (ou, .inl (ko, 1, .inr (.inl (fun _ => 0))))]) hD hS hA [0, 1, 3] rfl
  refine va_calli (vx_runSW (As := [.ref f, .int (xs 1), .int (xs 2), .ref ou]) (rest := []) ⟨hx, hb, hml, hown, hts⟩ (k_L_codeAt l hl9 dC dI f w k tp wp wu wi wc wt wx wm ((xs 1)) ((xs 2)) ou ko (fun _ => 0) H.size) (vx_cwSW 4 hts (gS hsub w_455 w_456 w_395 w_457) rfl rfl rfl (by decide +kernel) ⟨Nat.le_of_ble_eq_true rfl, Nat.le_of_ble_eq_true rfl⟩) ⟨bl_1010, fun U hU hW => ⟨rfl, by rw [hU], by rw [hU]; exact hPc, va_K.moved hW.alike hKc, hDc.weaken (fun _ _ _ _ => trivial), exP_go hex hS (fun q h => hFc q h) U hU hW⟩⟩ rfl rfl hl.1 rfl (lv_room (Nat.le_of_ble_eq_true rfl)) d_L_law_703 ⟨Nat.le_of_ble_eq_true rfl, Nat.le_of_ble_eq_true rfl⟩) hS (fun q _ h => hFc q h) hFc (fun r_2 u_3 t H1 locs ht hvm hw hB hz1 hk1 hS => ?_)
  obtain ⟨fo_4, hfo, hP1, hK1, hD1⟩ := hB
  rw [ht] at hP1
  have hK1 := va_K.moved hvm.symm hK1
  obtain ⟨hP, hD⟩ := va_join (wr := [(mo, .inr (5, [.int 0, .int 2, .ref m_above, .ref m_isFace, .int 0, .ref m_fieldClass, .ref m_fieldType, .ref m_fieldStatic, .int 0, .ref m_arguments, .ref m_argumentCount, .ref m_results, .ref m_sizes, .ref m_codes, .ref m_maxStack, .ref m_maxLocals, .ref m_handlers, .ref m_handlerFrom, .ref m_handlerTo, .ref m_handlerPlace, .ref m_handlerClass, .ref m_verified, .ref m_fault, .ref m_faultAt, .int 0, .ref m_tape, .ref m_begins, .ref m_high, .ref m_locals, .ref m_stacks, .ref m_due, .ref m_dead, .ref m_framed, .int 0, .int 0, .int 0, .int 0, .ref m_local, .ref m_before, .ref m_stack, .int 0, .ref m_given, .ref m_givenStack, .int 0, .int 0, .int 0, .ref m_cutFrom, .ref m_cutTo, .ref m_cutPlace, .ref m_cutClass, .int 0, .ref m_bytes, .ref m_was, .int 0, .ref m_now, .int 0, .ref m_ends, .ref m_statics, .int 0, .ref m_thingType, .ref m_thingSize, .ref m_elements, .ref m_slots, .int 0, .ref m_callMethod, .ref m_callPlace, .ref m_callHigh, .ref m_values, .ref m_piles, .int 0, .long 0]))]) (w1 := [(ou, .inl (ko, 1, .inr (.inl fo_4)))]) hP hD [0, 1, 3] [2] rfl rfl (by decide) (by decide) hk1 hFc hP1 hD1
  have hK := (hK.sub (tys' := [(ko, .long)]) [0] rfl).app hK1
  generalize H1 = H at hP hS ⊢
  have hP : va_P (dC, dI) vwCl [(mo, .inr (5, [.int 0, .int 2, .ref m_above, .ref m_isFace, .int 0, .ref m_fieldClass, .ref m_fieldType, .ref m_fieldStatic, .int 0, .ref m_arguments, .ref m_argumentCount, .ref m_results, .ref m_sizes, .ref m_codes, .ref m_maxStack, .ref m_maxLocals, .ref m_handlers, .ref m_handlerFrom, .ref m_handlerTo, .ref m_handlerPlace, .ref m_handlerClass, .ref m_verified, .ref m_fault, .ref m_faultAt, .int 0, .ref m_tape, .ref m_begins, .ref m_high, .ref m_locals, .ref m_stacks, .ref m_due, .ref m_dead, .ref m_framed, .int 0, .int 0, .int 0, .int 0, .ref m_local, .ref m_before, .ref m_stack, .int 0, .ref m_given, .ref m_givenStack, .int 0, .int 0, .int 0, .ref m_cutFrom, .ref m_cutTo, .ref m_cutPlace, .ref m_cutClass, .int 0, .ref m_bytes, .ref m_was, .int 0, .ref m_now, .int 0, .ref m_ends, .ref m_statics, .int 0, .ref m_thingType, .ref m_thingSize, .ref m_elements, .ref m_slots, .int 0, .ref m_callMethod, .ref m_callPlace, .ref m_callHigh, .ref m_values, .ref m_piles, .int 0, .long 0])), (ou, .inl (ko, 1, .inr (.inl fo_4)))] H := hP
  have hD : va_D (fun q : Nat => s.heap.size ≤ q) [(mo, .inr (5, [.int 0, .int 2, .ref m_above, .ref m_isFace, .int 0, .ref m_fieldClass, .ref m_fieldType, .ref m_fieldStatic, .int 0, .ref m_arguments, .ref m_argumentCount, .ref m_results, .ref m_sizes, .ref m_codes, .ref m_maxStack, .ref m_maxLocals, .ref m_handlers, .ref m_handlerFrom, .ref m_handlerTo, .ref m_handlerPlace, .ref m_handlerClass, .ref m_verified, .ref m_fault, .ref m_faultAt, .int 0, .ref m_tape, .ref m_begins, .ref m_high, .ref m_locals, .ref m_stacks, .ref m_due, .ref m_dead, .ref m_framed, .int 0, .int 0, .int 0, .int 0, .ref m_local, .ref m_before, .ref m_stack, .int 0, .ref m_given, .ref m_givenStack, .int 0, .int 0, .int 0, .ref m_cutFrom, .ref m_cutTo, .ref m_cutPlace, .ref m_cutClass, .int 0, .ref m_bytes, .ref m_was, .int 0, .ref m_now, .int 0, .ref m_ends, .ref m_statics, .int 0, .ref m_thingType, .ref m_thingSize, .ref m_elements, .ref m_slots, .int 0, .ref m_callMethod, .ref m_callPlace, .ref m_callHigh, .ref m_values, .ref m_piles, .int 0, .long 0])), (ou, .inl (ko, 1, .inr (.inl fo_4)))] := hD
  have hK : va_K (dC, dI) vwCl [(ko, .long), (ko, .long)] s := hK
  refine W.widen (k := 143) (n := 53751) (Nat.le_of_ble_eq_true rfl) (Nat.le_of_ble_eq_true rfl) ?_
  obtain rfl : r_2 = 1 := hw
  refine lv_istore (lv' := [(5, .int 1), (4, .int 0), (3, .ref ou), (2, .ref mo), (1, .ref f), (0, .ref b)]) hx hb d_L_law_706 hl (by decide) rfl (fun ls hl => ?_)
  refine lv_aload_n hx hb d_L_law_708 rfl (lv_at hl 3 rfl) ?_
  refine lv_aload_n hx hb d_L_law_709 rfl (lv_at hl 5 rfl) ?_
  refine lv_iload hx hb d_L_law_710 (lv_at hl 1 rfl) ?_
  refine lv_iconst (v := 1) hx hb d_L_law_712 (by decide) ?_
  refine lv_iadd hx hb d_L_law_713 ?_
  refine tp_i 1 (by decide) ?_
  refine va_sld hx hb hX hbl hbA hS (vp_in_iff.mpr (by decide)) d_L_law_714 ?_
  refine tp_i (xs 1) (congrArg xs (by decide)) ?_
  refine lv_aload_n hx hb d_L_law_715 rfl (lv_at hl 5 rfl) ?_
  refine lv_iload hx hb d_L_law_716 (lv_at hl 1 rfl) ?_
  refine lv_iconst (v := 2) hx hb d_L_law_718 (by decide) ?_
  refine lv_iadd hx hb d_L_law_719 ?_
  refine tp_i 2 (by decide) ?_
  refine va_sld hx hb hX hbl hbA hS (vp_in_iff.mpr (by decide)) d_L_law_720 ?_
  refine tp_i (xs 2) (congrArg xs (by decide)) ?_
  have hPc := hP.sub (ws' := [(mo, .inr (5, [.int 0, .int 2, .ref m_above, .ref m_isFace, .int 0, .ref m_fieldClass, .ref m_fieldType, .ref m_fieldStatic, .int 0, .ref m_arguments, .ref m_argumentCount, .ref m_results, .ref m_sizes, .ref m_codes, .ref m_maxStack, .ref m_maxLocals, .ref m_handlers, .ref m_handlerFrom, .ref m_handlerTo, .ref m_handlerPlace, .ref m_handlerClass, .ref m_verified, .ref m_fault, .ref m_faultAt, .int 0, .ref m_tape, .ref m_begins, .ref m_high, .ref m_locals, .ref m_stacks, .ref m_due, .ref m_dead, .ref m_framed, .int 0, .int 0, .int 0, .int 0, .ref m_local, .ref m_before, .ref m_stack, .int 0, .ref m_given, .ref m_givenStack, .int 0, .int 0, .int 0, .ref m_cutFrom, .ref m_cutTo, .ref m_cutPlace, .ref m_cutClass, .int 0, .ref m_bytes, .ref m_was, .int 0, .ref m_now, .int 0, .ref m_ends, .ref m_statics, .int 0, .ref m_thingType, .ref m_thingSize, .ref m_elements, .ref m_slots, .int 0, .ref m_callMethod, .ref m_callPlace, .ref m_callHigh, .ref m_values, .ref m_piles, .int 0, .long 0]))]) [0] rfl
  have hKc := hK.sub (tys' := []) [] rfl
  have hDc := hD.sub (ws' := [(mo, .inr (5, [.int 0, .int 2, .ref m_above, .ref m_isFace, .int 0, .ref m_fieldClass, .ref m_fieldType, .ref m_fieldStatic, .int 0, .ref m_arguments, .ref m_argumentCount, .ref m_results, .ref m_sizes, .ref m_codes, .ref m_maxStack, .ref m_maxLocals, .ref m_handlers, .ref m_handlerFrom, .ref m_handlerTo, .ref m_handlerPlace, .ref m_handlerClass, .ref m_verified, .ref m_fault, .ref m_faultAt, .int 0, .ref m_tape, .ref m_begins, .ref m_high, .ref m_locals, .ref m_stacks, .ref m_due, .ref m_dead, .ref m_framed, .int 0, .int 0, .int 0, .int 0, .ref m_local, .ref m_before, .ref m_stack, .int 0, .ref m_given, .ref m_givenStack, .int 0, .int 0, .int 0, .ref m_cutFrom, .ref m_cutTo, .ref m_cutPlace, .ref m_cutClass, .int 0, .ref m_bytes, .ref m_was, .int 0, .ref m_now, .int 0, .ref m_ends, .ref m_statics, .int 0, .ref m_thingType, .ref m_thingSize, .ref m_elements, .ref m_slots, .int 0, .ref m_callMethod, .ref m_callPlace, .ref m_callHigh, .ref m_values, .ref m_piles, .int 0, .long 0]))]) [0] (by decide) rfl
  have hFc := va_free (wc := [(mo, .inr (5, [.int 0, .int 2, .ref m_above, .ref m_isFace, .int 0, .ref m_fieldClass, .ref m_fieldType, .ref m_fieldStatic, .int 0, .ref m_arguments, .ref m_argumentCount, .ref m_results, .ref m_sizes, .ref m_codes, .ref m_maxStack, .ref m_maxLocals, .ref m_handlers, .ref m_handlerFrom, .ref m_handlerTo, .ref m_handlerPlace, .ref m_handlerClass, .ref m_verified, .ref m_fault, .ref m_faultAt, .int 0, .ref m_tape, .ref m_begins, .ref m_high, .ref m_locals, .ref m_stacks, .ref m_due, .ref m_dead, .ref m_framed, .int 0, .int 0, .int 0, .int 0, .ref m_local, .ref m_before, .ref m_stack, .int 0, .ref m_given, .ref m_givenStack, .int 0, .int 0, .int 0, .ref m_cutFrom, .ref m_cutTo, .ref m_cutPlace, .ref m_cutClass, .int 0, .ref m_bytes, .ref m_was, .int 0, .ref m_now, .int 0, .ref m_ends, .ref m_statics, .int 0, .ref m_thingType, .ref m_thingSize, .ref m_elements, .ref m_slots, .int 0, .ref m_callMethod, .ref m_callPlace, .ref m_callHigh, .ref m_values, .ref m_piles, .int 0, .long 0]))]) hD hS hA [0] rfl
  refine va_calli (va_runV (As := [.int (xs 1), .int (xs 2)]) (rest := []) ⟨hx, hb, hml, hown, hts⟩ (k_M_codeAt l dC dI mo m_above m_isFace m_fieldClass m_fieldType m_fieldStatic m_arguments m_argumentCount m_results m_sizes m_codes m_maxStack m_maxLocals m_handlers m_handlerFrom m_handlerTo m_handlerPlace m_handlerClass m_verified m_fault m_faultAt m_tape m_begins m_high m_locals m_stacks m_due m_dead m_framed m_local m_before m_stack m_given m_givenStack m_cutFrom m_cutTo m_cutPlace m_cutClass m_bytes m_was m_now m_ends m_statics m_thingType m_thingSize m_elements m_slots m_callMethod m_callPlace m_callHigh m_values m_piles ((xs 1)) ((xs 2)) H.size) (cwV 2 hts (gV hsub w_458 w_459 w_460 w_266 w_461) rfl rfl rfl (by decide +kernel) ⟨Nat.le_of_ble_eq_true rfl, Nat.le_of_ble_eq_true rfl⟩) ⟨bl_1000, va_recv hKc hPc (ci := 5) (q0 := 0) rfl rfl, fun U hU hW => ⟨rfl, by rw [hU], by rw [hU]; exact hPc, va_K.moved hW.alike hKc, hDc.weaken (fun _ _ _ _ => trivial)⟩⟩ rfl rfl hl.1 rfl (lv_room (Nat.le_of_ble_eq_true rfl)) d_L_law_721 ⟨Nat.le_of_ble_eq_true rfl, Nat.le_of_ble_eq_true rfl⟩) hS (fun q _ h => hFc q h) hFc (fun r_6 u_7 t H1 locs ht hvm hw hB hz1 hk1 hS => ?_)
  obtain ⟨fs_8, hfs, hP1, hK1, hD1⟩ := hB
  rw [ht] at hP1
  have hK1 := va_K.moved hvm.symm hK1
  obtain ⟨hP, hD⟩ := va_join (wr := [(ou, .inl (ko, 1, .inr (.inl fo_4)))]) (w1 := [(mo, .inr (5, fs_8))]) hP hD [0] [1] rfl rfl (by decide) (by decide) hk1 hFc hP1 hD1
  have hK := (hK.sub (tys' := [(ko, .long), (ko, .long)]) [0, 1] rfl).app hK1
  generalize H1 = H at hP hS ⊢
  have hP : va_P (dC, dI) vwCl [(ou, .inl (ko, 1, .inr (.inl fo_4))), (mo, .inr (5, fs_8))] H := hP
  have hD : va_D (fun q : Nat => s.heap.size ≤ q) [(ou, .inl (ko, 1, .inr (.inl fo_4))), (mo, .inr (5, fs_8))] := hD
  have hK : va_K (dC, dI) vwCl [(ko, .long), (ko, .long)] s := hK
  refine W.widen (k := 143) (n := 53751) (Nat.le_of_ble_eq_true rfl) (Nat.le_of_ble_eq_true rfl) ?_
  subst hw
  refine lv_istore (lv' := [(6, .int r_6), (5, .int 1), (4, .int 0), (3, .ref ou), (2, .ref mo), (1, .ref f), (0, .ref b)]) hx hb d_L_law_724 hl (by decide) rfl (fun ls hl => ?_)
  refine lv_aload_n hx hb d_L_law_726 rfl (lv_at hl 4 rfl) ?_
  have hPc := hP.sub (ws' := [(mo, .inr (5, fs_8))]) [1] rfl
  have hKc := hK.sub (tys' := []) [] rfl
  refine va_calli (va_runV (As := []) (rest := []) ⟨hx, hb, hml, hown, hts⟩ (k_M_thrown l dC dI mo fs_8 1 hfs) (cwV 0 hts (gV hsub w_401 w_402 w_403 w_266 w_404) rfl rfl rfl (by decide +kernel) ⟨Nat.le_of_ble_eq_true rfl, Nat.le_of_ble_eq_true rfl⟩) ⟨bl_0000, va_recv hKc hPc (ci := 5) (q0 := 0) rfl rfl, fun U hU hW => ⟨rfl, by rw [hU]; exact hPc, va_K.moved hW.alike hKc⟩⟩ rfl rfl hl.1 rfl (lv_room (Nat.le_of_ble_eq_true rfl)) d_L_law_727 ⟨Nat.le_of_ble_eq_true rfl, Nat.le_of_ble_eq_true rfl⟩) hS (fun q _ h => h.elim) (fun q h => h.elim) (fun r_10 u_11 t H1 locs ht hvm hw hB hz1 hk1 hS => ?_)
  have hP := ro_keep hP hk1
  generalize H1 = H at hP hS ⊢
  refine W.widen (k := 143) (n := 53751) (Nat.le_of_ble_eq_true rfl) (Nat.le_of_ble_eq_true rfl) ?_
  subst hw
  refine lv_iload hx hb d_L_law_730 (lv_at hl 1 rfl) ?_
  refine lv_icmp_eq (tgt := 737) hx hb d_L_law_732 (by decide) (fun c_12 => ?_) (fun c_12 => ?_)
  · skip
    refine lv_iload hx hb d_L_law_737 (lv_at hl 1 rfl) ?_
    refine lv_if_ne (tgt := 754) hx hb d_L_law_739 (by decide) (fun c_13 => ?_) (fun c_13 => ?_)
    · skip
      refine lv_goto (tgt := 1192) hx hb d_L_law_754 (by decide) ?_
      refine lv_iinc (v := 7) (lv' := [(4, .int 7), (6, .int r_6), (5, .int 1), (3, .ref ou), (2, .ref mo), (1, .ref f), (0, .ref b)]) hx hb d_L_law_1192 hl (k := 2) rfl (by decide) (by decide) rfl (fun ls hl => ?_)
      refine lv_goto (tgt := 23) hx hb d_L_law_1195 (by decide) ?_
      refine lv_iload hx hb d_L_law_23 (lv_at hl 0 rfl) ?_
      refine lv_aload_n hx hb d_L_law_25 rfl (lv_at hl 6 rfl) ?_
      refine va_slen hx hb hX hbl hbA hS d_L_law_26 ?_
      refine tp_i 7 (rfl) ?_
      refine lv_bipush (v := 7) hx hb d_L_law_27 (by decide) ?_
      refine lv_isub hx hb d_L_law_29 ?_
      refine tp_i 0 (by decide) ?_
      refine lv_icmp_gt (tgt := 1198) hx hb d_L_law_30 (by decide) (fun c_14 => ?_) (fun c_14 => ?_)
      · skip
        refine lv_iconst (v := 1) hx hb d_L_law_1198 (by decide) ?_
        refine va_forget (fun q hq => hS.2.2 q hq) ?_
        refine W.widen (k := 600002) (n := 7302232) (Nat.le_of_ble_eq_true rfl) (Nat.le_of_ble_eq_true rfl) ?_
        exact lw_ret hx hb hr hlocks d_L_law_1199
      · skip
        first | exact absurd c_14 (by decide) | exact absurd (by decide) c_14
    · skip
      first | exact absurd c_13 (by decide) | exact absurd (by decide) c_13
  · skip
    first | exact absurd c_12 (by decide) | exact absurd (by decide) c_12

set_option maxHeartbeats 4000000 in
set_option maxRecDepth 100000 in
theorem law_c9 {p : Program} {e : Env} {s : State} {m : MethodId} {below : List Frame} {meth : Method} {cx : Code} (l : Launch) (hl9 : l.stackTraces = false) {b : Nat} {xs : Nat → Int32} (C0 : lw_At p s m meth cx b 7 xs) (hex : exP (fun q : Nat => s.heap.size ≤ q) s) {dC : Nat → ClassId} {dI : Nat → Nat → Nat} {f w wp wu wi wc wt wx wm k kh ks kc9 tp mo m_above m_isFace m_fieldClass m_fieldType m_fieldStatic m_arguments m_argumentCount m_results m_sizes m_codes m_maxStack m_maxLocals m_handlers m_handlerFrom m_handlerTo m_handlerPlace m_handlerClass m_verified m_fault m_faultAt m_tape m_begins m_high m_locals m_stacks m_due m_dead m_framed m_local m_before m_stack m_given m_givenStack m_cutFrom m_cutTo m_cutPlace m_cutClass m_bytes m_was m_now m_ends m_statics m_thingType m_thingSize m_elements m_slots m_callMethod m_callPlace m_callHigh m_values m_piles ou : Nat} {kp  ku  ki  kc  kt  kx  km  kt9  k_above  k_isFace  k_fieldClass  k_fieldType  k_fieldStatic  k_arguments  k_argumentCount  k_results  k_tape  k_ends  ko : ClassId} {H : Heap} {locs : List Loc} (hK : va_K (dC, dI) vwCl [(ko, .long)] s) (hP : va_P (dC, dI) vwCl [(f, .inr (4, [.ref w, .ref k, .ref tp, .int 0])), (w, .inr (3, [.ref wp, .ref wu, .ref wi, .int 2, .ref wc, .ref wt, .ref wx, .int 0, .ref wm, .int 0])), (mo, .inr (5, [.int 0, .int 2, .ref m_above, .ref m_isFace, .int 0, .ref m_fieldClass, .ref m_fieldType, .ref m_fieldStatic, .int 0, .ref m_arguments, .ref m_argumentCount, .ref m_results, .ref m_sizes, .ref m_codes, .ref m_maxStack, .ref m_maxLocals, .ref m_handlers, .ref m_handlerFrom, .ref m_handlerTo, .ref m_handlerPlace, .ref m_handlerClass, .ref m_verified, .ref m_fault, .ref m_faultAt, .int 0, .ref m_tape, .ref m_begins, .ref m_high, .ref m_locals, .ref m_stacks, .ref m_due, .ref m_dead, .ref m_framed, .int 0, .int 0, .int 0, .int 0, .ref m_local, .ref m_before, .ref m_stack, .int 0, .ref m_given, .ref m_givenStack, .int 0, .int 0, .int 0, .ref m_cutFrom, .ref m_cutTo, .ref m_cutPlace, .ref m_cutClass, .int 0, .ref m_bytes, .ref m_was, .int 0, .ref m_now, .int 0, .ref m_ends, .ref m_statics, .int 0, .ref m_thingType, .ref m_thingSize, .ref m_elements, .ref m_slots, .int 0, .ref m_callMethod, .ref m_callPlace, .ref m_callHigh, .ref m_values, .ref m_piles, .int 0, .long 0])), (ou, .inl (ko, 1, .inr (.inl (fun _ => 0))))] H) (hD : va_D (fun q : Nat => s.heap.size ≤ q) [(f, .inr (4, [.ref w, .ref k, .ref tp, .int 0])), (w, .inr (3, [.ref wp, .ref wu, .ref wi, .int 2, .ref wc, .ref wt, .ref wx, .int 0, .ref wm, .int 0])), (mo, .inr (5, [.int 0, .int 2, .ref m_above, .ref m_isFace, .int 0, .ref m_fieldClass, .ref m_fieldType, .ref m_fieldStatic, .int 0, .ref m_arguments, .ref m_argumentCount, .ref m_results, .ref m_sizes, .ref m_codes, .ref m_maxStack, .ref m_maxLocals, .ref m_handlers, .ref m_handlerFrom, .ref m_handlerTo, .ref m_handlerPlace, .ref m_handlerClass, .ref m_verified, .ref m_fault, .ref m_faultAt, .int 0, .ref m_tape, .ref m_begins, .ref m_high, .ref m_locals, .ref m_stacks, .ref m_due, .ref m_dead, .ref m_framed, .int 0, .int 0, .int 0, .int 0, .ref m_local, .ref m_before, .ref m_stack, .int 0, .ref m_given, .ref m_givenStack, .int 0, .int 0, .int 0, .ref m_cutFrom, .ref m_cutTo, .ref m_cutPlace, .ref m_cutClass, .int 0, .ref m_bytes, .ref m_was, .int 0, .ref m_now, .int 0, .ref m_ends, .ref m_statics, .int 0, .ref m_thingType, .ref m_thingSize, .ref m_elements, .ref m_slots, .int 0, .ref m_callMethod, .ref m_callPlace, .ref m_callHigh, .ref m_values, .ref m_piles, .int 0, .long 0])), (ou, .inl (ko, 1, .inr (.inl (fun _ => 0))))]) (hS : va_S (fun q : Nat => s.heap.size ≤ q) s.heap H locs) {ls : Array Slot} (hl : lv_has ls 8 [(4, .int 0), (3, .ref ou), (2, .ref mo), (1, .ref f), (0, .ref b)]) : W p l e room_1 s m #[Value.ref b] below meth cx H locs 142 53745 (lw_Z below #[Value.ref b] s) (F0 m 757 ls []) := by
  obtain ⟨hx, hb, hr, hml, hown0, hts0, hX, hbl, hlocks, hgv⟩ := id C0
  have hown : s.vm.findClass "MapFramerLaw" = some m.cls := hown0
  have hts : ∀ w ∈ bigW, w.before #[Value.ref b] s = true := fun w h => hts0 w (List.mem_filter.mp h).1
  have hsub : ∀ w ∈ bigW, w ∈ bigW := fun _ h => h
  have hA : ∀ q : Nat, s.heap.size ≤ q → (fun q : Nat => s.heap.size ≤ q) q := fun _ h => h
  have hbA : ¬ (fun q : Nat => s.heap.size ≤ q) b := Nat.not_le.mpr hbl
  refine lv_aload_n hx hb d_L_law_757 rfl (lv_at hl 3 rfl) ?_
  refine lv_aload_n hx hb d_L_law_758 rfl (lv_at hl 4 rfl) ?_
  refine lv_iload hx hb d_L_law_759 (lv_at hl 0 rfl) ?_
  refine lv_iconst (v := 1) hx hb d_L_law_761 (by decide) ?_
  refine lv_iadd hx hb d_L_law_762 ?_
  refine tp_i 1 (by decide) ?_
  refine va_sld hx hb hX hbl hbA hS (vp_in_iff.mpr (by decide)) d_L_law_763 ?_
  refine tp_i (xs 1) (congrArg xs (by decide)) ?_
  refine lv_aload_n hx hb d_L_law_764 rfl (lv_at hl 4 rfl) ?_
  refine lv_iload hx hb d_L_law_765 (lv_at hl 0 rfl) ?_
  refine lv_iconst (v := 2) hx hb d_L_law_767 (by decide) ?_
  refine lv_iadd hx hb d_L_law_768 ?_
  refine tp_i 2 (by decide) ?_
  refine va_sld hx hb hX hbl hbA hS (vp_in_iff.mpr (by decide)) d_L_law_769 ?_
  refine tp_i (xs 2) (congrArg xs (by decide)) ?_
  refine lv_aload_n hx hb d_L_law_770 rfl (lv_at hl 1 rfl) ?_
  have hPc := hP.sub (ws' := [(f, .inr (4, [.ref w, .ref k, .ref tp, .int 0])), (w, .inr (3, [.ref wp, .ref wu, .ref wi, .int 2, .ref wc, .ref wt, .ref wx, .int 0, .ref wm, .int 0])), (ou, .inl (ko, 1, .inr (.inl (fun _ => 0))))]) [0, 1, 3] rfl
  have hKc := hK.sub (tys' := [(ko, .long)]) [0] rfl
  have hDc := hD.sub (ws' := [(f, .inr (4, [.ref w, .ref k, .ref tp, .int 0])), (w, .inr (3, [.ref wp, .ref wu, .ref wi, .int 2, .ref wc, .ref wt, .ref wx, .int 0, .ref wm, .int 0])), (ou, .inl (ko, 1, .inr (.inl (fun _ => 0))))]) [0, 1, 3] (by decide) rfl
  have hFc := va_free (wc := [(f, .inr (4, [.ref w, .ref k, .ref tp, .int 0])), (w, .inr (3, [.ref wp, .ref wu, .ref wi, .int 2, .ref wc, .ref wt, .ref wx, .int 0, .ref wm, .int 0])), (ou, .inl (ko, 1, .inr (.inl (fun _ => 0))))]) hD hS hA [0, 1, 3] rfl
  refine va_calli (vx_runSW (As := [.ref f, .int (xs 1), .int (xs 2), .ref ou]) (rest := []) ⟨hx, hb, hml, hown, hts⟩ (k_L_frameAt l hl9 dC dI f w k tp wp wu wi wc wt wx wm ((xs 1)) ((xs 2)) ou ko (fun _ => 0) H.size) (vx_cwSW 4 hts (gS hsub w_462 w_463 w_395 w_464) rfl rfl rfl (by decide +kernel) ⟨Nat.le_of_ble_eq_true rfl, Nat.le_of_ble_eq_true rfl⟩) ⟨bl_1010, fun U hU hW => ⟨rfl, by rw [hU], by rw [hU]; exact hPc, va_K.moved hW.alike hKc, hDc.weaken (fun _ _ _ _ => trivial), exP_go hex hS (fun q h => hFc q h) U hU hW⟩⟩ rfl rfl hl.1 rfl (lv_room (Nat.le_of_ble_eq_true rfl)) d_L_law_771 ⟨Nat.le_of_ble_eq_true rfl, Nat.le_of_ble_eq_true rfl⟩) hS (fun q _ h => hFc q h) hFc (fun r_2 u_3 t H1 locs ht hvm hw hB hz1 hk1 hS => ?_)
  obtain ⟨fo_4, hfo, hP1, hK1, hD1⟩ := hB
  rw [ht] at hP1
  have hK1 := va_K.moved hvm.symm hK1
  obtain ⟨hP, hD⟩ := va_join (wr := [(mo, .inr (5, [.int 0, .int 2, .ref m_above, .ref m_isFace, .int 0, .ref m_fieldClass, .ref m_fieldType, .ref m_fieldStatic, .int 0, .ref m_arguments, .ref m_argumentCount, .ref m_results, .ref m_sizes, .ref m_codes, .ref m_maxStack, .ref m_maxLocals, .ref m_handlers, .ref m_handlerFrom, .ref m_handlerTo, .ref m_handlerPlace, .ref m_handlerClass, .ref m_verified, .ref m_fault, .ref m_faultAt, .int 0, .ref m_tape, .ref m_begins, .ref m_high, .ref m_locals, .ref m_stacks, .ref m_due, .ref m_dead, .ref m_framed, .int 0, .int 0, .int 0, .int 0, .ref m_local, .ref m_before, .ref m_stack, .int 0, .ref m_given, .ref m_givenStack, .int 0, .int 0, .int 0, .ref m_cutFrom, .ref m_cutTo, .ref m_cutPlace, .ref m_cutClass, .int 0, .ref m_bytes, .ref m_was, .int 0, .ref m_now, .int 0, .ref m_ends, .ref m_statics, .int 0, .ref m_thingType, .ref m_thingSize, .ref m_elements, .ref m_slots, .int 0, .ref m_callMethod, .ref m_callPlace, .ref m_callHigh, .ref m_values, .ref m_piles, .int 0, .long 0]))]) (w1 := [(ou, .inl (ko, 1, .inr (.inl fo_4)))]) hP hD [0, 1, 3] [2] rfl rfl (by decide) (by decide) hk1 hFc hP1 hD1
  have hK := (hK.sub (tys' := [(ko, .long)]) [0] rfl).app hK1
  generalize H1 = H at hP hS ⊢
  have hP : va_P (dC, dI) vwCl [(mo, .inr (5, [.int 0, .int 2, .ref m_above, .ref m_isFace, .int 0, .ref m_fieldClass, .ref m_fieldType, .ref m_fieldStatic, .int 0, .ref m_arguments, .ref m_argumentCount, .ref m_results, .ref m_sizes, .ref m_codes, .ref m_maxStack, .ref m_maxLocals, .ref m_handlers, .ref m_handlerFrom, .ref m_handlerTo, .ref m_handlerPlace, .ref m_handlerClass, .ref m_verified, .ref m_fault, .ref m_faultAt, .int 0, .ref m_tape, .ref m_begins, .ref m_high, .ref m_locals, .ref m_stacks, .ref m_due, .ref m_dead, .ref m_framed, .int 0, .int 0, .int 0, .int 0, .ref m_local, .ref m_before, .ref m_stack, .int 0, .ref m_given, .ref m_givenStack, .int 0, .int 0, .int 0, .ref m_cutFrom, .ref m_cutTo, .ref m_cutPlace, .ref m_cutClass, .int 0, .ref m_bytes, .ref m_was, .int 0, .ref m_now, .int 0, .ref m_ends, .ref m_statics, .int 0, .ref m_thingType, .ref m_thingSize, .ref m_elements, .ref m_slots, .int 0, .ref m_callMethod, .ref m_callPlace, .ref m_callHigh, .ref m_values, .ref m_piles, .int 0, .long 0])), (ou, .inl (ko, 1, .inr (.inl fo_4)))] H := hP
  have hD : va_D (fun q : Nat => s.heap.size ≤ q) [(mo, .inr (5, [.int 0, .int 2, .ref m_above, .ref m_isFace, .int 0, .ref m_fieldClass, .ref m_fieldType, .ref m_fieldStatic, .int 0, .ref m_arguments, .ref m_argumentCount, .ref m_results, .ref m_sizes, .ref m_codes, .ref m_maxStack, .ref m_maxLocals, .ref m_handlers, .ref m_handlerFrom, .ref m_handlerTo, .ref m_handlerPlace, .ref m_handlerClass, .ref m_verified, .ref m_fault, .ref m_faultAt, .int 0, .ref m_tape, .ref m_begins, .ref m_high, .ref m_locals, .ref m_stacks, .ref m_due, .ref m_dead, .ref m_framed, .int 0, .int 0, .int 0, .int 0, .ref m_local, .ref m_before, .ref m_stack, .int 0, .ref m_given, .ref m_givenStack, .int 0, .int 0, .int 0, .ref m_cutFrom, .ref m_cutTo, .ref m_cutPlace, .ref m_cutClass, .int 0, .ref m_bytes, .ref m_was, .int 0, .ref m_now, .int 0, .ref m_ends, .ref m_statics, .int 0, .ref m_thingType, .ref m_thingSize, .ref m_elements, .ref m_slots, .int 0, .ref m_callMethod, .ref m_callPlace, .ref m_callHigh, .ref m_values, .ref m_piles, .int 0, .long 0])), (ou, .inl (ko, 1, .inr (.inl fo_4)))] := hD
  have hK : va_K (dC, dI) vwCl [(ko, .long), (ko, .long)] s := hK
  refine W.widen (k := 143) (n := 53751) (Nat.le_of_ble_eq_true rfl) (Nat.le_of_ble_eq_true rfl) ?_
  obtain rfl : r_2 = 1 := hw
  refine lv_istore (lv' := [(5, .int 1), (4, .int 0), (3, .ref ou), (2, .ref mo), (1, .ref f), (0, .ref b)]) hx hb d_L_law_774 hl (by decide) rfl (fun ls hl => ?_)
  refine lv_aload_n hx hb d_L_law_776 rfl (lv_at hl 3 rfl) ?_
  refine lv_aload_n hx hb d_L_law_777 rfl (lv_at hl 5 rfl) ?_
  refine lv_iload hx hb d_L_law_778 (lv_at hl 1 rfl) ?_
  refine lv_iconst (v := 1) hx hb d_L_law_780 (by decide) ?_
  refine lv_iadd hx hb d_L_law_781 ?_
  refine tp_i 1 (by decide) ?_
  refine va_sld hx hb hX hbl hbA hS (vp_in_iff.mpr (by decide)) d_L_law_782 ?_
  refine tp_i (xs 1) (congrArg xs (by decide)) ?_
  refine lv_aload_n hx hb d_L_law_783 rfl (lv_at hl 5 rfl) ?_
  refine lv_iload hx hb d_L_law_784 (lv_at hl 1 rfl) ?_
  refine lv_iconst (v := 2) hx hb d_L_law_786 (by decide) ?_
  refine lv_iadd hx hb d_L_law_787 ?_
  refine tp_i 2 (by decide) ?_
  refine va_sld hx hb hX hbl hbA hS (vp_in_iff.mpr (by decide)) d_L_law_788 ?_
  refine tp_i (xs 2) (congrArg xs (by decide)) ?_
  have hPc := hP.sub (ws' := [(mo, .inr (5, [.int 0, .int 2, .ref m_above, .ref m_isFace, .int 0, .ref m_fieldClass, .ref m_fieldType, .ref m_fieldStatic, .int 0, .ref m_arguments, .ref m_argumentCount, .ref m_results, .ref m_sizes, .ref m_codes, .ref m_maxStack, .ref m_maxLocals, .ref m_handlers, .ref m_handlerFrom, .ref m_handlerTo, .ref m_handlerPlace, .ref m_handlerClass, .ref m_verified, .ref m_fault, .ref m_faultAt, .int 0, .ref m_tape, .ref m_begins, .ref m_high, .ref m_locals, .ref m_stacks, .ref m_due, .ref m_dead, .ref m_framed, .int 0, .int 0, .int 0, .int 0, .ref m_local, .ref m_before, .ref m_stack, .int 0, .ref m_given, .ref m_givenStack, .int 0, .int 0, .int 0, .ref m_cutFrom, .ref m_cutTo, .ref m_cutPlace, .ref m_cutClass, .int 0, .ref m_bytes, .ref m_was, .int 0, .ref m_now, .int 0, .ref m_ends, .ref m_statics, .int 0, .ref m_thingType, .ref m_thingSize, .ref m_elements, .ref m_slots, .int 0, .ref m_callMethod, .ref m_callPlace, .ref m_callHigh, .ref m_values, .ref m_piles, .int 0, .long 0]))]) [0] rfl
  have hKc := hK.sub (tys' := []) [] rfl
  have hDc := hD.sub (ws' := [(mo, .inr (5, [.int 0, .int 2, .ref m_above, .ref m_isFace, .int 0, .ref m_fieldClass, .ref m_fieldType, .ref m_fieldStatic, .int 0, .ref m_arguments, .ref m_argumentCount, .ref m_results, .ref m_sizes, .ref m_codes, .ref m_maxStack, .ref m_maxLocals, .ref m_handlers, .ref m_handlerFrom, .ref m_handlerTo, .ref m_handlerPlace, .ref m_handlerClass, .ref m_verified, .ref m_fault, .ref m_faultAt, .int 0, .ref m_tape, .ref m_begins, .ref m_high, .ref m_locals, .ref m_stacks, .ref m_due, .ref m_dead, .ref m_framed, .int 0, .int 0, .int 0, .int 0, .ref m_local, .ref m_before, .ref m_stack, .int 0, .ref m_given, .ref m_givenStack, .int 0, .int 0, .int 0, .ref m_cutFrom, .ref m_cutTo, .ref m_cutPlace, .ref m_cutClass, .int 0, .ref m_bytes, .ref m_was, .int 0, .ref m_now, .int 0, .ref m_ends, .ref m_statics, .int 0, .ref m_thingType, .ref m_thingSize, .ref m_elements, .ref m_slots, .int 0, .ref m_callMethod, .ref m_callPlace, .ref m_callHigh, .ref m_values, .ref m_piles, .int 0, .long 0]))]) [0] (by decide) rfl
  have hFc := va_free (wc := [(mo, .inr (5, [.int 0, .int 2, .ref m_above, .ref m_isFace, .int 0, .ref m_fieldClass, .ref m_fieldType, .ref m_fieldStatic, .int 0, .ref m_arguments, .ref m_argumentCount, .ref m_results, .ref m_sizes, .ref m_codes, .ref m_maxStack, .ref m_maxLocals, .ref m_handlers, .ref m_handlerFrom, .ref m_handlerTo, .ref m_handlerPlace, .ref m_handlerClass, .ref m_verified, .ref m_fault, .ref m_faultAt, .int 0, .ref m_tape, .ref m_begins, .ref m_high, .ref m_locals, .ref m_stacks, .ref m_due, .ref m_dead, .ref m_framed, .int 0, .int 0, .int 0, .int 0, .ref m_local, .ref m_before, .ref m_stack, .int 0, .ref m_given, .ref m_givenStack, .int 0, .int 0, .int 0, .ref m_cutFrom, .ref m_cutTo, .ref m_cutPlace, .ref m_cutClass, .int 0, .ref m_bytes, .ref m_was, .int 0, .ref m_now, .int 0, .ref m_ends, .ref m_statics, .int 0, .ref m_thingType, .ref m_thingSize, .ref m_elements, .ref m_slots, .int 0, .ref m_callMethod, .ref m_callPlace, .ref m_callHigh, .ref m_values, .ref m_piles, .int 0, .long 0]))]) hD hS hA [0] rfl
  refine va_calli (va_runV (As := [.int (xs 1), .int (xs 2)]) (rest := []) ⟨hx, hb, hml, hown, hts⟩ (k_M_frameAt l dC dI mo m_above m_isFace m_fieldClass m_fieldType m_fieldStatic m_arguments m_argumentCount m_results m_sizes m_codes m_maxStack m_maxLocals m_handlers m_handlerFrom m_handlerTo m_handlerPlace m_handlerClass m_verified m_fault m_faultAt m_tape m_begins m_high m_locals m_stacks m_due m_dead m_framed m_local m_before m_stack m_given m_givenStack m_cutFrom m_cutTo m_cutPlace m_cutClass m_bytes m_was m_now m_ends m_statics m_thingType m_thingSize m_elements m_slots m_callMethod m_callPlace m_callHigh m_values m_piles ((xs 1)) ((xs 2)) H.size) (cwV 2 hts (gV hsub w_465 w_466 w_467 w_266 w_468) rfl rfl rfl (by decide +kernel) ⟨Nat.le_of_ble_eq_true rfl, Nat.le_of_ble_eq_true rfl⟩) ⟨bl_1000, va_recv hKc hPc (ci := 5) (q0 := 0) rfl rfl, fun U hU hW => ⟨rfl, by rw [hU], by rw [hU]; exact hPc, va_K.moved hW.alike hKc, hDc.weaken (fun _ _ _ _ => trivial)⟩⟩ rfl rfl hl.1 rfl (lv_room (Nat.le_of_ble_eq_true rfl)) d_L_law_789 ⟨Nat.le_of_ble_eq_true rfl, Nat.le_of_ble_eq_true rfl⟩) hS (fun q _ h => hFc q h) hFc (fun r_6 u_7 t H1 locs ht hvm hw hB hz1 hk1 hS => ?_)
  obtain ⟨fs_8, hfs, hP1, hK1, hD1⟩ := hB
  rw [ht] at hP1
  have hK1 := va_K.moved hvm.symm hK1
  obtain ⟨hP, hD⟩ := va_join (wr := [(ou, .inl (ko, 1, .inr (.inl fo_4)))]) (w1 := [(mo, .inr (5, fs_8))]) hP hD [0] [1] rfl rfl (by decide) (by decide) hk1 hFc hP1 hD1
  have hK := (hK.sub (tys' := [(ko, .long), (ko, .long)]) [0, 1] rfl).app hK1
  generalize H1 = H at hP hS ⊢
  have hP : va_P (dC, dI) vwCl [(ou, .inl (ko, 1, .inr (.inl fo_4))), (mo, .inr (5, fs_8))] H := hP
  have hD : va_D (fun q : Nat => s.heap.size ≤ q) [(ou, .inl (ko, 1, .inr (.inl fo_4))), (mo, .inr (5, fs_8))] := hD
  have hK : va_K (dC, dI) vwCl [(ko, .long), (ko, .long)] s := hK
  refine W.widen (k := 143) (n := 53751) (Nat.le_of_ble_eq_true rfl) (Nat.le_of_ble_eq_true rfl) ?_
  subst hw
  refine lv_istore (lv' := [(6, .int r_6), (5, .int 1), (4, .int 0), (3, .ref ou), (2, .ref mo), (1, .ref f), (0, .ref b)]) hx hb d_L_law_792 hl (by decide) rfl (fun ls hl => ?_)
  refine lv_aload_n hx hb d_L_law_794 rfl (lv_at hl 4 rfl) ?_
  have hPc := hP.sub (ws' := [(mo, .inr (5, fs_8))]) [1] rfl
  have hKc := hK.sub (tys' := []) [] rfl
  refine va_calli (va_runV (As := []) (rest := []) ⟨hx, hb, hml, hown, hts⟩ (k_M_thrown l dC dI mo fs_8 1 hfs) (cwV 0 hts (gV hsub w_401 w_402 w_403 w_266 w_404) rfl rfl rfl (by decide +kernel) ⟨Nat.le_of_ble_eq_true rfl, Nat.le_of_ble_eq_true rfl⟩) ⟨bl_0000, va_recv hKc hPc (ci := 5) (q0 := 0) rfl rfl, fun U hU hW => ⟨rfl, by rw [hU]; exact hPc, va_K.moved hW.alike hKc⟩⟩ rfl rfl hl.1 rfl (lv_room (Nat.le_of_ble_eq_true rfl)) d_L_law_795 ⟨Nat.le_of_ble_eq_true rfl, Nat.le_of_ble_eq_true rfl⟩) hS (fun q _ h => h.elim) (fun q h => h.elim) (fun r_10 u_11 t H1 locs ht hvm hw hB hz1 hk1 hS => ?_)
  have hP := ro_keep hP hk1
  generalize H1 = H at hP hS ⊢
  refine W.widen (k := 143) (n := 53751) (Nat.le_of_ble_eq_true rfl) (Nat.le_of_ble_eq_true rfl) ?_
  subst hw
  refine lv_iload hx hb d_L_law_798 (lv_at hl 1 rfl) ?_
  refine lv_icmp_eq (tgt := 805) hx hb d_L_law_800 (by decide) (fun c_12 => ?_) (fun c_12 => ?_)
  · skip
    refine lv_iload hx hb d_L_law_805 (lv_at hl 1 rfl) ?_
    refine lv_if_ne (tgt := 822) hx hb d_L_law_807 (by decide) (fun c_13 => ?_) (fun c_13 => ?_)
    · skip
      refine lv_goto (tgt := 1192) hx hb d_L_law_822 (by decide) ?_
      refine lv_iinc (v := 7) (lv' := [(4, .int 7), (6, .int r_6), (5, .int 1), (3, .ref ou), (2, .ref mo), (1, .ref f), (0, .ref b)]) hx hb d_L_law_1192 hl (k := 2) rfl (by decide) (by decide) rfl (fun ls hl => ?_)
      refine lv_goto (tgt := 23) hx hb d_L_law_1195 (by decide) ?_
      refine lv_iload hx hb d_L_law_23 (lv_at hl 0 rfl) ?_
      refine lv_aload_n hx hb d_L_law_25 rfl (lv_at hl 6 rfl) ?_
      refine va_slen hx hb hX hbl hbA hS d_L_law_26 ?_
      refine tp_i 7 (rfl) ?_
      refine lv_bipush (v := 7) hx hb d_L_law_27 (by decide) ?_
      refine lv_isub hx hb d_L_law_29 ?_
      refine tp_i 0 (by decide) ?_
      refine lv_icmp_gt (tgt := 1198) hx hb d_L_law_30 (by decide) (fun c_14 => ?_) (fun c_14 => ?_)
      · skip
        refine lv_iconst (v := 1) hx hb d_L_law_1198 (by decide) ?_
        refine va_forget (fun q hq => hS.2.2 q hq) ?_
        refine W.widen (k := 600002) (n := 7302232) (Nat.le_of_ble_eq_true rfl) (Nat.le_of_ble_eq_true rfl) ?_
        exact lw_ret hx hb hr hlocks d_L_law_1199
      · skip
        first | exact absurd c_14 (by decide) | exact absurd (by decide) c_14
    · skip
      first | exact absurd c_13 (by decide) | exact absurd (by decide) c_13
  · skip
    first | exact absurd c_12 (by decide) | exact absurd (by decide) c_12

set_option maxHeartbeats 4000000 in
set_option maxRecDepth 100000 in
theorem law_c10 {p : Program} {e : Env} {s : State} {m : MethodId} {below : List Frame} {meth : Method} {cx : Code} (l : Launch) (hl9 : l.stackTraces = false) {b : Nat} {xs : Nat → Int32} (C0 : lw_At p s m meth cx b 7 xs) (hex : exP (fun q : Nat => s.heap.size ≤ q) s) {dC : Nat → ClassId} {dI : Nat → Nat → Nat} {f w wp wu wi wc wt wx wm k kh ks kc9 tp mo m_above m_isFace m_fieldClass m_fieldType m_fieldStatic m_arguments m_argumentCount m_results m_sizes m_codes m_maxStack m_maxLocals m_handlers m_handlerFrom m_handlerTo m_handlerPlace m_handlerClass m_verified m_fault m_faultAt m_tape m_begins m_high m_locals m_stacks m_due m_dead m_framed m_local m_before m_stack m_given m_givenStack m_cutFrom m_cutTo m_cutPlace m_cutClass m_bytes m_was m_now m_ends m_statics m_thingType m_thingSize m_elements m_slots m_callMethod m_callPlace m_callHigh m_values m_piles ou : Nat} {kp  ku  ki  kc  kt  kx  km  kt9  k_above  k_isFace  k_fieldClass  k_fieldType  k_fieldStatic  k_arguments  k_argumentCount  k_results  k_tape  k_ends  ko : ClassId} {H : Heap} {locs : List Loc} (hK : va_K (dC, dI) vwCl [(ko, .long)] s) (hP : va_P (dC, dI) vwCl [(f, .inr (4, [.ref w, .ref k, .ref tp, .int 0])), (w, .inr (3, [.ref wp, .ref wu, .ref wi, .int 2, .ref wc, .ref wt, .ref wx, .int 0, .ref wm, .int 0])), (mo, .inr (5, [.int 0, .int 2, .ref m_above, .ref m_isFace, .int 0, .ref m_fieldClass, .ref m_fieldType, .ref m_fieldStatic, .int 0, .ref m_arguments, .ref m_argumentCount, .ref m_results, .ref m_sizes, .ref m_codes, .ref m_maxStack, .ref m_maxLocals, .ref m_handlers, .ref m_handlerFrom, .ref m_handlerTo, .ref m_handlerPlace, .ref m_handlerClass, .ref m_verified, .ref m_fault, .ref m_faultAt, .int 0, .ref m_tape, .ref m_begins, .ref m_high, .ref m_locals, .ref m_stacks, .ref m_due, .ref m_dead, .ref m_framed, .int 0, .int 0, .int 0, .int 0, .ref m_local, .ref m_before, .ref m_stack, .int 0, .ref m_given, .ref m_givenStack, .int 0, .int 0, .int 0, .ref m_cutFrom, .ref m_cutTo, .ref m_cutPlace, .ref m_cutClass, .int 0, .ref m_bytes, .ref m_was, .int 0, .ref m_now, .int 0, .ref m_ends, .ref m_statics, .int 0, .ref m_thingType, .ref m_thingSize, .ref m_elements, .ref m_slots, .int 0, .ref m_callMethod, .ref m_callPlace, .ref m_callHigh, .ref m_values, .ref m_piles, .int 0, .long 0])), (ou, .inl (ko, 1, .inr (.inl (fun _ => 0))))] H) (hD : va_D (fun q : Nat => s.heap.size ≤ q) [(f, .inr (4, [.ref w, .ref k, .ref tp, .int 0])), (w, .inr (3, [.ref wp, .ref wu, .ref wi, .int 2, .ref wc, .ref wt, .ref wx, .int 0, .ref wm, .int 0])), (mo, .inr (5, [.int 0, .int 2, .ref m_above, .ref m_isFace, .int 0, .ref m_fieldClass, .ref m_fieldType, .ref m_fieldStatic, .int 0, .ref m_arguments, .ref m_argumentCount, .ref m_results, .ref m_sizes, .ref m_codes, .ref m_maxStack, .ref m_maxLocals, .ref m_handlers, .ref m_handlerFrom, .ref m_handlerTo, .ref m_handlerPlace, .ref m_handlerClass, .ref m_verified, .ref m_fault, .ref m_faultAt, .int 0, .ref m_tape, .ref m_begins, .ref m_high, .ref m_locals, .ref m_stacks, .ref m_due, .ref m_dead, .ref m_framed, .int 0, .int 0, .int 0, .int 0, .ref m_local, .ref m_before, .ref m_stack, .int 0, .ref m_given, .ref m_givenStack, .int 0, .int 0, .int 0, .ref m_cutFrom, .ref m_cutTo, .ref m_cutPlace, .ref m_cutClass, .int 0, .ref m_bytes, .ref m_was, .int 0, .ref m_now, .int 0, .ref m_ends, .ref m_statics, .int 0, .ref m_thingType, .ref m_thingSize, .ref m_elements, .ref m_slots, .int 0, .ref m_callMethod, .ref m_callPlace, .ref m_callHigh, .ref m_values, .ref m_piles, .int 0, .long 0])), (ou, .inl (ko, 1, .inr (.inl (fun _ => 0))))]) (hS : va_S (fun q : Nat => s.heap.size ≤ q) s.heap H locs) {ls : Array Slot} (hl : lv_has ls 8 [(4, .int 0), (3, .ref ou), (2, .ref mo), (1, .ref f), (0, .ref b)]) : W p l e room_1 s m #[Value.ref b] below meth cx H locs 142 53745 (lw_Z below #[Value.ref b] s) (F0 m 825 ls []) := by
  obtain ⟨hx, hb, hr, hml, hown0, hts0, hX, hbl, hlocks, hgv⟩ := id C0
  have hown : s.vm.findClass "MapFramerLaw" = some m.cls := hown0
  have hts : ∀ w ∈ bigW, w.before #[Value.ref b] s = true := fun w h => hts0 w (List.mem_filter.mp h).1
  have hsub : ∀ w ∈ bigW, w ∈ bigW := fun _ h => h
  have hA : ∀ q : Nat, s.heap.size ≤ q → (fun q : Nat => s.heap.size ≤ q) q := fun _ h => h
  have hbA : ¬ (fun q : Nat => s.heap.size ≤ q) b := Nat.not_le.mpr hbl
  refine lv_aload_n hx hb d_L_law_825 rfl (lv_at hl 3 rfl) ?_
  refine lv_aload_n hx hb d_L_law_826 rfl (lv_at hl 4 rfl) ?_
  refine lv_iload hx hb d_L_law_827 (lv_at hl 0 rfl) ?_
  refine lv_iconst (v := 1) hx hb d_L_law_829 (by decide) ?_
  refine lv_iadd hx hb d_L_law_830 ?_
  refine tp_i 1 (by decide) ?_
  refine va_sld hx hb hX hbl hbA hS (vp_in_iff.mpr (by decide)) d_L_law_831 ?_
  refine tp_i (xs 1) (congrArg xs (by decide)) ?_
  refine lv_aload_n hx hb d_L_law_832 rfl (lv_at hl 4 rfl) ?_
  refine lv_iload hx hb d_L_law_833 (lv_at hl 0 rfl) ?_
  refine lv_iconst (v := 2) hx hb d_L_law_835 (by decide) ?_
  refine lv_iadd hx hb d_L_law_836 ?_
  refine tp_i 2 (by decide) ?_
  refine va_sld hx hb hX hbl hbA hS (vp_in_iff.mpr (by decide)) d_L_law_837 ?_
  refine tp_i (xs 2) (congrArg xs (by decide)) ?_
  refine lv_aload_n hx hb d_L_law_838 rfl (lv_at hl 4 rfl) ?_
  refine lv_iload hx hb d_L_law_839 (lv_at hl 0 rfl) ?_
  refine lv_iconst (v := 3) hx hb d_L_law_841 (by decide) ?_
  refine lv_iadd hx hb d_L_law_842 ?_
  refine tp_i 3 (by decide) ?_
  refine va_sld hx hb hX hbl hbA hS (vp_in_iff.mpr (by decide)) d_L_law_843 ?_
  refine tp_i (xs 3) (congrArg xs (by decide)) ?_
  refine lv_aload_n hx hb d_L_law_844 rfl (lv_at hl 1 rfl) ?_
  have hPc := hP.sub (ws' := [(f, .inr (4, [.ref w, .ref k, .ref tp, .int 0])), (w, .inr (3, [.ref wp, .ref wu, .ref wi, .int 2, .ref wc, .ref wt, .ref wx, .int 0, .ref wm, .int 0])), (ou, .inl (ko, 1, .inr (.inl (fun _ => 0))))]) [0, 1, 3] rfl
  have hKc := hK.sub (tys' := [(ko, .long)]) [0] rfl
  have hDc := hD.sub (ws' := [(f, .inr (4, [.ref w, .ref k, .ref tp, .int 0])), (w, .inr (3, [.ref wp, .ref wu, .ref wi, .int 2, .ref wc, .ref wt, .ref wx, .int 0, .ref wm, .int 0])), (ou, .inl (ko, 1, .inr (.inl (fun _ => 0))))]) [0, 1, 3] (by decide) rfl
  have hFc := va_free (wc := [(f, .inr (4, [.ref w, .ref k, .ref tp, .int 0])), (w, .inr (3, [.ref wp, .ref wu, .ref wi, .int 2, .ref wc, .ref wt, .ref wx, .int 0, .ref wm, .int 0])), (ou, .inl (ko, 1, .inr (.inl (fun _ => 0))))]) hD hS hA [0, 1, 3] rfl
  refine va_calli (vx_runSW (As := [.ref f, .int (xs 1), .int (xs 2), .int (xs 3), .ref ou]) (rest := []) ⟨hx, hb, hml, hown, hts⟩ (k_L_handlerAt l hl9 dC dI f w k tp wp wu wi wc wt wx wm ((xs 1)) ((xs 2)) ((xs 3)) ou ko (fun _ => 0) H.size) (vx_cwSW 5 hts (gS hsub w_469 w_470 w_395 w_471) rfl rfl rfl (by decide +kernel) ⟨Nat.le_of_ble_eq_true rfl, Nat.le_of_ble_eq_true rfl⟩) ⟨bl_1010, fun U hU hW => ⟨rfl, by rw [hU], by rw [hU]; exact hPc, va_K.moved hW.alike hKc, hDc.weaken (fun _ _ _ _ => trivial), exP_go hex hS (fun q h => hFc q h) U hU hW⟩⟩ rfl rfl hl.1 rfl (lv_room (Nat.le_of_ble_eq_true rfl)) d_L_law_845 ⟨Nat.le_of_ble_eq_true rfl, Nat.le_of_ble_eq_true rfl⟩) hS (fun q _ h => hFc q h) hFc (fun r_2 u_3 t H1 locs ht hvm hw hB hz1 hk1 hS => ?_)
  obtain ⟨fo_4, hfo, hP1, hK1, hD1⟩ := hB
  rw [ht] at hP1
  have hK1 := va_K.moved hvm.symm hK1
  obtain ⟨hP, hD⟩ := va_join (wr := [(mo, .inr (5, [.int 0, .int 2, .ref m_above, .ref m_isFace, .int 0, .ref m_fieldClass, .ref m_fieldType, .ref m_fieldStatic, .int 0, .ref m_arguments, .ref m_argumentCount, .ref m_results, .ref m_sizes, .ref m_codes, .ref m_maxStack, .ref m_maxLocals, .ref m_handlers, .ref m_handlerFrom, .ref m_handlerTo, .ref m_handlerPlace, .ref m_handlerClass, .ref m_verified, .ref m_fault, .ref m_faultAt, .int 0, .ref m_tape, .ref m_begins, .ref m_high, .ref m_locals, .ref m_stacks, .ref m_due, .ref m_dead, .ref m_framed, .int 0, .int 0, .int 0, .int 0, .ref m_local, .ref m_before, .ref m_stack, .int 0, .ref m_given, .ref m_givenStack, .int 0, .int 0, .int 0, .ref m_cutFrom, .ref m_cutTo, .ref m_cutPlace, .ref m_cutClass, .int 0, .ref m_bytes, .ref m_was, .int 0, .ref m_now, .int 0, .ref m_ends, .ref m_statics, .int 0, .ref m_thingType, .ref m_thingSize, .ref m_elements, .ref m_slots, .int 0, .ref m_callMethod, .ref m_callPlace, .ref m_callHigh, .ref m_values, .ref m_piles, .int 0, .long 0]))]) (w1 := [(ou, .inl (ko, 1, .inr (.inl fo_4)))]) hP hD [0, 1, 3] [2] rfl rfl (by decide) (by decide) hk1 hFc hP1 hD1
  have hK := (hK.sub (tys' := [(ko, .long)]) [0] rfl).app hK1
  generalize H1 = H at hP hS ⊢
  have hP : va_P (dC, dI) vwCl [(mo, .inr (5, [.int 0, .int 2, .ref m_above, .ref m_isFace, .int 0, .ref m_fieldClass, .ref m_fieldType, .ref m_fieldStatic, .int 0, .ref m_arguments, .ref m_argumentCount, .ref m_results, .ref m_sizes, .ref m_codes, .ref m_maxStack, .ref m_maxLocals, .ref m_handlers, .ref m_handlerFrom, .ref m_handlerTo, .ref m_handlerPlace, .ref m_handlerClass, .ref m_verified, .ref m_fault, .ref m_faultAt, .int 0, .ref m_tape, .ref m_begins, .ref m_high, .ref m_locals, .ref m_stacks, .ref m_due, .ref m_dead, .ref m_framed, .int 0, .int 0, .int 0, .int 0, .ref m_local, .ref m_before, .ref m_stack, .int 0, .ref m_given, .ref m_givenStack, .int 0, .int 0, .int 0, .ref m_cutFrom, .ref m_cutTo, .ref m_cutPlace, .ref m_cutClass, .int 0, .ref m_bytes, .ref m_was, .int 0, .ref m_now, .int 0, .ref m_ends, .ref m_statics, .int 0, .ref m_thingType, .ref m_thingSize, .ref m_elements, .ref m_slots, .int 0, .ref m_callMethod, .ref m_callPlace, .ref m_callHigh, .ref m_values, .ref m_piles, .int 0, .long 0])), (ou, .inl (ko, 1, .inr (.inl fo_4)))] H := hP
  have hD : va_D (fun q : Nat => s.heap.size ≤ q) [(mo, .inr (5, [.int 0, .int 2, .ref m_above, .ref m_isFace, .int 0, .ref m_fieldClass, .ref m_fieldType, .ref m_fieldStatic, .int 0, .ref m_arguments, .ref m_argumentCount, .ref m_results, .ref m_sizes, .ref m_codes, .ref m_maxStack, .ref m_maxLocals, .ref m_handlers, .ref m_handlerFrom, .ref m_handlerTo, .ref m_handlerPlace, .ref m_handlerClass, .ref m_verified, .ref m_fault, .ref m_faultAt, .int 0, .ref m_tape, .ref m_begins, .ref m_high, .ref m_locals, .ref m_stacks, .ref m_due, .ref m_dead, .ref m_framed, .int 0, .int 0, .int 0, .int 0, .ref m_local, .ref m_before, .ref m_stack, .int 0, .ref m_given, .ref m_givenStack, .int 0, .int 0, .int 0, .ref m_cutFrom, .ref m_cutTo, .ref m_cutPlace, .ref m_cutClass, .int 0, .ref m_bytes, .ref m_was, .int 0, .ref m_now, .int 0, .ref m_ends, .ref m_statics, .int 0, .ref m_thingType, .ref m_thingSize, .ref m_elements, .ref m_slots, .int 0, .ref m_callMethod, .ref m_callPlace, .ref m_callHigh, .ref m_values, .ref m_piles, .int 0, .long 0])), (ou, .inl (ko, 1, .inr (.inl fo_4)))] := hD
  have hK : va_K (dC, dI) vwCl [(ko, .long), (ko, .long)] s := hK
  refine W.widen (k := 143) (n := 53751) (Nat.le_of_ble_eq_true rfl) (Nat.le_of_ble_eq_true rfl) ?_
  obtain rfl : r_2 = 1 := hw
  refine lv_istore (lv' := [(5, .int 1), (4, .int 0), (3, .ref ou), (2, .ref mo), (1, .ref f), (0, .ref b)]) hx hb d_L_law_848 hl (by decide) rfl (fun ls hl => ?_)
  refine lv_aload_n hx hb d_L_law_850 rfl (lv_at hl 3 rfl) ?_
  refine lv_aload_n hx hb d_L_law_851 rfl (lv_at hl 5 rfl) ?_
  refine lv_iload hx hb d_L_law_852 (lv_at hl 1 rfl) ?_
  refine lv_iconst (v := 1) hx hb d_L_law_854 (by decide) ?_
  refine lv_iadd hx hb d_L_law_855 ?_
  refine tp_i 1 (by decide) ?_
  refine va_sld hx hb hX hbl hbA hS (vp_in_iff.mpr (by decide)) d_L_law_856 ?_
  refine tp_i (xs 1) (congrArg xs (by decide)) ?_
  refine lv_aload_n hx hb d_L_law_857 rfl (lv_at hl 5 rfl) ?_
  refine lv_iload hx hb d_L_law_858 (lv_at hl 1 rfl) ?_
  refine lv_iconst (v := 2) hx hb d_L_law_860 (by decide) ?_
  refine lv_iadd hx hb d_L_law_861 ?_
  refine tp_i 2 (by decide) ?_
  refine va_sld hx hb hX hbl hbA hS (vp_in_iff.mpr (by decide)) d_L_law_862 ?_
  refine tp_i (xs 2) (congrArg xs (by decide)) ?_
  refine lv_aload_n hx hb d_L_law_863 rfl (lv_at hl 5 rfl) ?_
  refine lv_iload hx hb d_L_law_864 (lv_at hl 1 rfl) ?_
  refine lv_iconst (v := 3) hx hb d_L_law_866 (by decide) ?_
  refine lv_iadd hx hb d_L_law_867 ?_
  refine tp_i 3 (by decide) ?_
  refine va_sld hx hb hX hbl hbA hS (vp_in_iff.mpr (by decide)) d_L_law_868 ?_
  refine tp_i (xs 3) (congrArg xs (by decide)) ?_
  have hPc := hP.sub (ws' := [(mo, .inr (5, [.int 0, .int 2, .ref m_above, .ref m_isFace, .int 0, .ref m_fieldClass, .ref m_fieldType, .ref m_fieldStatic, .int 0, .ref m_arguments, .ref m_argumentCount, .ref m_results, .ref m_sizes, .ref m_codes, .ref m_maxStack, .ref m_maxLocals, .ref m_handlers, .ref m_handlerFrom, .ref m_handlerTo, .ref m_handlerPlace, .ref m_handlerClass, .ref m_verified, .ref m_fault, .ref m_faultAt, .int 0, .ref m_tape, .ref m_begins, .ref m_high, .ref m_locals, .ref m_stacks, .ref m_due, .ref m_dead, .ref m_framed, .int 0, .int 0, .int 0, .int 0, .ref m_local, .ref m_before, .ref m_stack, .int 0, .ref m_given, .ref m_givenStack, .int 0, .int 0, .int 0, .ref m_cutFrom, .ref m_cutTo, .ref m_cutPlace, .ref m_cutClass, .int 0, .ref m_bytes, .ref m_was, .int 0, .ref m_now, .int 0, .ref m_ends, .ref m_statics, .int 0, .ref m_thingType, .ref m_thingSize, .ref m_elements, .ref m_slots, .int 0, .ref m_callMethod, .ref m_callPlace, .ref m_callHigh, .ref m_values, .ref m_piles, .int 0, .long 0]))]) [0] rfl
  have hKc := hK.sub (tys' := []) [] rfl
  have hDc := hD.sub (ws' := [(mo, .inr (5, [.int 0, .int 2, .ref m_above, .ref m_isFace, .int 0, .ref m_fieldClass, .ref m_fieldType, .ref m_fieldStatic, .int 0, .ref m_arguments, .ref m_argumentCount, .ref m_results, .ref m_sizes, .ref m_codes, .ref m_maxStack, .ref m_maxLocals, .ref m_handlers, .ref m_handlerFrom, .ref m_handlerTo, .ref m_handlerPlace, .ref m_handlerClass, .ref m_verified, .ref m_fault, .ref m_faultAt, .int 0, .ref m_tape, .ref m_begins, .ref m_high, .ref m_locals, .ref m_stacks, .ref m_due, .ref m_dead, .ref m_framed, .int 0, .int 0, .int 0, .int 0, .ref m_local, .ref m_before, .ref m_stack, .int 0, .ref m_given, .ref m_givenStack, .int 0, .int 0, .int 0, .ref m_cutFrom, .ref m_cutTo, .ref m_cutPlace, .ref m_cutClass, .int 0, .ref m_bytes, .ref m_was, .int 0, .ref m_now, .int 0, .ref m_ends, .ref m_statics, .int 0, .ref m_thingType, .ref m_thingSize, .ref m_elements, .ref m_slots, .int 0, .ref m_callMethod, .ref m_callPlace, .ref m_callHigh, .ref m_values, .ref m_piles, .int 0, .long 0]))]) [0] (by decide) rfl
  have hFc := va_free (wc := [(mo, .inr (5, [.int 0, .int 2, .ref m_above, .ref m_isFace, .int 0, .ref m_fieldClass, .ref m_fieldType, .ref m_fieldStatic, .int 0, .ref m_arguments, .ref m_argumentCount, .ref m_results, .ref m_sizes, .ref m_codes, .ref m_maxStack, .ref m_maxLocals, .ref m_handlers, .ref m_handlerFrom, .ref m_handlerTo, .ref m_handlerPlace, .ref m_handlerClass, .ref m_verified, .ref m_fault, .ref m_faultAt, .int 0, .ref m_tape, .ref m_begins, .ref m_high, .ref m_locals, .ref m_stacks, .ref m_due, .ref m_dead, .ref m_framed, .int 0, .int 0, .int 0, .int 0, .ref m_local, .ref m_before, .ref m_stack, .int 0, .ref m_given, .ref m_givenStack, .int 0, .int 0, .int 0, .ref m_cutFrom, .ref m_cutTo, .ref m_cutPlace, .ref m_cutClass, .int 0, .ref m_bytes, .ref m_was, .int 0, .ref m_now, .int 0, .ref m_ends, .ref m_statics, .int 0, .ref m_thingType, .ref m_thingSize, .ref m_elements, .ref m_slots, .int 0, .ref m_callMethod, .ref m_callPlace, .ref m_callHigh, .ref m_values, .ref m_piles, .int 0, .long 0]))]) hD hS hA [0] rfl
  refine va_calli (va_runV (As := [.int (xs 1), .int (xs 2), .int (xs 3)]) (rest := []) ⟨hx, hb, hml, hown, hts⟩ (k_M_handlerAt l dC dI mo m_above m_isFace m_fieldClass m_fieldType m_fieldStatic m_arguments m_argumentCount m_results m_sizes m_codes m_maxStack m_maxLocals m_handlers m_handlerFrom m_handlerTo m_handlerPlace m_handlerClass m_verified m_fault m_faultAt m_tape m_begins m_high m_locals m_stacks m_due m_dead m_framed m_local m_before m_stack m_given m_givenStack m_cutFrom m_cutTo m_cutPlace m_cutClass m_bytes m_was m_now m_ends m_statics m_thingType m_thingSize m_elements m_slots m_callMethod m_callPlace m_callHigh m_values m_piles ((xs 1)) ((xs 2)) ((xs 3)) H.size) (cwV 3 hts (gV hsub w_472 w_473 w_474 w_266 w_475) rfl rfl rfl (by decide +kernel) ⟨Nat.le_of_ble_eq_true rfl, Nat.le_of_ble_eq_true rfl⟩) ⟨bl_1000, va_recv hKc hPc (ci := 5) (q0 := 0) rfl rfl, fun U hU hW => ⟨rfl, by rw [hU], by rw [hU]; exact hPc, va_K.moved hW.alike hKc, hDc.weaken (fun _ _ _ _ => trivial)⟩⟩ rfl rfl hl.1 rfl (lv_room (Nat.le_of_ble_eq_true rfl)) d_L_law_869 ⟨Nat.le_of_ble_eq_true rfl, Nat.le_of_ble_eq_true rfl⟩) hS (fun q _ h => hFc q h) hFc (fun r_6 u_7 t H1 locs ht hvm hw hB hz1 hk1 hS => ?_)
  obtain ⟨fs_8, hfs, hP1, hK1, hD1⟩ := hB
  rw [ht] at hP1
  have hK1 := va_K.moved hvm.symm hK1
  obtain ⟨hP, hD⟩ := va_join (wr := [(ou, .inl (ko, 1, .inr (.inl fo_4)))]) (w1 := [(mo, .inr (5, fs_8))]) hP hD [0] [1] rfl rfl (by decide) (by decide) hk1 hFc hP1 hD1
  have hK := (hK.sub (tys' := [(ko, .long), (ko, .long)]) [0, 1] rfl).app hK1
  generalize H1 = H at hP hS ⊢
  have hP : va_P (dC, dI) vwCl [(ou, .inl (ko, 1, .inr (.inl fo_4))), (mo, .inr (5, fs_8))] H := hP
  have hD : va_D (fun q : Nat => s.heap.size ≤ q) [(ou, .inl (ko, 1, .inr (.inl fo_4))), (mo, .inr (5, fs_8))] := hD
  have hK : va_K (dC, dI) vwCl [(ko, .long), (ko, .long)] s := hK
  refine W.widen (k := 143) (n := 53751) (Nat.le_of_ble_eq_true rfl) (Nat.le_of_ble_eq_true rfl) ?_
  subst hw
  refine lv_istore (lv' := [(6, .int r_6), (5, .int 1), (4, .int 0), (3, .ref ou), (2, .ref mo), (1, .ref f), (0, .ref b)]) hx hb d_L_law_872 hl (by decide) rfl (fun ls hl => ?_)
  refine lv_aload_n hx hb d_L_law_874 rfl (lv_at hl 4 rfl) ?_
  have hPc := hP.sub (ws' := [(mo, .inr (5, fs_8))]) [1] rfl
  have hKc := hK.sub (tys' := []) [] rfl
  refine va_calli (va_runV (As := []) (rest := []) ⟨hx, hb, hml, hown, hts⟩ (k_M_thrown l dC dI mo fs_8 1 hfs) (cwV 0 hts (gV hsub w_401 w_402 w_403 w_266 w_404) rfl rfl rfl (by decide +kernel) ⟨Nat.le_of_ble_eq_true rfl, Nat.le_of_ble_eq_true rfl⟩) ⟨bl_0000, va_recv hKc hPc (ci := 5) (q0 := 0) rfl rfl, fun U hU hW => ⟨rfl, by rw [hU]; exact hPc, va_K.moved hW.alike hKc⟩⟩ rfl rfl hl.1 rfl (lv_room (Nat.le_of_ble_eq_true rfl)) d_L_law_875 ⟨Nat.le_of_ble_eq_true rfl, Nat.le_of_ble_eq_true rfl⟩) hS (fun q _ h => h.elim) (fun q h => h.elim) (fun r_10 u_11 t H1 locs ht hvm hw hB hz1 hk1 hS => ?_)
  have hP := ro_keep hP hk1
  generalize H1 = H at hP hS ⊢
  refine W.widen (k := 143) (n := 53751) (Nat.le_of_ble_eq_true rfl) (Nat.le_of_ble_eq_true rfl) ?_
  subst hw
  refine lv_iload hx hb d_L_law_878 (lv_at hl 1 rfl) ?_
  refine lv_icmp_eq (tgt := 885) hx hb d_L_law_880 (by decide) (fun c_12 => ?_) (fun c_12 => ?_)
  · skip
    refine lv_iload hx hb d_L_law_885 (lv_at hl 1 rfl) ?_
    refine lv_if_ne (tgt := 902) hx hb d_L_law_887 (by decide) (fun c_13 => ?_) (fun c_13 => ?_)
    · skip
      refine lv_goto (tgt := 1192) hx hb d_L_law_902 (by decide) ?_
      refine lv_iinc (v := 7) (lv' := [(4, .int 7), (6, .int r_6), (5, .int 1), (3, .ref ou), (2, .ref mo), (1, .ref f), (0, .ref b)]) hx hb d_L_law_1192 hl (k := 2) rfl (by decide) (by decide) rfl (fun ls hl => ?_)
      refine lv_goto (tgt := 23) hx hb d_L_law_1195 (by decide) ?_
      refine lv_iload hx hb d_L_law_23 (lv_at hl 0 rfl) ?_
      refine lv_aload_n hx hb d_L_law_25 rfl (lv_at hl 6 rfl) ?_
      refine va_slen hx hb hX hbl hbA hS d_L_law_26 ?_
      refine tp_i 7 (rfl) ?_
      refine lv_bipush (v := 7) hx hb d_L_law_27 (by decide) ?_
      refine lv_isub hx hb d_L_law_29 ?_
      refine tp_i 0 (by decide) ?_
      refine lv_icmp_gt (tgt := 1198) hx hb d_L_law_30 (by decide) (fun c_14 => ?_) (fun c_14 => ?_)
      · skip
        refine lv_iconst (v := 1) hx hb d_L_law_1198 (by decide) ?_
        refine va_forget (fun q hq => hS.2.2 q hq) ?_
        refine W.widen (k := 600002) (n := 7302232) (Nat.le_of_ble_eq_true rfl) (Nat.le_of_ble_eq_true rfl) ?_
        exact lw_ret hx hb hr hlocks d_L_law_1199
      · skip
        first | exact absurd c_14 (by decide) | exact absurd (by decide) c_14
    · skip
      first | exact absurd c_13 (by decide) | exact absurd (by decide) c_13
  · skip
    first | exact absurd c_12 (by decide) | exact absurd (by decide) c_12

set_option maxHeartbeats 4000000 in
set_option maxRecDepth 100000 in
theorem law_c11 {p : Program} {e : Env} {s : State} {m : MethodId} {below : List Frame} {meth : Method} {cx : Code} (l : Launch) (hl9 : l.stackTraces = false) {b : Nat} {xs : Nat → Int32} (C0 : lw_At p s m meth cx b 7 xs) (hex : exP (fun q : Nat => s.heap.size ≤ q) s) {dC : Nat → ClassId} {dI : Nat → Nat → Nat} {f w wp wu wi wc wt wx wm k kh ks kc9 tp mo m_above m_isFace m_fieldClass m_fieldType m_fieldStatic m_arguments m_argumentCount m_results m_sizes m_codes m_maxStack m_maxLocals m_handlers m_handlerFrom m_handlerTo m_handlerPlace m_handlerClass m_verified m_fault m_faultAt m_tape m_begins m_high m_locals m_stacks m_due m_dead m_framed m_local m_before m_stack m_given m_givenStack m_cutFrom m_cutTo m_cutPlace m_cutClass m_bytes m_was m_now m_ends m_statics m_thingType m_thingSize m_elements m_slots m_callMethod m_callPlace m_callHigh m_values m_piles ou : Nat} {kp  ku  ki  kc  kt  kx  km  kt9  k_above  k_isFace  k_fieldClass  k_fieldType  k_fieldStatic  k_arguments  k_argumentCount  k_results  k_tape  k_ends  ko : ClassId} {H : Heap} {locs : List Loc} (hK : va_K (dC, dI) vwCl [(ko, .long)] s) (hP : va_P (dC, dI) vwCl [(f, .inr (4, [.ref w, .ref k, .ref tp, .int 0])), (w, .inr (3, [.ref wp, .ref wu, .ref wi, .int 2, .ref wc, .ref wt, .ref wx, .int 0, .ref wm, .int 0])), (mo, .inr (5, [.int 0, .int 2, .ref m_above, .ref m_isFace, .int 0, .ref m_fieldClass, .ref m_fieldType, .ref m_fieldStatic, .int 0, .ref m_arguments, .ref m_argumentCount, .ref m_results, .ref m_sizes, .ref m_codes, .ref m_maxStack, .ref m_maxLocals, .ref m_handlers, .ref m_handlerFrom, .ref m_handlerTo, .ref m_handlerPlace, .ref m_handlerClass, .ref m_verified, .ref m_fault, .ref m_faultAt, .int 0, .ref m_tape, .ref m_begins, .ref m_high, .ref m_locals, .ref m_stacks, .ref m_due, .ref m_dead, .ref m_framed, .int 0, .int 0, .int 0, .int 0, .ref m_local, .ref m_before, .ref m_stack, .int 0, .ref m_given, .ref m_givenStack, .int 0, .int 0, .int 0, .ref m_cutFrom, .ref m_cutTo, .ref m_cutPlace, .ref m_cutClass, .int 0, .ref m_bytes, .ref m_was, .int 0, .ref m_now, .int 0, .ref m_ends, .ref m_statics, .int 0, .ref m_thingType, .ref m_thingSize, .ref m_elements, .ref m_slots, .int 0, .ref m_callMethod, .ref m_callPlace, .ref m_callHigh, .ref m_values, .ref m_piles, .int 0, .long 0])), (ou, .inl (ko, 1, .inr (.inl (fun _ => 0))))] H) (hD : va_D (fun q : Nat => s.heap.size ≤ q) [(f, .inr (4, [.ref w, .ref k, .ref tp, .int 0])), (w, .inr (3, [.ref wp, .ref wu, .ref wi, .int 2, .ref wc, .ref wt, .ref wx, .int 0, .ref wm, .int 0])), (mo, .inr (5, [.int 0, .int 2, .ref m_above, .ref m_isFace, .int 0, .ref m_fieldClass, .ref m_fieldType, .ref m_fieldStatic, .int 0, .ref m_arguments, .ref m_argumentCount, .ref m_results, .ref m_sizes, .ref m_codes, .ref m_maxStack, .ref m_maxLocals, .ref m_handlers, .ref m_handlerFrom, .ref m_handlerTo, .ref m_handlerPlace, .ref m_handlerClass, .ref m_verified, .ref m_fault, .ref m_faultAt, .int 0, .ref m_tape, .ref m_begins, .ref m_high, .ref m_locals, .ref m_stacks, .ref m_due, .ref m_dead, .ref m_framed, .int 0, .int 0, .int 0, .int 0, .ref m_local, .ref m_before, .ref m_stack, .int 0, .ref m_given, .ref m_givenStack, .int 0, .int 0, .int 0, .ref m_cutFrom, .ref m_cutTo, .ref m_cutPlace, .ref m_cutClass, .int 0, .ref m_bytes, .ref m_was, .int 0, .ref m_now, .int 0, .ref m_ends, .ref m_statics, .int 0, .ref m_thingType, .ref m_thingSize, .ref m_elements, .ref m_slots, .int 0, .ref m_callMethod, .ref m_callPlace, .ref m_callHigh, .ref m_values, .ref m_piles, .int 0, .long 0])), (ou, .inl (ko, 1, .inr (.inl (fun _ => 0))))]) (hS : va_S (fun q : Nat => s.heap.size ≤ q) s.heap H locs) {ls : Array Slot} (hl : lv_has ls 8 [(4, .int 0), (3, .ref ou), (2, .ref mo), (1, .ref f), (0, .ref b)]) : W p l e room_1 s m #[Value.ref b] below meth cx H locs 142 53745 (lw_Z below #[Value.ref b] s) (F0 m 905 ls []) := by
  obtain ⟨hx, hb, hr, hml, hown0, hts0, hX, hbl, hlocks, hgv⟩ := id C0
  have hown : s.vm.findClass "MapFramerLaw" = some m.cls := hown0
  have hts : ∀ w ∈ bigW, w.before #[Value.ref b] s = true := fun w h => hts0 w (List.mem_filter.mp h).1
  have hsub : ∀ w ∈ bigW, w ∈ bigW := fun _ h => h
  have hA : ∀ q : Nat, s.heap.size ≤ q → (fun q : Nat => s.heap.size ≤ q) q := fun _ h => h
  have hbA : ¬ (fun q : Nat => s.heap.size ≤ q) b := Nat.not_le.mpr hbl
  refine lv_aload_n hx hb d_L_law_905 rfl (lv_at hl 3 rfl) ?_
  refine lv_aload_n hx hb d_L_law_906 rfl (lv_at hl 4 rfl) ?_
  refine lv_iload hx hb d_L_law_907 (lv_at hl 0 rfl) ?_
  refine lv_iconst (v := 1) hx hb d_L_law_909 (by decide) ?_
  refine lv_iadd hx hb d_L_law_910 ?_
  refine tp_i 1 (by decide) ?_
  refine va_sld hx hb hX hbl hbA hS (vp_in_iff.mpr (by decide)) d_L_law_911 ?_
  refine tp_i (xs 1) (congrArg xs (by decide)) ?_
  refine lv_aload_n hx hb d_L_law_912 rfl (lv_at hl 4 rfl) ?_
  refine lv_iload hx hb d_L_law_913 (lv_at hl 0 rfl) ?_
  refine lv_iconst (v := 2) hx hb d_L_law_915 (by decide) ?_
  refine lv_iadd hx hb d_L_law_916 ?_
  refine tp_i 2 (by decide) ?_
  refine va_sld hx hb hX hbl hbA hS (vp_in_iff.mpr (by decide)) d_L_law_917 ?_
  refine tp_i (xs 2) (congrArg xs (by decide)) ?_
  refine lv_aload_n hx hb d_L_law_918 rfl (lv_at hl 4 rfl) ?_
  refine lv_iload hx hb d_L_law_919 (lv_at hl 0 rfl) ?_
  refine lv_iconst (v := 3) hx hb d_L_law_921 (by decide) ?_
  refine lv_iadd hx hb d_L_law_922 ?_
  refine tp_i 3 (by decide) ?_
  refine va_sld hx hb hX hbl hbA hS (vp_in_iff.mpr (by decide)) d_L_law_923 ?_
  refine tp_i (xs 3) (congrArg xs (by decide)) ?_
  refine lv_aload_n hx hb d_L_law_924 rfl (lv_at hl 1 rfl) ?_
  have hPc := hP.sub (ws' := [(f, .inr (4, [.ref w, .ref k, .ref tp, .int 0])), (w, .inr (3, [.ref wp, .ref wu, .ref wi, .int 2, .ref wc, .ref wt, .ref wx, .int 0, .ref wm, .int 0])), (ou, .inl (ko, 1, .inr (.inl (fun _ => 0))))]) [0, 1, 3] rfl
  have hKc := hK.sub (tys' := [(ko, .long)]) [0] rfl
  have hDc := hD.sub (ws' := [(f, .inr (4, [.ref w, .ref k, .ref tp, .int 0])), (w, .inr (3, [.ref wp, .ref wu, .ref wi, .int 2, .ref wc, .ref wt, .ref wx, .int 0, .ref wm, .int 0])), (ou, .inl (ko, 1, .inr (.inl (fun _ => 0))))]) [0, 1, 3] (by decide) rfl
  have hFc := va_free (wc := [(f, .inr (4, [.ref w, .ref k, .ref tp, .int 0])), (w, .inr (3, [.ref wp, .ref wu, .ref wi, .int 2, .ref wc, .ref wt, .ref wx, .int 0, .ref wm, .int 0])), (ou, .inl (ko, 1, .inr (.inl (fun _ => 0))))]) hD hS hA [0, 1, 3] rfl
  refine va_calli (vx_runSW (As := [.ref f, .int (xs 1), .int (xs 2), .int (xs 3), .ref ou]) (rest := []) ⟨hx, hb, hml, hown, hts⟩ (k_L_typeAt l hl9 dC dI f w k tp wp wu wi wc wt wx wm ((xs 1)) ((xs 2)) ((xs 3)) ou ko (fun _ => 0) H.size) (vx_cwSW 5 hts (gS hsub w_476 w_477 w_395 w_478) rfl rfl rfl (by decide +kernel) ⟨Nat.le_of_ble_eq_true rfl, Nat.le_of_ble_eq_true rfl⟩) ⟨bl_1010, fun U hU hW => ⟨rfl, by rw [hU], by rw [hU]; exact hPc, va_K.moved hW.alike hKc, hDc.weaken (fun _ _ _ _ => trivial), exP_go hex hS (fun q h => hFc q h) U hU hW⟩⟩ rfl rfl hl.1 rfl (lv_room (Nat.le_of_ble_eq_true rfl)) d_L_law_925 ⟨Nat.le_of_ble_eq_true rfl, Nat.le_of_ble_eq_true rfl⟩) hS (fun q _ h => hFc q h) hFc (fun r_2 u_3 t H1 locs ht hvm hw hB hz1 hk1 hS => ?_)
  obtain ⟨fo_4, hfo, hP1, hK1, hD1⟩ := hB
  rw [ht] at hP1
  have hK1 := va_K.moved hvm.symm hK1
  obtain ⟨hP, hD⟩ := va_join (wr := [(mo, .inr (5, [.int 0, .int 2, .ref m_above, .ref m_isFace, .int 0, .ref m_fieldClass, .ref m_fieldType, .ref m_fieldStatic, .int 0, .ref m_arguments, .ref m_argumentCount, .ref m_results, .ref m_sizes, .ref m_codes, .ref m_maxStack, .ref m_maxLocals, .ref m_handlers, .ref m_handlerFrom, .ref m_handlerTo, .ref m_handlerPlace, .ref m_handlerClass, .ref m_verified, .ref m_fault, .ref m_faultAt, .int 0, .ref m_tape, .ref m_begins, .ref m_high, .ref m_locals, .ref m_stacks, .ref m_due, .ref m_dead, .ref m_framed, .int 0, .int 0, .int 0, .int 0, .ref m_local, .ref m_before, .ref m_stack, .int 0, .ref m_given, .ref m_givenStack, .int 0, .int 0, .int 0, .ref m_cutFrom, .ref m_cutTo, .ref m_cutPlace, .ref m_cutClass, .int 0, .ref m_bytes, .ref m_was, .int 0, .ref m_now, .int 0, .ref m_ends, .ref m_statics, .int 0, .ref m_thingType, .ref m_thingSize, .ref m_elements, .ref m_slots, .int 0, .ref m_callMethod, .ref m_callPlace, .ref m_callHigh, .ref m_values, .ref m_piles, .int 0, .long 0]))]) (w1 := [(ou, .inl (ko, 1, .inr (.inl fo_4)))]) hP hD [0, 1, 3] [2] rfl rfl (by decide) (by decide) hk1 hFc hP1 hD1
  have hK := (hK.sub (tys' := [(ko, .long)]) [0] rfl).app hK1
  generalize H1 = H at hP hS ⊢
  have hP : va_P (dC, dI) vwCl [(mo, .inr (5, [.int 0, .int 2, .ref m_above, .ref m_isFace, .int 0, .ref m_fieldClass, .ref m_fieldType, .ref m_fieldStatic, .int 0, .ref m_arguments, .ref m_argumentCount, .ref m_results, .ref m_sizes, .ref m_codes, .ref m_maxStack, .ref m_maxLocals, .ref m_handlers, .ref m_handlerFrom, .ref m_handlerTo, .ref m_handlerPlace, .ref m_handlerClass, .ref m_verified, .ref m_fault, .ref m_faultAt, .int 0, .ref m_tape, .ref m_begins, .ref m_high, .ref m_locals, .ref m_stacks, .ref m_due, .ref m_dead, .ref m_framed, .int 0, .int 0, .int 0, .int 0, .ref m_local, .ref m_before, .ref m_stack, .int 0, .ref m_given, .ref m_givenStack, .int 0, .int 0, .int 0, .ref m_cutFrom, .ref m_cutTo, .ref m_cutPlace, .ref m_cutClass, .int 0, .ref m_bytes, .ref m_was, .int 0, .ref m_now, .int 0, .ref m_ends, .ref m_statics, .int 0, .ref m_thingType, .ref m_thingSize, .ref m_elements, .ref m_slots, .int 0, .ref m_callMethod, .ref m_callPlace, .ref m_callHigh, .ref m_values, .ref m_piles, .int 0, .long 0])), (ou, .inl (ko, 1, .inr (.inl fo_4)))] H := hP
  have hD : va_D (fun q : Nat => s.heap.size ≤ q) [(mo, .inr (5, [.int 0, .int 2, .ref m_above, .ref m_isFace, .int 0, .ref m_fieldClass, .ref m_fieldType, .ref m_fieldStatic, .int 0, .ref m_arguments, .ref m_argumentCount, .ref m_results, .ref m_sizes, .ref m_codes, .ref m_maxStack, .ref m_maxLocals, .ref m_handlers, .ref m_handlerFrom, .ref m_handlerTo, .ref m_handlerPlace, .ref m_handlerClass, .ref m_verified, .ref m_fault, .ref m_faultAt, .int 0, .ref m_tape, .ref m_begins, .ref m_high, .ref m_locals, .ref m_stacks, .ref m_due, .ref m_dead, .ref m_framed, .int 0, .int 0, .int 0, .int 0, .ref m_local, .ref m_before, .ref m_stack, .int 0, .ref m_given, .ref m_givenStack, .int 0, .int 0, .int 0, .ref m_cutFrom, .ref m_cutTo, .ref m_cutPlace, .ref m_cutClass, .int 0, .ref m_bytes, .ref m_was, .int 0, .ref m_now, .int 0, .ref m_ends, .ref m_statics, .int 0, .ref m_thingType, .ref m_thingSize, .ref m_elements, .ref m_slots, .int 0, .ref m_callMethod, .ref m_callPlace, .ref m_callHigh, .ref m_values, .ref m_piles, .int 0, .long 0])), (ou, .inl (ko, 1, .inr (.inl fo_4)))] := hD
  have hK : va_K (dC, dI) vwCl [(ko, .long), (ko, .long)] s := hK
  refine W.widen (k := 143) (n := 53751) (Nat.le_of_ble_eq_true rfl) (Nat.le_of_ble_eq_true rfl) ?_
  obtain rfl : r_2 = 1 := hw
  refine lv_istore (lv' := [(5, .int 1), (4, .int 0), (3, .ref ou), (2, .ref mo), (1, .ref f), (0, .ref b)]) hx hb d_L_law_928 hl (by decide) rfl (fun ls hl => ?_)
  refine lv_aload_n hx hb d_L_law_930 rfl (lv_at hl 3 rfl) ?_
  refine lv_aload_n hx hb d_L_law_931 rfl (lv_at hl 5 rfl) ?_
  refine lv_iload hx hb d_L_law_932 (lv_at hl 1 rfl) ?_
  refine lv_iconst (v := 1) hx hb d_L_law_934 (by decide) ?_
  refine lv_iadd hx hb d_L_law_935 ?_
  refine tp_i 1 (by decide) ?_
  refine va_sld hx hb hX hbl hbA hS (vp_in_iff.mpr (by decide)) d_L_law_936 ?_
  refine tp_i (xs 1) (congrArg xs (by decide)) ?_
  refine lv_aload_n hx hb d_L_law_937 rfl (lv_at hl 5 rfl) ?_
  refine lv_iload hx hb d_L_law_938 (lv_at hl 1 rfl) ?_
  refine lv_iconst (v := 2) hx hb d_L_law_940 (by decide) ?_
  refine lv_iadd hx hb d_L_law_941 ?_
  refine tp_i 2 (by decide) ?_
  refine va_sld hx hb hX hbl hbA hS (vp_in_iff.mpr (by decide)) d_L_law_942 ?_
  refine tp_i (xs 2) (congrArg xs (by decide)) ?_
  refine lv_aload_n hx hb d_L_law_943 rfl (lv_at hl 5 rfl) ?_
  refine lv_iload hx hb d_L_law_944 (lv_at hl 1 rfl) ?_
  refine lv_iconst (v := 3) hx hb d_L_law_946 (by decide) ?_
  refine lv_iadd hx hb d_L_law_947 ?_
  refine tp_i 3 (by decide) ?_
  refine va_sld hx hb hX hbl hbA hS (vp_in_iff.mpr (by decide)) d_L_law_948 ?_
  refine tp_i (xs 3) (congrArg xs (by decide)) ?_
  have hPc := hP.sub (ws' := [(mo, .inr (5, [.int 0, .int 2, .ref m_above, .ref m_isFace, .int 0, .ref m_fieldClass, .ref m_fieldType, .ref m_fieldStatic, .int 0, .ref m_arguments, .ref m_argumentCount, .ref m_results, .ref m_sizes, .ref m_codes, .ref m_maxStack, .ref m_maxLocals, .ref m_handlers, .ref m_handlerFrom, .ref m_handlerTo, .ref m_handlerPlace, .ref m_handlerClass, .ref m_verified, .ref m_fault, .ref m_faultAt, .int 0, .ref m_tape, .ref m_begins, .ref m_high, .ref m_locals, .ref m_stacks, .ref m_due, .ref m_dead, .ref m_framed, .int 0, .int 0, .int 0, .int 0, .ref m_local, .ref m_before, .ref m_stack, .int 0, .ref m_given, .ref m_givenStack, .int 0, .int 0, .int 0, .ref m_cutFrom, .ref m_cutTo, .ref m_cutPlace, .ref m_cutClass, .int 0, .ref m_bytes, .ref m_was, .int 0, .ref m_now, .int 0, .ref m_ends, .ref m_statics, .int 0, .ref m_thingType, .ref m_thingSize, .ref m_elements, .ref m_slots, .int 0, .ref m_callMethod, .ref m_callPlace, .ref m_callHigh, .ref m_values, .ref m_piles, .int 0, .long 0]))]) [0] rfl
  have hKc := hK.sub (tys' := []) [] rfl
  have hDc := hD.sub (ws' := [(mo, .inr (5, [.int 0, .int 2, .ref m_above, .ref m_isFace, .int 0, .ref m_fieldClass, .ref m_fieldType, .ref m_fieldStatic, .int 0, .ref m_arguments, .ref m_argumentCount, .ref m_results, .ref m_sizes, .ref m_codes, .ref m_maxStack, .ref m_maxLocals, .ref m_handlers, .ref m_handlerFrom, .ref m_handlerTo, .ref m_handlerPlace, .ref m_handlerClass, .ref m_verified, .ref m_fault, .ref m_faultAt, .int 0, .ref m_tape, .ref m_begins, .ref m_high, .ref m_locals, .ref m_stacks, .ref m_due, .ref m_dead, .ref m_framed, .int 0, .int 0, .int 0, .int 0, .ref m_local, .ref m_before, .ref m_stack, .int 0, .ref m_given, .ref m_givenStack, .int 0, .int 0, .int 0, .ref m_cutFrom, .ref m_cutTo, .ref m_cutPlace, .ref m_cutClass, .int 0, .ref m_bytes, .ref m_was, .int 0, .ref m_now, .int 0, .ref m_ends, .ref m_statics, .int 0, .ref m_thingType, .ref m_thingSize, .ref m_elements, .ref m_slots, .int 0, .ref m_callMethod, .ref m_callPlace, .ref m_callHigh, .ref m_values, .ref m_piles, .int 0, .long 0]))]) [0] (by decide) rfl
  have hFc := va_free (wc := [(mo, .inr (5, [.int 0, .int 2, .ref m_above, .ref m_isFace, .int 0, .ref m_fieldClass, .ref m_fieldType, .ref m_fieldStatic, .int 0, .ref m_arguments, .ref m_argumentCount, .ref m_results, .ref m_sizes, .ref m_codes, .ref m_maxStack, .ref m_maxLocals, .ref m_handlers, .ref m_handlerFrom, .ref m_handlerTo, .ref m_handlerPlace, .ref m_handlerClass, .ref m_verified, .ref m_fault, .ref m_faultAt, .int 0, .ref m_tape, .ref m_begins, .ref m_high, .ref m_locals, .ref m_stacks, .ref m_due, .ref m_dead, .ref m_framed, .int 0, .int 0, .int 0, .int 0, .ref m_local, .ref m_before, .ref m_stack, .int 0, .ref m_given, .ref m_givenStack, .int 0, .int 0, .int 0, .ref m_cutFrom, .ref m_cutTo, .ref m_cutPlace, .ref m_cutClass, .int 0, .ref m_bytes, .ref m_was, .int 0, .ref m_now, .int 0, .ref m_ends, .ref m_statics, .int 0, .ref m_thingType, .ref m_thingSize, .ref m_elements, .ref m_slots, .int 0, .ref m_callMethod, .ref m_callPlace, .ref m_callHigh, .ref m_values, .ref m_piles, .int 0, .long 0]))]) hD hS hA [0] rfl
  refine va_calli (va_runV (As := [.int (xs 1), .int (xs 2), .int (xs 3)]) (rest := []) ⟨hx, hb, hml, hown, hts⟩ (k_M_typeAt l dC dI mo m_above m_isFace m_fieldClass m_fieldType m_fieldStatic m_arguments m_argumentCount m_results m_sizes m_codes m_maxStack m_maxLocals m_handlers m_handlerFrom m_handlerTo m_handlerPlace m_handlerClass m_verified m_fault m_faultAt m_tape m_begins m_high m_locals m_stacks m_due m_dead m_framed m_local m_before m_stack m_given m_givenStack m_cutFrom m_cutTo m_cutPlace m_cutClass m_bytes m_was m_now m_ends m_statics m_thingType m_thingSize m_elements m_slots m_callMethod m_callPlace m_callHigh m_values m_piles ((xs 1)) ((xs 2)) ((xs 3)) H.size) (cwV 3 hts (gV hsub w_479 w_480 w_481 w_266 w_482) rfl rfl rfl (by decide +kernel) ⟨Nat.le_of_ble_eq_true rfl, Nat.le_of_ble_eq_true rfl⟩) ⟨bl_1000, va_recv hKc hPc (ci := 5) (q0 := 0) rfl rfl, fun U hU hW => ⟨rfl, by rw [hU], by rw [hU]; exact hPc, va_K.moved hW.alike hKc, hDc.weaken (fun _ _ _ _ => trivial)⟩⟩ rfl rfl hl.1 rfl (lv_room (Nat.le_of_ble_eq_true rfl)) d_L_law_949 ⟨Nat.le_of_ble_eq_true rfl, Nat.le_of_ble_eq_true rfl⟩) hS (fun q _ h => hFc q h) hFc (fun r_6 u_7 t H1 locs ht hvm hw hB hz1 hk1 hS => ?_)
  obtain ⟨fs_8, hfs, hP1, hK1, hD1⟩ := hB
  rw [ht] at hP1
  have hK1 := va_K.moved hvm.symm hK1
  obtain ⟨hP, hD⟩ := va_join (wr := [(ou, .inl (ko, 1, .inr (.inl fo_4)))]) (w1 := [(mo, .inr (5, fs_8))]) hP hD [0] [1] rfl rfl (by decide) (by decide) hk1 hFc hP1 hD1
  have hK := (hK.sub (tys' := [(ko, .long), (ko, .long)]) [0, 1] rfl).app hK1
  generalize H1 = H at hP hS ⊢
  have hP : va_P (dC, dI) vwCl [(ou, .inl (ko, 1, .inr (.inl fo_4))), (mo, .inr (5, fs_8))] H := hP
  have hD : va_D (fun q : Nat => s.heap.size ≤ q) [(ou, .inl (ko, 1, .inr (.inl fo_4))), (mo, .inr (5, fs_8))] := hD
  have hK : va_K (dC, dI) vwCl [(ko, .long), (ko, .long)] s := hK
  refine W.widen (k := 143) (n := 53751) (Nat.le_of_ble_eq_true rfl) (Nat.le_of_ble_eq_true rfl) ?_
  subst hw
  refine lv_istore (lv' := [(6, .int r_6), (5, .int 1), (4, .int 0), (3, .ref ou), (2, .ref mo), (1, .ref f), (0, .ref b)]) hx hb d_L_law_952 hl (by decide) rfl (fun ls hl => ?_)
  refine lv_aload_n hx hb d_L_law_954 rfl (lv_at hl 4 rfl) ?_
  have hPc := hP.sub (ws' := [(mo, .inr (5, fs_8))]) [1] rfl
  have hKc := hK.sub (tys' := []) [] rfl
  refine va_calli (va_runV (As := []) (rest := []) ⟨hx, hb, hml, hown, hts⟩ (k_M_thrown l dC dI mo fs_8 1 hfs) (cwV 0 hts (gV hsub w_401 w_402 w_403 w_266 w_404) rfl rfl rfl (by decide +kernel) ⟨Nat.le_of_ble_eq_true rfl, Nat.le_of_ble_eq_true rfl⟩) ⟨bl_0000, va_recv hKc hPc (ci := 5) (q0 := 0) rfl rfl, fun U hU hW => ⟨rfl, by rw [hU]; exact hPc, va_K.moved hW.alike hKc⟩⟩ rfl rfl hl.1 rfl (lv_room (Nat.le_of_ble_eq_true rfl)) d_L_law_955 ⟨Nat.le_of_ble_eq_true rfl, Nat.le_of_ble_eq_true rfl⟩) hS (fun q _ h => h.elim) (fun q h => h.elim) (fun r_10 u_11 t H1 locs ht hvm hw hB hz1 hk1 hS => ?_)
  have hP := ro_keep hP hk1
  generalize H1 = H at hP hS ⊢
  refine W.widen (k := 143) (n := 53751) (Nat.le_of_ble_eq_true rfl) (Nat.le_of_ble_eq_true rfl) ?_
  subst hw
  refine lv_iload hx hb d_L_law_958 (lv_at hl 1 rfl) ?_
  refine lv_icmp_eq (tgt := 965) hx hb d_L_law_960 (by decide) (fun c_12 => ?_) (fun c_12 => ?_)
  · skip
    refine lv_iload hx hb d_L_law_965 (lv_at hl 1 rfl) ?_
    refine lv_if_ne (tgt := 982) hx hb d_L_law_967 (by decide) (fun c_13 => ?_) (fun c_13 => ?_)
    · skip
      refine lv_goto (tgt := 1192) hx hb d_L_law_982 (by decide) ?_
      refine lv_iinc (v := 7) (lv' := [(4, .int 7), (6, .int r_6), (5, .int 1), (3, .ref ou), (2, .ref mo), (1, .ref f), (0, .ref b)]) hx hb d_L_law_1192 hl (k := 2) rfl (by decide) (by decide) rfl (fun ls hl => ?_)
      refine lv_goto (tgt := 23) hx hb d_L_law_1195 (by decide) ?_
      refine lv_iload hx hb d_L_law_23 (lv_at hl 0 rfl) ?_
      refine lv_aload_n hx hb d_L_law_25 rfl (lv_at hl 6 rfl) ?_
      refine va_slen hx hb hX hbl hbA hS d_L_law_26 ?_
      refine tp_i 7 (rfl) ?_
      refine lv_bipush (v := 7) hx hb d_L_law_27 (by decide) ?_
      refine lv_isub hx hb d_L_law_29 ?_
      refine tp_i 0 (by decide) ?_
      refine lv_icmp_gt (tgt := 1198) hx hb d_L_law_30 (by decide) (fun c_14 => ?_) (fun c_14 => ?_)
      · skip
        refine lv_iconst (v := 1) hx hb d_L_law_1198 (by decide) ?_
        refine va_forget (fun q hq => hS.2.2 q hq) ?_
        refine W.widen (k := 600002) (n := 7302232) (Nat.le_of_ble_eq_true rfl) (Nat.le_of_ble_eq_true rfl) ?_
        exact lw_ret hx hb hr hlocks d_L_law_1199
      · skip
        first | exact absurd c_14 (by decide) | exact absurd (by decide) c_14
    · skip
      first | exact absurd c_13 (by decide) | exact absurd (by decide) c_13
  · skip
    first | exact absurd c_12 (by decide) | exact absurd (by decide) c_12

set_option maxHeartbeats 4000000 in
set_option maxRecDepth 100000 in
theorem law_c12 {p : Program} {e : Env} {s : State} {m : MethodId} {below : List Frame} {meth : Method} {cx : Code} (l : Launch) (hl9 : l.stackTraces = false) {b : Nat} {xs : Nat → Int32} (C0 : lw_At p s m meth cx b 7 xs) (hex : exP (fun q : Nat => s.heap.size ≤ q) s) {dC : Nat → ClassId} {dI : Nat → Nat → Nat} {f w wp wu wi wc wt wx wm k kh ks kc9 tp mo m_above m_isFace m_fieldClass m_fieldType m_fieldStatic m_arguments m_argumentCount m_results m_sizes m_codes m_maxStack m_maxLocals m_handlers m_handlerFrom m_handlerTo m_handlerPlace m_handlerClass m_verified m_fault m_faultAt m_tape m_begins m_high m_locals m_stacks m_due m_dead m_framed m_local m_before m_stack m_given m_givenStack m_cutFrom m_cutTo m_cutPlace m_cutClass m_bytes m_was m_now m_ends m_statics m_thingType m_thingSize m_elements m_slots m_callMethod m_callPlace m_callHigh m_values m_piles ou : Nat} {kp  ku  ki  kc  kt  kx  km  kt9  k_above  k_isFace  k_fieldClass  k_fieldType  k_fieldStatic  k_arguments  k_argumentCount  k_results  k_tape  k_ends  ko : ClassId} {H : Heap} {locs : List Loc} (hK : va_K (dC, dI) vwCl [(k_argumentCount, .int), (ko, .long)] s) (hP : va_P (dC, dI) vwCl [(f, .inr (4, [.ref w, .ref k, .ref tp, .int 0])), (w, .inr (3, [.ref wp, .ref wu, .ref wi, .int 2, .ref wc, .ref wt, .ref wx, .int 0, .ref wm, .int 0])), (mo, .inr (5, [.int 0, .int 2, .ref m_above, .ref m_isFace, .int 0, .ref m_fieldClass, .ref m_fieldType, .ref m_fieldStatic, .int 0, .ref m_arguments, .ref m_argumentCount, .ref m_results, .ref m_sizes, .ref m_codes, .ref m_maxStack, .ref m_maxLocals, .ref m_handlers, .ref m_handlerFrom, .ref m_handlerTo, .ref m_handlerPlace, .ref m_handlerClass, .ref m_verified, .ref m_fault, .ref m_faultAt, .int 0, .ref m_tape, .ref m_begins, .ref m_high, .ref m_locals, .ref m_stacks, .ref m_due, .ref m_dead, .ref m_framed, .int 0, .int 0, .int 0, .int 0, .ref m_local, .ref m_before, .ref m_stack, .int 0, .ref m_given, .ref m_givenStack, .int 0, .int 0, .int 0, .ref m_cutFrom, .ref m_cutTo, .ref m_cutPlace, .ref m_cutClass, .int 0, .ref m_bytes, .ref m_was, .int 0, .ref m_now, .int 0, .ref m_ends, .ref m_statics, .int 0, .ref m_thingType, .ref m_thingSize, .ref m_elements, .ref m_slots, .int 0, .ref m_callMethod, .ref m_callPlace, .ref m_callHigh, .ref m_values, .ref m_piles, .int 0, .long 0])), (m_argumentCount, .inl (k_argumentCount, 8, .inl (fun _ => 0))), (ou, .inl (ko, 1, .inr (.inl (fun _ => 0))))] H) (hD : va_D (fun q : Nat => s.heap.size ≤ q) [(f, .inr (4, [.ref w, .ref k, .ref tp, .int 0])), (w, .inr (3, [.ref wp, .ref wu, .ref wi, .int 2, .ref wc, .ref wt, .ref wx, .int 0, .ref wm, .int 0])), (mo, .inr (5, [.int 0, .int 2, .ref m_above, .ref m_isFace, .int 0, .ref m_fieldClass, .ref m_fieldType, .ref m_fieldStatic, .int 0, .ref m_arguments, .ref m_argumentCount, .ref m_results, .ref m_sizes, .ref m_codes, .ref m_maxStack, .ref m_maxLocals, .ref m_handlers, .ref m_handlerFrom, .ref m_handlerTo, .ref m_handlerPlace, .ref m_handlerClass, .ref m_verified, .ref m_fault, .ref m_faultAt, .int 0, .ref m_tape, .ref m_begins, .ref m_high, .ref m_locals, .ref m_stacks, .ref m_due, .ref m_dead, .ref m_framed, .int 0, .int 0, .int 0, .int 0, .ref m_local, .ref m_before, .ref m_stack, .int 0, .ref m_given, .ref m_givenStack, .int 0, .int 0, .int 0, .ref m_cutFrom, .ref m_cutTo, .ref m_cutPlace, .ref m_cutClass, .int 0, .ref m_bytes, .ref m_was, .int 0, .ref m_now, .int 0, .ref m_ends, .ref m_statics, .int 0, .ref m_thingType, .ref m_thingSize, .ref m_elements, .ref m_slots, .int 0, .ref m_callMethod, .ref m_callPlace, .ref m_callHigh, .ref m_values, .ref m_piles, .int 0, .long 0])), (m_argumentCount, .inl (k_argumentCount, 8, .inl (fun _ => 0))), (ou, .inl (ko, 1, .inr (.inl (fun _ => 0))))]) (hS : va_S (fun q : Nat => s.heap.size ≤ q) s.heap H locs) {ls : Array Slot} (hl : lv_has ls 8 [(4, .int 0), (3, .ref ou), (2, .ref mo), (1, .ref f), (0, .ref b)]) : W p l e room_1 s m #[Value.ref b] below meth cx H locs 142 53745 (lw_Z below #[Value.ref b] s) (F0 m 985 ls []) := by
  obtain ⟨hx, hb, hr, hml, hown0, hts0, hX, hbl, hlocks, hgv⟩ := id C0
  have hown : s.vm.findClass "MapFramerLaw" = some m.cls := hown0
  have hts : ∀ w ∈ bigW, w.before #[Value.ref b] s = true := fun w h => hts0 w (List.mem_filter.mp h).1
  have hsub : ∀ w ∈ bigW, w ∈ bigW := fun _ h => h
  have hA : ∀ q : Nat, s.heap.size ≤ q → (fun q : Nat => s.heap.size ≤ q) q := fun _ h => h
  have hbA : ¬ (fun q : Nat => s.heap.size ≤ q) b := Nat.not_le.mpr hbl
  refine lv_aload_n hx hb d_L_law_985 rfl (lv_at hl 3 rfl) ?_
  refine lv_aload_n hx hb d_L_law_986 rfl (lv_at hl 4 rfl) ?_
  refine lv_iload hx hb d_L_law_987 (lv_at hl 0 rfl) ?_
  refine lv_iconst (v := 1) hx hb d_L_law_989 (by decide) ?_
  refine lv_iadd hx hb d_L_law_990 ?_
  refine tp_i 1 (by decide) ?_
  refine va_sld hx hb hX hbl hbA hS (vp_in_iff.mpr (by decide)) d_L_law_991 ?_
  refine tp_i (xs 1) (congrArg xs (by decide)) ?_
  refine lv_aload_n hx hb d_L_law_992 rfl (lv_at hl 4 rfl) ?_
  refine lv_iload hx hb d_L_law_993 (lv_at hl 0 rfl) ?_
  refine lv_iconst (v := 2) hx hb d_L_law_995 (by decide) ?_
  refine lv_iadd hx hb d_L_law_996 ?_
  refine tp_i 2 (by decide) ?_
  refine va_sld hx hb hX hbl hbA hS (vp_in_iff.mpr (by decide)) d_L_law_997 ?_
  refine tp_i (xs 2) (congrArg xs (by decide)) ?_
  refine lv_i2l (v := ((xs 2) : Int32).toInt64) hx hb d_L_law_998 rfl ?_
  refine lv_bipush (v := 32) hx hb d_L_law_999 (by decide) ?_
  refine lv_lshl (v := ((((xs 2) : Int32).toInt64) <<< ((32 : Int32).toInt64 &&& 63))) hx hb d_L_law_1001 rfl ?_
  refine lv_topl (fun x_1 ex_1 => ?_)
  refine lv_aload_n hx hb d_L_law_1002 rfl (lv_at hl 4 rfl) ?_
  refine lv_iload hx hb d_L_law_1003 (lv_at hl 0 rfl) ?_
  refine lv_iconst (v := 3) hx hb d_L_law_1005 (by decide) ?_
  refine lv_iadd hx hb d_L_law_1006 ?_
  refine tp_i 3 (by decide) ?_
  refine va_sld hx hb hX hbl hbA hS (vp_in_iff.mpr (by decide)) d_L_law_1007 ?_
  refine tp_i (xs 3) (congrArg xs (by decide)) ?_
  refine lv_i2l (v := ((xs 3) : Int32).toInt64) hx hb d_L_law_1008 rfl ?_
  refine lv_ldc2 (v := 4294967295) hx hb hown (hts _ (hsub _ w_483)) d_L_law_1009 ?_
  refine lv_land hx hb d_L_law_1012 ?_
  refine lv_topl (fun x_2 ex_2 => ?_)
  refine lv_lor hx hb d_L_law_1013 ?_
  refine lv_topl (fun x_3 ex_3 => ?_)
  refine lv_aload_n hx hb d_L_law_1014 rfl (lv_at hl 4 rfl) ?_
  refine lv_iload hx hb d_L_law_1015 (lv_at hl 0 rfl) ?_
  refine lv_iconst (v := 4) hx hb d_L_law_1017 (by decide) ?_
  refine lv_iadd hx hb d_L_law_1018 ?_
  refine tp_i 4 (by decide) ?_
  refine va_sld hx hb hX hbl hbA hS (vp_in_iff.mpr (by decide)) d_L_law_1019 ?_
  refine tp_i (xs 4) (congrArg xs (by decide)) ?_
  refine lv_i2l (v := ((xs 4) : Int32).toInt64) hx hb d_L_law_1020 rfl ?_
  refine lv_bipush (v := 32) hx hb d_L_law_1021 (by decide) ?_
  refine lv_lshl (v := ((((xs 4) : Int32).toInt64) <<< ((32 : Int32).toInt64 &&& 63))) hx hb d_L_law_1023 rfl ?_
  refine lv_topl (fun x_4 ex_4 => ?_)
  refine lv_aload_n hx hb d_L_law_1024 rfl (lv_at hl 4 rfl) ?_
  refine lv_iload hx hb d_L_law_1025 (lv_at hl 0 rfl) ?_
  refine lv_iconst (v := 5) hx hb d_L_law_1027 (by decide) ?_
  refine lv_iadd hx hb d_L_law_1028 ?_
  refine tp_i 5 (by decide) ?_
  refine va_sld hx hb hX hbl hbA hS (vp_in_iff.mpr (by decide)) d_L_law_1029 ?_
  refine tp_i (xs 5) (congrArg xs (by decide)) ?_
  refine lv_i2l (v := ((xs 5) : Int32).toInt64) hx hb d_L_law_1030 rfl ?_
  refine lv_ldc2 (v := 4294967295) hx hb hown (hts _ (hsub _ w_483)) d_L_law_1031 ?_
  refine lv_land hx hb d_L_law_1034 ?_
  refine lv_topl (fun x_5 ex_5 => ?_)
  refine lv_lor hx hb d_L_law_1035 ?_
  refine lv_topl (fun x_6 ex_6 => ?_)
  refine lv_aload_n hx hb d_L_law_1036 rfl (lv_at hl 4 rfl) ?_
  refine lv_iload hx hb d_L_law_1037 (lv_at hl 0 rfl) ?_
  refine lv_bipush (v := 6) hx hb d_L_law_1039 (by decide) ?_
  refine lv_iadd hx hb d_L_law_1041 ?_
  refine tp_i 6 (by decide) ?_
  refine va_sld hx hb hX hbl hbA hS (vp_in_iff.mpr (by decide)) d_L_law_1042 ?_
  refine tp_i (xs 6) (congrArg xs (by decide)) ?_
  refine lv_aload_n hx hb d_L_law_1043 rfl (lv_at hl 1 rfl) ?_
  have hPc := hP.sub (ws' := [(f, .inr (4, [.ref w, .ref k, .ref tp, .int 0])), (w, .inr (3, [.ref wp, .ref wu, .ref wi, .int 2, .ref wc, .ref wt, .ref wx, .int 0, .ref wm, .int 0])), (ou, .inl (ko, 1, .inr (.inl (fun _ => 0))))]) [0, 1, 4] rfl
  have hKc := hK.sub (tys' := [(ko, .long)]) [1] rfl
  have hDc := hD.sub (ws' := [(f, .inr (4, [.ref w, .ref k, .ref tp, .int 0])), (w, .inr (3, [.ref wp, .ref wu, .ref wi, .int 2, .ref wc, .ref wt, .ref wx, .int 0, .ref wm, .int 0])), (ou, .inl (ko, 1, .inr (.inl (fun _ => 0))))]) [0, 1, 4] (by decide) rfl
  have hFc := va_free (wc := [(f, .inr (4, [.ref w, .ref k, .ref tp, .int 0])), (w, .inr (3, [.ref wp, .ref wu, .ref wi, .int 2, .ref wc, .ref wt, .ref wx, .int 0, .ref wm, .int 0])), (ou, .inl (ko, 1, .inr (.inl (fun _ => 0))))]) hD hS hA [0, 1, 4] rfl
  refine va_calli (vx_runSW (As := [.ref f, .int (xs 1), .long x_3, .long x_6, .int (xs 6), .ref ou]) (rest := []) ⟨hx, hb, hml, hown, hts⟩ (k_L_run l hl9 dC dI f w k tp wp wu wi wc wt wx wm ((xs 1)) x_3 x_6 ((xs 6)) ou ko (fun _ => 0) H.size) (vx_cwSW 6 hts (gS hsub w_484 w_485 w_395 w_486) rfl rfl rfl (by decide +kernel) ⟨Nat.le_of_ble_eq_true rfl, Nat.le_of_ble_eq_true rfl⟩) ⟨bl_1010, fun U hU hW => ⟨rfl, by rw [hU], by rw [hU]; exact hPc, va_K.moved hW.alike hKc, hDc.weaken (fun _ _ _ _ => trivial), exP_go hex hS (fun q h => hFc q h) U hU hW⟩⟩ rfl rfl hl.1 rfl (lv_room (Nat.le_of_ble_eq_true rfl)) d_L_law_1044 ⟨Nat.le_of_ble_eq_true rfl, Nat.le_of_ble_eq_true rfl⟩) hS (fun q _ h => hFc q h) hFc (fun r_8 u_9 t H1 locs ht hvm hw hB hz1 hk1 hS => ?_)
  obtain ⟨fo_10, hfo, hP1, hK1, hD1⟩ := hB
  rw [ht] at hP1
  have hK1 := va_K.moved hvm.symm hK1
  obtain ⟨hP, hD⟩ := va_join (wr := [(mo, .inr (5, [.int 0, .int 2, .ref m_above, .ref m_isFace, .int 0, .ref m_fieldClass, .ref m_fieldType, .ref m_fieldStatic, .int 0, .ref m_arguments, .ref m_argumentCount, .ref m_results, .ref m_sizes, .ref m_codes, .ref m_maxStack, .ref m_maxLocals, .ref m_handlers, .ref m_handlerFrom, .ref m_handlerTo, .ref m_handlerPlace, .ref m_handlerClass, .ref m_verified, .ref m_fault, .ref m_faultAt, .int 0, .ref m_tape, .ref m_begins, .ref m_high, .ref m_locals, .ref m_stacks, .ref m_due, .ref m_dead, .ref m_framed, .int 0, .int 0, .int 0, .int 0, .ref m_local, .ref m_before, .ref m_stack, .int 0, .ref m_given, .ref m_givenStack, .int 0, .int 0, .int 0, .ref m_cutFrom, .ref m_cutTo, .ref m_cutPlace, .ref m_cutClass, .int 0, .ref m_bytes, .ref m_was, .int 0, .ref m_now, .int 0, .ref m_ends, .ref m_statics, .int 0, .ref m_thingType, .ref m_thingSize, .ref m_elements, .ref m_slots, .int 0, .ref m_callMethod, .ref m_callPlace, .ref m_callHigh, .ref m_values, .ref m_piles, .int 0, .long 0])), (m_argumentCount, .inl (k_argumentCount, 8, .inl (fun _ => 0)))]) (w1 := [(ou, .inl (ko, 1, .inr (.inl fo_10)))]) hP hD [0, 1, 4] [2, 3] rfl rfl (by decide) (by decide) hk1 hFc hP1 hD1
  have hK := (hK.sub (tys' := [(k_argumentCount, .int), (ko, .long)]) [0, 1] rfl).app hK1
  generalize H1 = H at hP hS ⊢
  have hP : va_P (dC, dI) vwCl [(mo, .inr (5, [.int 0, .int 2, .ref m_above, .ref m_isFace, .int 0, .ref m_fieldClass, .ref m_fieldType, .ref m_fieldStatic, .int 0, .ref m_arguments, .ref m_argumentCount, .ref m_results, .ref m_sizes, .ref m_codes, .ref m_maxStack, .ref m_maxLocals, .ref m_handlers, .ref m_handlerFrom, .ref m_handlerTo, .ref m_handlerPlace, .ref m_handlerClass, .ref m_verified, .ref m_fault, .ref m_faultAt, .int 0, .ref m_tape, .ref m_begins, .ref m_high, .ref m_locals, .ref m_stacks, .ref m_due, .ref m_dead, .ref m_framed, .int 0, .int 0, .int 0, .int 0, .ref m_local, .ref m_before, .ref m_stack, .int 0, .ref m_given, .ref m_givenStack, .int 0, .int 0, .int 0, .ref m_cutFrom, .ref m_cutTo, .ref m_cutPlace, .ref m_cutClass, .int 0, .ref m_bytes, .ref m_was, .int 0, .ref m_now, .int 0, .ref m_ends, .ref m_statics, .int 0, .ref m_thingType, .ref m_thingSize, .ref m_elements, .ref m_slots, .int 0, .ref m_callMethod, .ref m_callPlace, .ref m_callHigh, .ref m_values, .ref m_piles, .int 0, .long 0])), (m_argumentCount, .inl (k_argumentCount, 8, .inl (fun _ => 0))), (ou, .inl (ko, 1, .inr (.inl fo_10)))] H := hP
  have hD : va_D (fun q : Nat => s.heap.size ≤ q) [(mo, .inr (5, [.int 0, .int 2, .ref m_above, .ref m_isFace, .int 0, .ref m_fieldClass, .ref m_fieldType, .ref m_fieldStatic, .int 0, .ref m_arguments, .ref m_argumentCount, .ref m_results, .ref m_sizes, .ref m_codes, .ref m_maxStack, .ref m_maxLocals, .ref m_handlers, .ref m_handlerFrom, .ref m_handlerTo, .ref m_handlerPlace, .ref m_handlerClass, .ref m_verified, .ref m_fault, .ref m_faultAt, .int 0, .ref m_tape, .ref m_begins, .ref m_high, .ref m_locals, .ref m_stacks, .ref m_due, .ref m_dead, .ref m_framed, .int 0, .int 0, .int 0, .int 0, .ref m_local, .ref m_before, .ref m_stack, .int 0, .ref m_given, .ref m_givenStack, .int 0, .int 0, .int 0, .ref m_cutFrom, .ref m_cutTo, .ref m_cutPlace, .ref m_cutClass, .int 0, .ref m_bytes, .ref m_was, .int 0, .ref m_now, .int 0, .ref m_ends, .ref m_statics, .int 0, .ref m_thingType, .ref m_thingSize, .ref m_elements, .ref m_slots, .int 0, .ref m_callMethod, .ref m_callPlace, .ref m_callHigh, .ref m_values, .ref m_piles, .int 0, .long 0])), (m_argumentCount, .inl (k_argumentCount, 8, .inl (fun _ => 0))), (ou, .inl (ko, 1, .inr (.inl fo_10)))] := hD
  have hK : va_K (dC, dI) vwCl [(k_argumentCount, .int), (ko, .long), (ko, .long)] s := hK
  refine W.widen (k := 143) (n := 53751) (Nat.le_of_ble_eq_true rfl) (Nat.le_of_ble_eq_true rfl) ?_
  obtain rfl : r_8 = 1 := hw
  refine lv_istore (lv' := [(5, .int 1), (4, .int 0), (3, .ref ou), (2, .ref mo), (1, .ref f), (0, .ref b)]) hx hb d_L_law_1047 hl (by decide) rfl (fun ls hl => ?_)
  refine lv_aload_n hx hb d_L_law_1049 rfl (lv_at hl 3 rfl) ?_
  refine lv_aload_n hx hb d_L_law_1050 rfl (lv_at hl 5 rfl) ?_
  refine lv_iload hx hb d_L_law_1051 (lv_at hl 1 rfl) ?_
  refine lv_iconst (v := 1) hx hb d_L_law_1053 (by decide) ?_
  refine lv_iadd hx hb d_L_law_1054 ?_
  refine tp_i 1 (by decide) ?_
  refine va_sld hx hb hX hbl hbA hS (vp_in_iff.mpr (by decide)) d_L_law_1055 ?_
  refine tp_i (xs 1) (congrArg xs (by decide)) ?_
  refine lv_aload_n hx hb d_L_law_1056 rfl (lv_at hl 5 rfl) ?_
  refine lv_iload hx hb d_L_law_1057 (lv_at hl 1 rfl) ?_
  refine lv_iconst (v := 2) hx hb d_L_law_1059 (by decide) ?_
  refine lv_iadd hx hb d_L_law_1060 ?_
  refine tp_i 2 (by decide) ?_
  refine va_sld hx hb hX hbl hbA hS (vp_in_iff.mpr (by decide)) d_L_law_1061 ?_
  refine tp_i (xs 2) (congrArg xs (by decide)) ?_
  refine lv_i2l (v := ((xs 2) : Int32).toInt64) hx hb d_L_law_1062 rfl ?_
  refine lv_bipush (v := 32) hx hb d_L_law_1063 (by decide) ?_
  refine lv_lshl (v := ((((xs 2) : Int32).toInt64) <<< ((32 : Int32).toInt64 &&& 63))) hx hb d_L_law_1065 rfl ?_
  refine lv_topl (fun x_11 ex_11 => ?_)
  refine lv_aload_n hx hb d_L_law_1066 rfl (lv_at hl 5 rfl) ?_
  refine lv_iload hx hb d_L_law_1067 (lv_at hl 1 rfl) ?_
  refine lv_iconst (v := 3) hx hb d_L_law_1069 (by decide) ?_
  refine lv_iadd hx hb d_L_law_1070 ?_
  refine tp_i 3 (by decide) ?_
  refine va_sld hx hb hX hbl hbA hS (vp_in_iff.mpr (by decide)) d_L_law_1071 ?_
  refine tp_i (xs 3) (congrArg xs (by decide)) ?_
  refine lv_i2l (v := ((xs 3) : Int32).toInt64) hx hb d_L_law_1072 rfl ?_
  refine lv_ldc2 (v := 4294967295) hx hb hown (hts _ (hsub _ w_483)) d_L_law_1073 ?_
  refine lv_land hx hb d_L_law_1076 ?_
  refine lv_topl (fun x_12 ex_12 => ?_)
  refine lv_lor hx hb d_L_law_1077 ?_
  refine lv_topl (fun x_13 ex_13 => ?_)
  refine lv_aload_n hx hb d_L_law_1078 rfl (lv_at hl 5 rfl) ?_
  refine lv_iload hx hb d_L_law_1079 (lv_at hl 1 rfl) ?_
  refine lv_iconst (v := 4) hx hb d_L_law_1081 (by decide) ?_
  refine lv_iadd hx hb d_L_law_1082 ?_
  refine tp_i 4 (by decide) ?_
  refine va_sld hx hb hX hbl hbA hS (vp_in_iff.mpr (by decide)) d_L_law_1083 ?_
  refine tp_i (xs 4) (congrArg xs (by decide)) ?_
  refine lv_i2l (v := ((xs 4) : Int32).toInt64) hx hb d_L_law_1084 rfl ?_
  refine lv_bipush (v := 32) hx hb d_L_law_1085 (by decide) ?_
  refine lv_lshl (v := ((((xs 4) : Int32).toInt64) <<< ((32 : Int32).toInt64 &&& 63))) hx hb d_L_law_1087 rfl ?_
  refine lv_topl (fun x_14 ex_14 => ?_)
  refine lv_aload_n hx hb d_L_law_1088 rfl (lv_at hl 5 rfl) ?_
  refine lv_iload hx hb d_L_law_1089 (lv_at hl 1 rfl) ?_
  refine lv_iconst (v := 5) hx hb d_L_law_1091 (by decide) ?_
  refine lv_iadd hx hb d_L_law_1092 ?_
  refine tp_i 5 (by decide) ?_
  refine va_sld hx hb hX hbl hbA hS (vp_in_iff.mpr (by decide)) d_L_law_1093 ?_
  refine tp_i (xs 5) (congrArg xs (by decide)) ?_
  refine lv_i2l (v := ((xs 5) : Int32).toInt64) hx hb d_L_law_1094 rfl ?_
  refine lv_ldc2 (v := 4294967295) hx hb hown (hts _ (hsub _ w_483)) d_L_law_1095 ?_
  refine lv_land hx hb d_L_law_1098 ?_
  refine lv_topl (fun x_15 ex_15 => ?_)
  refine lv_lor hx hb d_L_law_1099 ?_
  refine lv_topl (fun x_16 ex_16 => ?_)
  refine lv_aload_n hx hb d_L_law_1100 rfl (lv_at hl 5 rfl) ?_
  refine lv_iload hx hb d_L_law_1101 (lv_at hl 1 rfl) ?_
  refine lv_bipush (v := 6) hx hb d_L_law_1103 (by decide) ?_
  refine lv_iadd hx hb d_L_law_1105 ?_
  refine tp_i 6 (by decide) ?_
  refine va_sld hx hb hX hbl hbA hS (vp_in_iff.mpr (by decide)) d_L_law_1106 ?_
  refine tp_i (xs 6) (congrArg xs (by decide)) ?_
  have hPc := hP.sub (ws' := [(mo, .inr (5, [.int 0, .int 2, .ref m_above, .ref m_isFace, .int 0, .ref m_fieldClass, .ref m_fieldType, .ref m_fieldStatic, .int 0, .ref m_arguments, .ref m_argumentCount, .ref m_results, .ref m_sizes, .ref m_codes, .ref m_maxStack, .ref m_maxLocals, .ref m_handlers, .ref m_handlerFrom, .ref m_handlerTo, .ref m_handlerPlace, .ref m_handlerClass, .ref m_verified, .ref m_fault, .ref m_faultAt, .int 0, .ref m_tape, .ref m_begins, .ref m_high, .ref m_locals, .ref m_stacks, .ref m_due, .ref m_dead, .ref m_framed, .int 0, .int 0, .int 0, .int 0, .ref m_local, .ref m_before, .ref m_stack, .int 0, .ref m_given, .ref m_givenStack, .int 0, .int 0, .int 0, .ref m_cutFrom, .ref m_cutTo, .ref m_cutPlace, .ref m_cutClass, .int 0, .ref m_bytes, .ref m_was, .int 0, .ref m_now, .int 0, .ref m_ends, .ref m_statics, .int 0, .ref m_thingType, .ref m_thingSize, .ref m_elements, .ref m_slots, .int 0, .ref m_callMethod, .ref m_callPlace, .ref m_callHigh, .ref m_values, .ref m_piles, .int 0, .long 0])), (m_argumentCount, .inl (k_argumentCount, 8, .inl (fun _ => 0)))]) [0, 1] rfl
  have hKc := hK.sub (tys' := [(k_argumentCount, .int)]) [0] rfl
  have hDc := hD.sub (ws' := [(mo, .inr (5, [.int 0, .int 2, .ref m_above, .ref m_isFace, .int 0, .ref m_fieldClass, .ref m_fieldType, .ref m_fieldStatic, .int 0, .ref m_arguments, .ref m_argumentCount, .ref m_results, .ref m_sizes, .ref m_codes, .ref m_maxStack, .ref m_maxLocals, .ref m_handlers, .ref m_handlerFrom, .ref m_handlerTo, .ref m_handlerPlace, .ref m_handlerClass, .ref m_verified, .ref m_fault, .ref m_faultAt, .int 0, .ref m_tape, .ref m_begins, .ref m_high, .ref m_locals, .ref m_stacks, .ref m_due, .ref m_dead, .ref m_framed, .int 0, .int 0, .int 0, .int 0, .ref m_local, .ref m_before, .ref m_stack, .int 0, .ref m_given, .ref m_givenStack, .int 0, .int 0, .int 0, .ref m_cutFrom, .ref m_cutTo, .ref m_cutPlace, .ref m_cutClass, .int 0, .ref m_bytes, .ref m_was, .int 0, .ref m_now, .int 0, .ref m_ends, .ref m_statics, .int 0, .ref m_thingType, .ref m_thingSize, .ref m_elements, .ref m_slots, .int 0, .ref m_callMethod, .ref m_callPlace, .ref m_callHigh, .ref m_values, .ref m_piles, .int 0, .long 0])), (m_argumentCount, .inl (k_argumentCount, 8, .inl (fun _ => 0)))]) [0, 1] (by decide) rfl
  have hFc := va_free (wc := [(mo, .inr (5, [.int 0, .int 2, .ref m_above, .ref m_isFace, .int 0, .ref m_fieldClass, .ref m_fieldType, .ref m_fieldStatic, .int 0, .ref m_arguments, .ref m_argumentCount, .ref m_results, .ref m_sizes, .ref m_codes, .ref m_maxStack, .ref m_maxLocals, .ref m_handlers, .ref m_handlerFrom, .ref m_handlerTo, .ref m_handlerPlace, .ref m_handlerClass, .ref m_verified, .ref m_fault, .ref m_faultAt, .int 0, .ref m_tape, .ref m_begins, .ref m_high, .ref m_locals, .ref m_stacks, .ref m_due, .ref m_dead, .ref m_framed, .int 0, .int 0, .int 0, .int 0, .ref m_local, .ref m_before, .ref m_stack, .int 0, .ref m_given, .ref m_givenStack, .int 0, .int 0, .int 0, .ref m_cutFrom, .ref m_cutTo, .ref m_cutPlace, .ref m_cutClass, .int 0, .ref m_bytes, .ref m_was, .int 0, .ref m_now, .int 0, .ref m_ends, .ref m_statics, .int 0, .ref m_thingType, .ref m_thingSize, .ref m_elements, .ref m_slots, .int 0, .ref m_callMethod, .ref m_callPlace, .ref m_callHigh, .ref m_values, .ref m_piles, .int 0, .long 0])), (m_argumentCount, .inl (k_argumentCount, 8, .inl (fun _ => 0)))]) hD hS hA [0, 1] rfl
  refine va_calll (va_runV (As := [.int (xs 1), .long x_13, .long x_16, .int (xs 6)]) (rest := []) ⟨hx, hb, hml, hown, hts⟩ (k_M_run l dC dI mo m_above m_isFace m_fieldClass m_fieldType m_fieldStatic m_arguments m_argumentCount m_results m_sizes m_codes m_maxStack m_maxLocals m_handlers m_handlerFrom m_handlerTo m_handlerPlace m_handlerClass m_verified m_fault m_faultAt m_tape m_begins m_high m_locals m_stacks m_due m_dead m_framed m_local m_before m_stack m_given m_givenStack m_cutFrom m_cutTo m_cutPlace m_cutClass m_bytes m_was m_now m_ends m_statics m_thingType m_thingSize m_elements m_slots m_callMethod m_callPlace m_callHigh m_values m_piles k_argumentCount ((xs 1)) x_13 x_16 ((xs 6)) H.size) (cwV 4 hts (gV hsub w_487 w_488 w_489 w_266 w_490) rfl rfl rfl (by decide +kernel) ⟨Nat.le_of_ble_eq_true rfl, Nat.le_of_ble_eq_true rfl⟩) ⟨bl_1000, va_recv hKc hPc (ci := 5) (q0 := 0) rfl rfl, fun U hU hW => ⟨rfl, by rw [hU], by rw [hU]; exact hPc, va_K.moved hW.alike hKc, hDc.weaken (fun _ _ _ _ => trivial)⟩⟩ rfl rfl hl.1 rfl (lv_room (Nat.le_of_ble_eq_true rfl)) d_L_law_1107 ⟨Nat.le_of_ble_eq_true rfl, Nat.le_of_ble_eq_true rfl⟩) hS (fun q _ h => hFc q h) hFc (fun r_18 u_19 t H1 locs ht hvm hw hB hz1 hk1 hS => ?_)
  obtain ⟨fs_20, hfs, hP1, hK1, hD1⟩ := hB
  rw [ht] at hP1
  have hK1 := va_K.moved hvm.symm hK1
  obtain ⟨hP, hD⟩ := va_join (wr := [(ou, .inl (ko, 1, .inr (.inl fo_10)))]) (w1 := [(mo, .inr (5, fs_20))]) hP hD [0, 1] [2] rfl rfl (by decide) (by decide) hk1 hFc hP1 hD1
  have hK := (hK.sub (tys' := [(k_argumentCount, .int), (ko, .long), (ko, .long)]) [0, 1, 2] rfl).app hK1
  generalize H1 = H at hP hS ⊢
  have hP : va_P (dC, dI) vwCl [(ou, .inl (ko, 1, .inr (.inl fo_10))), (mo, .inr (5, fs_20))] H := hP
  have hD : va_D (fun q : Nat => s.heap.size ≤ q) [(ou, .inl (ko, 1, .inr (.inl fo_10))), (mo, .inr (5, fs_20))] := hD
  have hK : va_K (dC, dI) vwCl [(k_argumentCount, .int), (ko, .long), (ko, .long)] s := hK
  refine W.widen (k := 143) (n := 53751) (Nat.le_of_ble_eq_true rfl) (Nat.le_of_ble_eq_true rfl) ?_
  subst hw
  refine lv_lstore (lv' := [(6, .long r_18), (5, .int 1), (4, .int 0), (3, .ref ou), (2, .ref mo), (1, .ref f), (0, .ref b)]) hx hb d_L_law_1110 hl (by decide) rfl (fun ls hl => ?_)
  refine lv_aload_n hx hb d_L_law_1112 rfl (lv_at hl 4 rfl) ?_
  have hPc := hP.sub (ws' := [(mo, .inr (5, fs_20))]) [1] rfl
  have hKc := hK.sub (tys' := []) [] rfl
  refine va_calli (va_runV (As := []) (rest := []) ⟨hx, hb, hml, hown, hts⟩ (k_M_thrown l dC dI mo fs_20 1 hfs) (cwV 0 hts (gV hsub w_401 w_402 w_403 w_266 w_404) rfl rfl rfl (by decide +kernel) ⟨Nat.le_of_ble_eq_true rfl, Nat.le_of_ble_eq_true rfl⟩) ⟨bl_0000, va_recv hKc hPc (ci := 5) (q0 := 0) rfl rfl, fun U hU hW => ⟨rfl, by rw [hU]; exact hPc, va_K.moved hW.alike hKc⟩⟩ rfl rfl hl.1 rfl (lv_room (Nat.le_of_ble_eq_true rfl)) d_L_law_1113 ⟨Nat.le_of_ble_eq_true rfl, Nat.le_of_ble_eq_true rfl⟩) hS (fun q _ h => h.elim) (fun q h => h.elim) (fun r_22 u_23 t H1 locs ht hvm hw hB hz1 hk1 hS => ?_)
  have hP := ro_keep hP hk1
  generalize H1 = H at hP hS ⊢
  refine W.widen (k := 143) (n := 53751) (Nat.le_of_ble_eq_true rfl) (Nat.le_of_ble_eq_true rfl) ?_
  subst hw
  refine lv_iload hx hb d_L_law_1116 (lv_at hl 1 rfl) ?_
  refine lv_icmp_eq (tgt := 1123) hx hb d_L_law_1118 (by decide) (fun c_24 => ?_) (fun c_24 => ?_)
  · skip
    refine lv_iload hx hb d_L_law_1123 (lv_at hl 1 rfl) ?_
    refine lv_if_ne (tgt := 1139) hx hb d_L_law_1125 (by decide) (fun c_25 => ?_) (fun c_25 => ?_)
    · skip
      refine lv_goto (tgt := 1192) hx hb d_L_law_1139 (by decide) ?_
      refine lv_iinc (v := 7) (lv' := [(4, .int 7), (6, .long r_18), (5, .int 1), (3, .ref ou), (2, .ref mo), (1, .ref f), (0, .ref b)]) hx hb d_L_law_1192 hl (k := 2) rfl (by decide) (by decide) rfl (fun ls hl => ?_)
      refine lv_goto (tgt := 23) hx hb d_L_law_1195 (by decide) ?_
      refine lv_iload hx hb d_L_law_23 (lv_at hl 0 rfl) ?_
      refine lv_aload_n hx hb d_L_law_25 rfl (lv_at hl 6 rfl) ?_
      refine va_slen hx hb hX hbl hbA hS d_L_law_26 ?_
      refine tp_i 7 (rfl) ?_
      refine lv_bipush (v := 7) hx hb d_L_law_27 (by decide) ?_
      refine lv_isub hx hb d_L_law_29 ?_
      refine tp_i 0 (by decide) ?_
      refine lv_icmp_gt (tgt := 1198) hx hb d_L_law_30 (by decide) (fun c_26 => ?_) (fun c_26 => ?_)
      · skip
        refine lv_iconst (v := 1) hx hb d_L_law_1198 (by decide) ?_
        refine va_forget (fun q hq => hS.2.2 q hq) ?_
        refine W.widen (k := 600002) (n := 7302232) (Nat.le_of_ble_eq_true rfl) (Nat.le_of_ble_eq_true rfl) ?_
        exact lw_ret hx hb hr hlocks d_L_law_1199
      · skip
        first | exact absurd c_26 (by decide) | exact absurd (by decide) c_26
    · skip
      first | exact absurd c_25 (by decide) | exact absurd (by decide) c_25
  · skip
    first | exact absurd c_24 (by decide) | exact absurd (by decide) c_24

set_option maxHeartbeats 4000000 in
set_option maxRecDepth 100000 in
theorem law_c13 {p : Program} {e : Env} {s : State} {m : MethodId} {below : List Frame} {meth : Method} {cx : Code} (l : Launch) (hl9 : l.stackTraces = false) {b : Nat} {xs : Nat → Int32} (C0 : lw_At p s m meth cx b 7 xs) (hex : exP (fun q : Nat => s.heap.size ≤ q) s) {dC : Nat → ClassId} {dI : Nat → Nat → Nat} {f w wp wu wi wc wt wx wm k kh ks kc9 tp mo m_above m_isFace m_fieldClass m_fieldType m_fieldStatic m_arguments m_argumentCount m_results m_sizes m_codes m_maxStack m_maxLocals m_handlers m_handlerFrom m_handlerTo m_handlerPlace m_handlerClass m_verified m_fault m_faultAt m_tape m_begins m_high m_locals m_stacks m_due m_dead m_framed m_local m_before m_stack m_given m_givenStack m_cutFrom m_cutTo m_cutPlace m_cutClass m_bytes m_was m_now m_ends m_statics m_thingType m_thingSize m_elements m_slots m_callMethod m_callPlace m_callHigh m_values m_piles ou : Nat} {kp  ku  ki  kc  kt  kx  km  kt9  k_above  k_isFace  k_fieldClass  k_fieldType  k_fieldStatic  k_arguments  k_argumentCount  k_results  k_tape  k_ends  ko : ClassId} {H : Heap} {locs : List Loc} (hK : va_K (dC, dI) vwCl [(k_ends, .int)] s) (hP : va_P (dC, dI) vwCl [(f, .inr (4, [.ref w, .ref k, .ref tp, .int 0])), (k, .inr (2, [.ref kh, .ref ks, .ref kc9, .null, .int 0, .null, .int 0, .int 0, .int 0, .int 0, .long 0, .int (-1), .int 0, .int (-1)])), (mo, .inr (5, [.int 0, .int 2, .ref m_above, .ref m_isFace, .int 0, .ref m_fieldClass, .ref m_fieldType, .ref m_fieldStatic, .int 0, .ref m_arguments, .ref m_argumentCount, .ref m_results, .ref m_sizes, .ref m_codes, .ref m_maxStack, .ref m_maxLocals, .ref m_handlers, .ref m_handlerFrom, .ref m_handlerTo, .ref m_handlerPlace, .ref m_handlerClass, .ref m_verified, .ref m_fault, .ref m_faultAt, .int 0, .ref m_tape, .ref m_begins, .ref m_high, .ref m_locals, .ref m_stacks, .ref m_due, .ref m_dead, .ref m_framed, .int 0, .int 0, .int 0, .int 0, .ref m_local, .ref m_before, .ref m_stack, .int 0, .ref m_given, .ref m_givenStack, .int 0, .int 0, .int 0, .ref m_cutFrom, .ref m_cutTo, .ref m_cutPlace, .ref m_cutClass, .int 0, .ref m_bytes, .ref m_was, .int 0, .ref m_now, .int 0, .ref m_ends, .ref m_statics, .int 0, .ref m_thingType, .ref m_thingSize, .ref m_elements, .ref m_slots, .int 0, .ref m_callMethod, .ref m_callPlace, .ref m_callHigh, .ref m_values, .ref m_piles, .int 0, .long 0])), (m_ends, .inl (k_ends, 4, .inl endF))] H) (hD : va_D (fun q : Nat => s.heap.size ≤ q) [(f, .inr (4, [.ref w, .ref k, .ref tp, .int 0])), (k, .inr (2, [.ref kh, .ref ks, .ref kc9, .null, .int 0, .null, .int 0, .int 0, .int 0, .int 0, .long 0, .int (-1), .int 0, .int (-1)])), (mo, .inr (5, [.int 0, .int 2, .ref m_above, .ref m_isFace, .int 0, .ref m_fieldClass, .ref m_fieldType, .ref m_fieldStatic, .int 0, .ref m_arguments, .ref m_argumentCount, .ref m_results, .ref m_sizes, .ref m_codes, .ref m_maxStack, .ref m_maxLocals, .ref m_handlers, .ref m_handlerFrom, .ref m_handlerTo, .ref m_handlerPlace, .ref m_handlerClass, .ref m_verified, .ref m_fault, .ref m_faultAt, .int 0, .ref m_tape, .ref m_begins, .ref m_high, .ref m_locals, .ref m_stacks, .ref m_due, .ref m_dead, .ref m_framed, .int 0, .int 0, .int 0, .int 0, .ref m_local, .ref m_before, .ref m_stack, .int 0, .ref m_given, .ref m_givenStack, .int 0, .int 0, .int 0, .ref m_cutFrom, .ref m_cutTo, .ref m_cutPlace, .ref m_cutClass, .int 0, .ref m_bytes, .ref m_was, .int 0, .ref m_now, .int 0, .ref m_ends, .ref m_statics, .int 0, .ref m_thingType, .ref m_thingSize, .ref m_elements, .ref m_slots, .int 0, .ref m_callMethod, .ref m_callPlace, .ref m_callHigh, .ref m_values, .ref m_piles, .int 0, .long 0])), (m_ends, .inl (k_ends, 4, .inl endF))]) (hS : va_S (fun q : Nat => s.heap.size ≤ q) s.heap H locs) {ls : Array Slot} (hl : lv_has ls 8 [(4, .int 0), (3, .ref ou), (2, .ref mo), (1, .ref f), (0, .ref b)]) : W p l e room_1 s m #[Value.ref b] below meth cx H locs 142 53745 (lw_Z below #[Value.ref b] s) (F0 m 1142 ls []) := by
  obtain ⟨hx, hb, hr, hml, hown0, hts0, hX, hbl, hlocks, hgv⟩ := id C0
  have hown : s.vm.findClass "MapFramerLaw" = some m.cls := hown0
  have hts : ∀ w ∈ bigW, w.before #[Value.ref b] s = true := fun w h => hts0 w (List.mem_filter.mp h).1
  have hsub : ∀ w ∈ bigW, w ∈ bigW := fun _ h => h
  have hA : ∀ q : Nat, s.heap.size ≤ q → (fun q : Nat => s.heap.size ≤ q) q := fun _ h => h
  have hbA : ¬ (fun q : Nat => s.heap.size ≤ q) b := Nat.not_le.mpr hbl
  refine lv_aload_n hx hb d_L_law_1142 rfl (lv_at hl 3 rfl) ?_
  refine lv_aload_n hx hb d_L_law_1143 rfl (lv_at hl 4 rfl) ?_
  refine lv_iload hx hb d_L_law_1144 (lv_at hl 0 rfl) ?_
  refine lv_iconst (v := 1) hx hb d_L_law_1146 (by decide) ?_
  refine lv_iadd hx hb d_L_law_1147 ?_
  refine tp_i 1 (by decide) ?_
  refine va_sld hx hb hX hbl hbA hS (vp_in_iff.mpr (by decide)) d_L_law_1148 ?_
  refine tp_i (xs 1) (congrArg xs (by decide)) ?_
  have hPc := hP.sub (ws' := [(f, .inr (4, [.ref w, .ref k, .ref tp, .int 0])), (k, .inr (2, [.ref kh, .ref ks, .ref kc9, .null, .int 0, .null, .int 0, .int 0, .int 0, .int 0, .long 0, .int (-1), .int 0, .int (-1)]))]) [0, 1] rfl
  have hKc := hK.sub (tys' := []) [] rfl
  refine va_calli (va_runV (As := [.int (xs 1)]) (rest := []) ⟨hx, hb, hml, hown, hts⟩ (k_F_end l dC dI f w tp k kh ks kc9 ((xs 1))) (cwV 1 hts (gV hsub w_491 w_492 w_493 w_335 w_494) rfl rfl rfl (by decide +kernel) ⟨Nat.le_of_ble_eq_true rfl, Nat.le_of_ble_eq_true rfl⟩) ⟨bl_0000, va_recv hKc hPc (ci := 4) (q0 := 0) rfl rfl, fun U hU hW => ⟨rfl, by rw [hU]; exact hPc, va_K.moved hW.alike hKc⟩⟩ rfl rfl hl.1 rfl (lv_room (Nat.le_of_ble_eq_true rfl)) d_L_law_1149 ⟨Nat.le_of_ble_eq_true rfl, Nat.le_of_ble_eq_true rfl⟩) hS (fun q _ h => h.elim) (fun q h => h.elim) (fun r_2 u_3 t H1 locs ht hvm hw hB hz1 hk1 hS => ?_)
  have hP := ro_keep hP hk1
  generalize H1 = H at hP hS ⊢
  refine W.widen (k := 142) (n := 53745) (Nat.le_of_ble_eq_true rfl) (Nat.le_of_ble_eq_true rfl) ?_
  subst hw
  refine lv_aload_n hx hb d_L_law_1152 rfl (lv_at hl 2 rfl) ?_
  refine lv_aload_n hx hb d_L_law_1153 rfl (lv_at hl 4 rfl) ?_
  refine lv_iload hx hb d_L_law_1154 (lv_at hl 0 rfl) ?_
  refine lv_iconst (v := 1) hx hb d_L_law_1156 (by decide) ?_
  refine lv_iadd hx hb d_L_law_1157 ?_
  refine tp_i 1 (by decide) ?_
  refine va_sld hx hb hX hbl hbA hS (vp_in_iff.mpr (by decide)) d_L_law_1158 ?_
  refine tp_i (xs 1) (congrArg xs (by decide)) ?_
  have hPc := hP.sub (ws' := [(mo, .inr (5, [.int 0, .int 2, .ref m_above, .ref m_isFace, .int 0, .ref m_fieldClass, .ref m_fieldType, .ref m_fieldStatic, .int 0, .ref m_arguments, .ref m_argumentCount, .ref m_results, .ref m_sizes, .ref m_codes, .ref m_maxStack, .ref m_maxLocals, .ref m_handlers, .ref m_handlerFrom, .ref m_handlerTo, .ref m_handlerPlace, .ref m_handlerClass, .ref m_verified, .ref m_fault, .ref m_faultAt, .int 0, .ref m_tape, .ref m_begins, .ref m_high, .ref m_locals, .ref m_stacks, .ref m_due, .ref m_dead, .ref m_framed, .int 0, .int 0, .int 0, .int 0, .ref m_local, .ref m_before, .ref m_stack, .int 0, .ref m_given, .ref m_givenStack, .int 0, .int 0, .int 0, .ref m_cutFrom, .ref m_cutTo, .ref m_cutPlace, .ref m_cutClass, .int 0, .ref m_bytes, .ref m_was, .int 0, .ref m_now, .int 0, .ref m_ends, .ref m_statics, .int 0, .ref m_thingType, .ref m_thingSize, .ref m_elements, .ref m_slots, .int 0, .ref m_callMethod, .ref m_callPlace, .ref m_callHigh, .ref m_values, .ref m_piles, .int 0, .long 0])), (m_ends, .inl (k_ends, 4, .inl endF))]) [2, 3] rfl
  have hKc := hK.sub (tys' := [(k_ends, .int)]) [0] rfl
  have hDc := hD.sub (ws' := [(mo, .inr (5, [.int 0, .int 2, .ref m_above, .ref m_isFace, .int 0, .ref m_fieldClass, .ref m_fieldType, .ref m_fieldStatic, .int 0, .ref m_arguments, .ref m_argumentCount, .ref m_results, .ref m_sizes, .ref m_codes, .ref m_maxStack, .ref m_maxLocals, .ref m_handlers, .ref m_handlerFrom, .ref m_handlerTo, .ref m_handlerPlace, .ref m_handlerClass, .ref m_verified, .ref m_fault, .ref m_faultAt, .int 0, .ref m_tape, .ref m_begins, .ref m_high, .ref m_locals, .ref m_stacks, .ref m_due, .ref m_dead, .ref m_framed, .int 0, .int 0, .int 0, .int 0, .ref m_local, .ref m_before, .ref m_stack, .int 0, .ref m_given, .ref m_givenStack, .int 0, .int 0, .int 0, .ref m_cutFrom, .ref m_cutTo, .ref m_cutPlace, .ref m_cutClass, .int 0, .ref m_bytes, .ref m_was, .int 0, .ref m_now, .int 0, .ref m_ends, .ref m_statics, .int 0, .ref m_thingType, .ref m_thingSize, .ref m_elements, .ref m_slots, .int 0, .ref m_callMethod, .ref m_callPlace, .ref m_callHigh, .ref m_values, .ref m_piles, .int 0, .long 0])), (m_ends, .inl (k_ends, 4, .inl endF))]) [2, 3] (by decide) rfl
  have hFc := va_free (wc := [(mo, .inr (5, [.int 0, .int 2, .ref m_above, .ref m_isFace, .int 0, .ref m_fieldClass, .ref m_fieldType, .ref m_fieldStatic, .int 0, .ref m_arguments, .ref m_argumentCount, .ref m_results, .ref m_sizes, .ref m_codes, .ref m_maxStack, .ref m_maxLocals, .ref m_handlers, .ref m_handlerFrom, .ref m_handlerTo, .ref m_handlerPlace, .ref m_handlerClass, .ref m_verified, .ref m_fault, .ref m_faultAt, .int 0, .ref m_tape, .ref m_begins, .ref m_high, .ref m_locals, .ref m_stacks, .ref m_due, .ref m_dead, .ref m_framed, .int 0, .int 0, .int 0, .int 0, .ref m_local, .ref m_before, .ref m_stack, .int 0, .ref m_given, .ref m_givenStack, .int 0, .int 0, .int 0, .ref m_cutFrom, .ref m_cutTo, .ref m_cutPlace, .ref m_cutClass, .int 0, .ref m_bytes, .ref m_was, .int 0, .ref m_now, .int 0, .ref m_ends, .ref m_statics, .int 0, .ref m_thingType, .ref m_thingSize, .ref m_elements, .ref m_slots, .int 0, .ref m_callMethod, .ref m_callPlace, .ref m_callHigh, .ref m_values, .ref m_piles, .int 0, .long 0])), (m_ends, .inl (k_ends, 4, .inl endF))]) hD hS hA [2, 3] rfl
  refine va_calli (va_runV (As := [.int (xs 1)]) (rest := [.int (-1)]) ⟨hx, hb, hml, hown, hts⟩ (k_M_end l dC dI mo m_above m_isFace m_fieldClass m_fieldType m_fieldStatic m_arguments m_argumentCount m_results m_sizes m_codes m_maxStack m_maxLocals m_handlers m_handlerFrom m_handlerTo m_handlerPlace m_handlerClass m_verified m_fault m_faultAt m_tape m_begins m_high m_locals m_stacks m_due m_dead m_framed m_local m_before m_stack m_given m_givenStack m_cutFrom m_cutTo m_cutPlace m_cutClass m_bytes m_was m_now m_ends m_statics m_thingType m_thingSize m_elements m_slots m_callMethod m_callPlace m_callHigh m_values m_piles k_ends ((xs 1)) H.size) (cwV 1 hts (gV hsub w_495 w_496 w_497 w_266 w_498) rfl rfl rfl (by decide +kernel) ⟨Nat.le_of_ble_eq_true rfl, Nat.le_of_ble_eq_true rfl⟩) ⟨bl_1000, va_recv hKc hPc (ci := 5) (q0 := 0) rfl rfl, fun U hU hW => ⟨rfl, by rw [hU], by rw [hU]; exact hPc, va_K.moved hW.alike hKc, hDc.weaken (fun _ _ _ _ => trivial)⟩⟩ rfl rfl hl.1 rfl (lv_room (Nat.le_of_ble_eq_true rfl)) d_L_law_1159 ⟨Nat.le_of_ble_eq_true rfl, Nat.le_of_ble_eq_true rfl⟩) hS (fun q _ h => hFc q h) hFc (fun r_5 u_6 t H1 locs ht hvm hw hB hz1 hk1 hS => ?_)
  obtain ⟨fs_7, hfs, hP1, hK1, hD1⟩ := hB
  rw [ht] at hP1
  have hK1 := va_K.moved hvm.symm hK1
  obtain ⟨hP, hD⟩ := va_join (wr := [(f, .inr (4, [.ref w, .ref k, .ref tp, .int 0])), (k, .inr (2, [.ref kh, .ref ks, .ref kc9, .null, .int 0, .null, .int 0, .int 0, .int 0, .int 0, .long 0, .int (-1), .int 0, .int (-1)]))]) (w1 := [(mo, .inr (5, fs_7))]) hP hD [2, 3] [0, 1] rfl rfl (by decide) (by decide) hk1 hFc hP1 hD1
  have hK := (hK.sub (tys' := [(k_ends, .int)]) [0] rfl).app hK1
  generalize H1 = H at hP hS ⊢
  have hP : va_P (dC, dI) vwCl [(f, .inr (4, [.ref w, .ref k, .ref tp, .int 0])), (k, .inr (2, [.ref kh, .ref ks, .ref kc9, .null, .int 0, .null, .int 0, .int 0, .int 0, .int 0, .long 0, .int (-1), .int 0, .int (-1)])), (mo, .inr (5, fs_7))] H := hP
  have hD : va_D (fun q : Nat => s.heap.size ≤ q) [(f, .inr (4, [.ref w, .ref k, .ref tp, .int 0])), (k, .inr (2, [.ref kh, .ref ks, .ref kc9, .null, .int 0, .null, .int 0, .int 0, .int 0, .int 0, .long 0, .int (-1), .int 0, .int (-1)])), (mo, .inr (5, fs_7))] := hD
  have hK : va_K (dC, dI) vwCl [(k_ends, .int)] s := hK
  refine W.widen (k := 142) (n := 53745) (Nat.le_of_ble_eq_true rfl) (Nat.le_of_ble_eq_true rfl) ?_
  obtain ⟨h91, h92⟩ := hw
  subst h91; subst h92
  refine lv_icmp_eq (tgt := 1192) hx hb d_L_law_1162 (by decide) (fun c_8 => ?_) (fun c_8 => ?_)
  · skip
    refine lv_iinc (v := 7) (lv' := [(4, .int 7), (3, .ref ou), (2, .ref mo), (1, .ref f), (0, .ref b)]) hx hb d_L_law_1192 hl (k := 0) rfl (by decide) (by decide) rfl (fun ls hl => ?_)
    refine lv_goto (tgt := 23) hx hb d_L_law_1195 (by decide) ?_
    refine lv_iload hx hb d_L_law_23 (lv_at hl 0 rfl) ?_
    refine lv_aload_n hx hb d_L_law_25 rfl (lv_at hl 4 rfl) ?_
    refine va_slen hx hb hX hbl hbA hS d_L_law_26 ?_
    refine tp_i 7 (rfl) ?_
    refine lv_bipush (v := 7) hx hb d_L_law_27 (by decide) ?_
    refine lv_isub hx hb d_L_law_29 ?_
    refine tp_i 0 (by decide) ?_
    refine lv_icmp_gt (tgt := 1198) hx hb d_L_law_30 (by decide) (fun c_9 => ?_) (fun c_9 => ?_)
    · skip
      refine lv_iconst (v := 1) hx hb d_L_law_1198 (by decide) ?_
      refine va_forget (fun q hq => hS.2.2 q hq) ?_
      refine W.widen (k := 600002) (n := 7302232) (Nat.le_of_ble_eq_true rfl) (Nat.le_of_ble_eq_true rfl) ?_
      exact lw_ret hx hb hr hlocks d_L_law_1199
    · skip
      first | exact absurd c_9 (by decide) | exact absurd (by decide) c_9
  · skip
    first | exact absurd c_8 (by decide) | exact absurd (by decide) c_8

set_option maxHeartbeats 4000000 in
set_option maxRecDepth 100000 in
theorem law_c14 {p : Program} {e : Env} {s : State} {m : MethodId} {below : List Frame} {meth : Method} {cx : Code} (l : Launch) (hl9 : l.stackTraces = false) {b : Nat} {xs : Nat → Int32} (C0 : lw_At p s m meth cx b 7 xs) (hex : exP (fun q : Nat => s.heap.size ≤ q) s) {dC : Nat → ClassId} {dI : Nat → Nat → Nat} {f w wp wu wi wc wt wx wm k kh ks kc9 tp mo m_above m_isFace m_fieldClass m_fieldType m_fieldStatic m_arguments m_argumentCount m_results m_sizes m_codes m_maxStack m_maxLocals m_handlers m_handlerFrom m_handlerTo m_handlerPlace m_handlerClass m_verified m_fault m_faultAt m_tape m_begins m_high m_locals m_stacks m_due m_dead m_framed m_local m_before m_stack m_given m_givenStack m_cutFrom m_cutTo m_cutPlace m_cutClass m_bytes m_was m_now m_ends m_statics m_thingType m_thingSize m_elements m_slots m_callMethod m_callPlace m_callHigh m_values m_piles ou : Nat} {kp  ku  ki  kc  kt  kx  km  kt9  k_above  k_isFace  k_fieldClass  k_fieldType  k_fieldStatic  k_arguments  k_argumentCount  k_results  k_tape  k_ends  ko : ClassId} {H : Heap} {locs : List Loc} (hK : va_K (dC, dI) vwCl [] s) (hP : va_P (dC, dI) vwCl [(f, .inr (4, [.ref w, .ref k, .ref tp, .int 0])), (w, .inr (3, [.ref wp, .ref wu, .ref wi, .int 2, .ref wc, .ref wt, .ref wx, .int 0, .ref wm, .int 0])), (mo, .inr (5, [.int 0, .int 2, .ref m_above, .ref m_isFace, .int 0, .ref m_fieldClass, .ref m_fieldType, .ref m_fieldStatic, .int 0, .ref m_arguments, .ref m_argumentCount, .ref m_results, .ref m_sizes, .ref m_codes, .ref m_maxStack, .ref m_maxLocals, .ref m_handlers, .ref m_handlerFrom, .ref m_handlerTo, .ref m_handlerPlace, .ref m_handlerClass, .ref m_verified, .ref m_fault, .ref m_faultAt, .int 0, .ref m_tape, .ref m_begins, .ref m_high, .ref m_locals, .ref m_stacks, .ref m_due, .ref m_dead, .ref m_framed, .int 0, .int 0, .int 0, .int 0, .ref m_local, .ref m_before, .ref m_stack, .int 0, .ref m_given, .ref m_givenStack, .int 0, .int 0, .int 0, .ref m_cutFrom, .ref m_cutTo, .ref m_cutPlace, .ref m_cutClass, .int 0, .ref m_bytes, .ref m_was, .int 0, .ref m_now, .int 0, .ref m_ends, .ref m_statics, .int 0, .ref m_thingType, .ref m_thingSize, .ref m_elements, .ref m_slots, .int 0, .ref m_callMethod, .ref m_callPlace, .ref m_callHigh, .ref m_values, .ref m_piles, .int 0, .long 0]))] H) (hD : va_D (fun q : Nat => s.heap.size ≤ q) [(f, .inr (4, [.ref w, .ref k, .ref tp, .int 0])), (w, .inr (3, [.ref wp, .ref wu, .ref wi, .int 2, .ref wc, .ref wt, .ref wx, .int 0, .ref wm, .int 0])), (mo, .inr (5, [.int 0, .int 2, .ref m_above, .ref m_isFace, .int 0, .ref m_fieldClass, .ref m_fieldType, .ref m_fieldStatic, .int 0, .ref m_arguments, .ref m_argumentCount, .ref m_results, .ref m_sizes, .ref m_codes, .ref m_maxStack, .ref m_maxLocals, .ref m_handlers, .ref m_handlerFrom, .ref m_handlerTo, .ref m_handlerPlace, .ref m_handlerClass, .ref m_verified, .ref m_fault, .ref m_faultAt, .int 0, .ref m_tape, .ref m_begins, .ref m_high, .ref m_locals, .ref m_stacks, .ref m_due, .ref m_dead, .ref m_framed, .int 0, .int 0, .int 0, .int 0, .ref m_local, .ref m_before, .ref m_stack, .int 0, .ref m_given, .ref m_givenStack, .int 0, .int 0, .int 0, .ref m_cutFrom, .ref m_cutTo, .ref m_cutPlace, .ref m_cutClass, .int 0, .ref m_bytes, .ref m_was, .int 0, .ref m_now, .int 0, .ref m_ends, .ref m_statics, .int 0, .ref m_thingType, .ref m_thingSize, .ref m_elements, .ref m_slots, .int 0, .ref m_callMethod, .ref m_callPlace, .ref m_callHigh, .ref m_values, .ref m_piles, .int 0, .long 0]))]) (hS : va_S (fun q : Nat => s.heap.size ≤ q) s.heap H locs) {ls : Array Slot} (hl : lv_has ls 8 [(4, .int 0), (3, .ref ou), (2, .ref mo), (1, .ref f), (0, .ref b)]) : W p l e room_1 s m #[Value.ref b] below meth cx H locs 142 53745 (lw_Z below #[Value.ref b] s) (F0 m 1167 ls []) := by
  obtain ⟨hx, hb, hr, hml, hown0, hts0, hX, hbl, hlocks, hgv⟩ := id C0
  have hown : s.vm.findClass "MapFramerLaw" = some m.cls := hown0
  have hts : ∀ w ∈ bigW, w.before #[Value.ref b] s = true := fun w h => hts0 w (List.mem_filter.mp h).1
  have hsub : ∀ w ∈ bigW, w ∈ bigW := fun _ h => h
  have hA : ∀ q : Nat, s.heap.size ≤ q → (fun q : Nat => s.heap.size ≤ q) q := fun _ h => h
  have hbA : ¬ (fun q : Nat => s.heap.size ≤ q) b := Nat.not_le.mpr hbl
  refine lv_aload_n hx hb d_L_law_1167 rfl (lv_at hl 3 rfl) ?_
  refine lv_aload_n hx hb d_L_law_1168 rfl (lv_at hl 4 rfl) ?_
  refine lv_iload hx hb d_L_law_1169 (lv_at hl 0 rfl) ?_
  refine lv_iconst (v := 1) hx hb d_L_law_1171 (by decide) ?_
  refine lv_iadd hx hb d_L_law_1172 ?_
  refine tp_i 1 (by decide) ?_
  refine va_sld hx hb hX hbl hbA hS (vp_in_iff.mpr (by decide)) d_L_law_1173 ?_
  refine tp_i (xs 1) (congrArg xs (by decide)) ?_
  have hPc := hP.sub (ws' := [(f, .inr (4, [.ref w, .ref k, .ref tp, .int 0])), (w, .inr (3, [.ref wp, .ref wu, .ref wi, .int 2, .ref wc, .ref wt, .ref wx, .int 0, .ref wm, .int 0]))]) [0, 1] rfl
  have hKc := hK.sub (tys' := []) [] rfl
  refine va_calli (va_runV (As := [.int (xs 1)]) (rest := []) ⟨hx, hb, hml, hown, hts⟩ (k_F_count l dC dI f w k tp wp wu wi wc wt wx wm ((xs 1))) (cwV 1 hts (gV hsub w_499 w_500 w_501 w_335 w_502) rfl rfl rfl (by decide +kernel) ⟨Nat.le_of_ble_eq_true rfl, Nat.le_of_ble_eq_true rfl⟩) ⟨bl_0000, va_recv hKc hPc (ci := 4) (q0 := 0) rfl rfl, fun U hU hW => ⟨rfl, by rw [hU]; exact hPc, va_K.moved hW.alike hKc⟩⟩ rfl rfl hl.1 rfl (lv_room (Nat.le_of_ble_eq_true rfl)) d_L_law_1174 ⟨Nat.le_of_ble_eq_true rfl, Nat.le_of_ble_eq_true rfl⟩) hS (fun q _ h => h.elim) (fun q h => h.elim) (fun r_2 u_3 t H1 locs ht hvm hw hB hz1 hk1 hS => ?_)
  have hP := ro_keep hP hk1
  generalize H1 = H at hP hS ⊢
  refine W.widen (k := 142) (n := 53745) (Nat.le_of_ble_eq_true rfl) (Nat.le_of_ble_eq_true rfl) ?_
  subst hw
  refine lv_aload_n hx hb d_L_law_1177 rfl (lv_at hl 2 rfl) ?_
  refine lv_aload_n hx hb d_L_law_1178 rfl (lv_at hl 4 rfl) ?_
  refine lv_iload hx hb d_L_law_1179 (lv_at hl 0 rfl) ?_
  refine lv_iconst (v := 1) hx hb d_L_law_1181 (by decide) ?_
  refine lv_iadd hx hb d_L_law_1182 ?_
  refine tp_i 1 (by decide) ?_
  refine va_sld hx hb hX hbl hbA hS (vp_in_iff.mpr (by decide)) d_L_law_1183 ?_
  refine tp_i (xs 1) (congrArg xs (by decide)) ?_
  have hPc := hP.sub (ws' := [(mo, .inr (5, [.int 0, .int 2, .ref m_above, .ref m_isFace, .int 0, .ref m_fieldClass, .ref m_fieldType, .ref m_fieldStatic, .int 0, .ref m_arguments, .ref m_argumentCount, .ref m_results, .ref m_sizes, .ref m_codes, .ref m_maxStack, .ref m_maxLocals, .ref m_handlers, .ref m_handlerFrom, .ref m_handlerTo, .ref m_handlerPlace, .ref m_handlerClass, .ref m_verified, .ref m_fault, .ref m_faultAt, .int 0, .ref m_tape, .ref m_begins, .ref m_high, .ref m_locals, .ref m_stacks, .ref m_due, .ref m_dead, .ref m_framed, .int 0, .int 0, .int 0, .int 0, .ref m_local, .ref m_before, .ref m_stack, .int 0, .ref m_given, .ref m_givenStack, .int 0, .int 0, .int 0, .ref m_cutFrom, .ref m_cutTo, .ref m_cutPlace, .ref m_cutClass, .int 0, .ref m_bytes, .ref m_was, .int 0, .ref m_now, .int 0, .ref m_ends, .ref m_statics, .int 0, .ref m_thingType, .ref m_thingSize, .ref m_elements, .ref m_slots, .int 0, .ref m_callMethod, .ref m_callPlace, .ref m_callHigh, .ref m_values, .ref m_piles, .int 0, .long 0]))]) [2] rfl
  have hKc := hK.sub (tys' := []) [] rfl
  have hDc := hD.sub (ws' := [(mo, .inr (5, [.int 0, .int 2, .ref m_above, .ref m_isFace, .int 0, .ref m_fieldClass, .ref m_fieldType, .ref m_fieldStatic, .int 0, .ref m_arguments, .ref m_argumentCount, .ref m_results, .ref m_sizes, .ref m_codes, .ref m_maxStack, .ref m_maxLocals, .ref m_handlers, .ref m_handlerFrom, .ref m_handlerTo, .ref m_handlerPlace, .ref m_handlerClass, .ref m_verified, .ref m_fault, .ref m_faultAt, .int 0, .ref m_tape, .ref m_begins, .ref m_high, .ref m_locals, .ref m_stacks, .ref m_due, .ref m_dead, .ref m_framed, .int 0, .int 0, .int 0, .int 0, .ref m_local, .ref m_before, .ref m_stack, .int 0, .ref m_given, .ref m_givenStack, .int 0, .int 0, .int 0, .ref m_cutFrom, .ref m_cutTo, .ref m_cutPlace, .ref m_cutClass, .int 0, .ref m_bytes, .ref m_was, .int 0, .ref m_now, .int 0, .ref m_ends, .ref m_statics, .int 0, .ref m_thingType, .ref m_thingSize, .ref m_elements, .ref m_slots, .int 0, .ref m_callMethod, .ref m_callPlace, .ref m_callHigh, .ref m_values, .ref m_piles, .int 0, .long 0]))]) [2] (by decide) rfl
  have hFc := va_free (wc := [(mo, .inr (5, [.int 0, .int 2, .ref m_above, .ref m_isFace, .int 0, .ref m_fieldClass, .ref m_fieldType, .ref m_fieldStatic, .int 0, .ref m_arguments, .ref m_argumentCount, .ref m_results, .ref m_sizes, .ref m_codes, .ref m_maxStack, .ref m_maxLocals, .ref m_handlers, .ref m_handlerFrom, .ref m_handlerTo, .ref m_handlerPlace, .ref m_handlerClass, .ref m_verified, .ref m_fault, .ref m_faultAt, .int 0, .ref m_tape, .ref m_begins, .ref m_high, .ref m_locals, .ref m_stacks, .ref m_due, .ref m_dead, .ref m_framed, .int 0, .int 0, .int 0, .int 0, .ref m_local, .ref m_before, .ref m_stack, .int 0, .ref m_given, .ref m_givenStack, .int 0, .int 0, .int 0, .ref m_cutFrom, .ref m_cutTo, .ref m_cutPlace, .ref m_cutClass, .int 0, .ref m_bytes, .ref m_was, .int 0, .ref m_now, .int 0, .ref m_ends, .ref m_statics, .int 0, .ref m_thingType, .ref m_thingSize, .ref m_elements, .ref m_slots, .int 0, .ref m_callMethod, .ref m_callPlace, .ref m_callHigh, .ref m_values, .ref m_piles, .int 0, .long 0]))]) hD hS hA [2] rfl
  refine va_calli (va_runV (As := [.int (xs 1)]) (rest := [.int (cntF (xs 1))]) ⟨hx, hb, hml, hown, hts⟩ (k_M_count l dC dI mo m_above m_isFace m_fieldClass m_fieldType m_fieldStatic m_arguments m_argumentCount m_results m_sizes m_codes m_maxStack m_maxLocals m_handlers m_handlerFrom m_handlerTo m_handlerPlace m_handlerClass m_verified m_fault m_faultAt m_tape m_begins m_high m_locals m_stacks m_due m_dead m_framed m_local m_before m_stack m_given m_givenStack m_cutFrom m_cutTo m_cutPlace m_cutClass m_bytes m_was m_now m_ends m_statics m_thingType m_thingSize m_elements m_slots m_callMethod m_callPlace m_callHigh m_values m_piles ((xs 1)) H.size) (cwV 1 hts (gV hsub w_503 w_504 w_505 w_266 w_506) rfl rfl rfl (by decide +kernel) ⟨Nat.le_of_ble_eq_true rfl, Nat.le_of_ble_eq_true rfl⟩) ⟨bl_1000, va_recv hKc hPc (ci := 5) (q0 := 0) rfl rfl, fun U hU hW => ⟨rfl, by rw [hU], by rw [hU]; exact hPc, va_K.moved hW.alike hKc, hDc.weaken (fun _ _ _ _ => trivial)⟩⟩ rfl rfl hl.1 rfl (lv_room (Nat.le_of_ble_eq_true rfl)) d_L_law_1184 ⟨Nat.le_of_ble_eq_true rfl, Nat.le_of_ble_eq_true rfl⟩) hS (fun q _ h => hFc q h) hFc (fun r_5 u_6 t H1 locs ht hvm hw hB hz1 hk1 hS => ?_)
  obtain ⟨fs_7, hfs, hP1, hK1, hD1⟩ := hB
  rw [ht] at hP1
  have hK1 := va_K.moved hvm.symm hK1
  obtain ⟨hP, hD⟩ := va_join (wr := [(f, .inr (4, [.ref w, .ref k, .ref tp, .int 0])), (w, .inr (3, [.ref wp, .ref wu, .ref wi, .int 2, .ref wc, .ref wt, .ref wx, .int 0, .ref wm, .int 0]))]) (w1 := [(mo, .inr (5, fs_7))]) hP hD [2] [0, 1] rfl rfl (by decide) (by decide) hk1 hFc hP1 hD1
  have hK := (hK.sub (tys' := []) [] rfl).app hK1
  generalize H1 = H at hP hS ⊢
  have hP : va_P (dC, dI) vwCl [(f, .inr (4, [.ref w, .ref k, .ref tp, .int 0])), (w, .inr (3, [.ref wp, .ref wu, .ref wi, .int 2, .ref wc, .ref wt, .ref wx, .int 0, .ref wm, .int 0])), (mo, .inr (5, fs_7))] H := hP
  have hD : va_D (fun q : Nat => s.heap.size ≤ q) [(f, .inr (4, [.ref w, .ref k, .ref tp, .int 0])), (w, .inr (3, [.ref wp, .ref wu, .ref wi, .int 2, .ref wc, .ref wt, .ref wx, .int 0, .ref wm, .int 0])), (mo, .inr (5, fs_7))] := hD
  have hK : va_K (dC, dI) vwCl [] s := hK
  refine W.widen (k := 142) (n := 53745) (Nat.le_of_ble_eq_true rfl) (Nat.le_of_ble_eq_true rfl) ?_
  obtain ⟨h91, h92⟩ := hw
  subst h91; subst h92
  refine lv_icmp_eq (tgt := 1192) hx hb d_L_law_1187 (by decide) (fun c_8 => ?_) (fun c_8 => ?_)
  · skip
    refine lv_iinc (v := 7) (lv' := [(4, .int 7), (3, .ref ou), (2, .ref mo), (1, .ref f), (0, .ref b)]) hx hb d_L_law_1192 hl (k := 0) rfl (by decide) (by decide) rfl (fun ls hl => ?_)
    refine lv_goto (tgt := 23) hx hb d_L_law_1195 (by decide) ?_
    refine lv_iload hx hb d_L_law_23 (lv_at hl 0 rfl) ?_
    refine lv_aload_n hx hb d_L_law_25 rfl (lv_at hl 4 rfl) ?_
    refine va_slen hx hb hX hbl hbA hS d_L_law_26 ?_
    refine tp_i 7 (rfl) ?_
    refine lv_bipush (v := 7) hx hb d_L_law_27 (by decide) ?_
    refine lv_isub hx hb d_L_law_29 ?_
    refine tp_i 0 (by decide) ?_
    refine lv_icmp_gt (tgt := 1198) hx hb d_L_law_30 (by decide) (fun c_9 => ?_) (fun c_9 => ?_)
    · skip
      refine lv_iconst (v := 1) hx hb d_L_law_1198 (by decide) ?_
      refine va_forget (fun q hq => hS.2.2 q hq) ?_
      refine W.widen (k := 600002) (n := 7302232) (Nat.le_of_ble_eq_true rfl) (Nat.le_of_ble_eq_true rfl) ?_
      exact lw_ret hx hb hr hlocks d_L_law_1199
    · skip
      first | exact absurd c_9 (by decide) | exact absurd (by decide) c_9
  · skip
    first | exact absurd rfl c_8 | exact absurd c_8 (fun h => h rfl)

set_option maxHeartbeats 4000000 in
set_option maxRecDepth 100000 in
theorem law_c15 {p : Program} {e : Env} {s : State} {m : MethodId} {below : List Frame} {meth : Method} {cx : Code} (l : Launch) (hl9 : l.stackTraces = false) {b : Nat} {xs : Nat → Int32} (C0 : lw_At p s m meth cx b 7 xs) (hex : exP (fun q : Nat => s.heap.size ≤ q) s) {dC : Nat → ClassId} {dI : Nat → Nat → Nat} {f w wp wu wi wc wt wx wm k kh ks kc9 tp mo m_above m_isFace m_fieldClass m_fieldType m_fieldStatic m_arguments m_argumentCount m_results m_sizes m_codes m_maxStack m_maxLocals m_handlers m_handlerFrom m_handlerTo m_handlerPlace m_handlerClass m_verified m_fault m_faultAt m_tape m_begins m_high m_locals m_stacks m_due m_dead m_framed m_local m_before m_stack m_given m_givenStack m_cutFrom m_cutTo m_cutPlace m_cutClass m_bytes m_was m_now m_ends m_statics m_thingType m_thingSize m_elements m_slots m_callMethod m_callPlace m_callHigh m_values m_piles ou : Nat} {kp  ku  ki  kc  kt  kx  km  kt9  k_above  k_isFace  k_fieldClass  k_fieldType  k_fieldStatic  k_arguments  k_argumentCount  k_results  k_tape  k_ends  ko : ClassId} {H : Heap} {locs : List Loc} (hK : va_K (dC, dI) vwCl [] s) (hP : va_P (dC, dI) vwCl [] H) (hD : va_D (fun q : Nat => s.heap.size ≤ q) []) (hS : va_S (fun q : Nat => s.heap.size ≤ q) s.heap H locs) {ls : Array Slot} (hl : lv_has ls 8 [(4, .int 0), (3, .ref ou), (2, .ref mo), (1, .ref f), (0, .ref b)]) : W p l e room_1 s m #[Value.ref b] below meth cx H locs 142 53745 (lw_Z below #[Value.ref b] s) (F0 m 1192 ls []) := by
  obtain ⟨hx, hb, hr, hml, hown0, hts0, hX, hbl, hlocks, hgv⟩ := id C0
  have hown : s.vm.findClass "MapFramerLaw" = some m.cls := hown0
  have hts : ∀ w ∈ bigW, w.before #[Value.ref b] s = true := fun w h => hts0 w (List.mem_filter.mp h).1
  have hsub : ∀ w ∈ bigW, w ∈ bigW := fun _ h => h
  have hA : ∀ q : Nat, s.heap.size ≤ q → (fun q : Nat => s.heap.size ≤ q) q := fun _ h => h
  have hbA : ¬ (fun q : Nat => s.heap.size ≤ q) b := Nat.not_le.mpr hbl
  refine lv_iinc (v := 7) (lv' := [(4, .int 7), (3, .ref ou), (2, .ref mo), (1, .ref f), (0, .ref b)]) hx hb d_L_law_1192 hl (k := 0) rfl (by decide) (by decide) rfl (fun ls hl => ?_)
  refine lv_goto (tgt := 23) hx hb d_L_law_1195 (by decide) ?_
  refine lv_iload hx hb d_L_law_23 (lv_at hl 0 rfl) ?_
  refine lv_aload_n hx hb d_L_law_25 rfl (lv_at hl 4 rfl) ?_
  refine va_slen hx hb hX hbl hbA hS d_L_law_26 ?_
  refine tp_i 7 (rfl) ?_
  refine lv_bipush (v := 7) hx hb d_L_law_27 (by decide) ?_
  refine lv_isub hx hb d_L_law_29 ?_
  refine tp_i 0 (by decide) ?_
  refine lv_icmp_gt (tgt := 1198) hx hb d_L_law_30 (by decide) (fun c_1 => ?_) (fun c_1 => ?_)
  · skip
    refine lv_iconst (v := 1) hx hb d_L_law_1198 (by decide) ?_
    refine va_forget (fun q hq => hS.2.2 q hq) ?_
    refine W.widen (k := 600002) (n := 7302232) (Nat.le_of_ble_eq_true rfl) (Nat.le_of_ble_eq_true rfl) ?_
    exact lw_ret hx hb hr hlocks d_L_law_1199
  · skip
    first | exact absurd c_1 (by decide) | exact absurd (by decide) c_1


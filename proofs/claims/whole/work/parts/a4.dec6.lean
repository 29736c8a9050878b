/-! printed by wip/whole/tools/dec.py: the law -/
theorem d_La_law_683 : decode code 683 = .ok (.aload_n 1, 1) := by decide +kernel
theorem d_La_law_684 : decode code 684 = .ok (.aload_n 0, 1) := by decide +kernel
theorem d_La_law_685 : decode code 685 = .ok (.iload 4, 2) := by decide +kernel
theorem d_La_law_687 : decode code 687 = .ok (.iconst 1, 1) := by decide +kernel
theorem d_La_law_688 : decode code 688 = .ok (.iadd, 1) := by decide +kernel
theorem d_La_law_689 : decode code 689 = .ok (.iaload, 1) := by decide +kernel
theorem d_La_law_690 : decode code 690 = .ok (.aload_n 0, 1) := by decide +kernel
theorem d_La_law_691 : decode code 691 = .ok (.iload 4, 2) := by decide +kernel
theorem d_La_law_693 : decode code 693 = .ok (.iconst 2, 1) := by decide +kernel
theorem d_La_law_694 : decode code 694 = .ok (.iadd, 1) := by decide +kernel
theorem d_La_law_695 : decode code 695 = .ok (.iaload, 1) := by decide +kernel
theorem d_La_law_696 : decode code 696 = .ok (.invokevirtual 99, 3) := by decide +kernel
theorem d_La_law_699 : decode code 699 = .ok (.aload_n 2, 1) := by decide +kernel
theorem d_La_law_700 : decode code 700 = .ok (.aload_n 0, 1) := by decide +kernel
theorem d_La_law_701 : decode code 701 = .ok (.iload 4, 2) := by decide +kernel
theorem d_La_law_703 : decode code 703 = .ok (.iconst 1, 1) := by decide +kernel
theorem d_La_law_704 : decode code 704 = .ok (.iadd, 1) := by decide +kernel
theorem d_La_law_705 : decode code 705 = .ok (.iaload, 1) := by decide +kernel
theorem d_La_law_706 : decode code 706 = .ok (.aload_n 0, 1) := by decide +kernel
theorem d_La_law_707 : decode code 707 = .ok (.iload 4, 2) := by decide +kernel
theorem d_La_law_709 : decode code 709 = .ok (.iconst 2, 1) := by decide +kernel
theorem d_La_law_710 : decode code 710 = .ok (.iadd, 1) := by decide +kernel
theorem d_La_law_711 : decode code 711 = .ok (.iaload, 1) := by decide +kernel
theorem d_La_law_712 : decode code 712 = .ok (.invokevirtual 102, 3) := by decide +kernel
theorem d_La_law_715 : decode code 715 = .ok (.if_icmp .eq 18, 3) := by decide +kernel
theorem d_La_law_718 : decode code 718 = .ok (.iconst 0, 1) := by decide +kernel
theorem d_La_law_719 : decode code 719 = .ok (.ireturn, 1) := by decide +kernel
theorem d_La_law_720 : decode code 720 = .ok (.aload_n 1, 1) := by decide +kernel
theorem d_La_law_721 : decode code 721 = .ok (.invokevirtual 103, 3) := by decide +kernel
theorem d_La_law_724 : decode code 724 = .ok (.aload_n 2, 1) := by decide +kernel
theorem d_La_law_725 : decode code 725 = .ok (.invokevirtual 106, 3) := by decide +kernel
theorem d_La_law_728 : decode code 728 = .ok (.if_icmp .eq 5, 3) := by decide +kernel
theorem d_La_law_731 : decode code 731 = .ok (.iconst 0, 1) := by decide +kernel
theorem d_La_law_732 : decode code 732 = .ok (.ireturn, 1) := by decide +kernel
theorem d_La_law_733 : decode code 733 = .ok (.iinc 4 5, 3) := by decide +kernel
theorem d_La_law_736 : decode code 736 = .ok (.goto (-713), 3) := by decide +kernel
theorem d_La_law_739 : decode code 739 = .ok (.iconst 1, 1) := by decide +kernel
theorem d_La_law_740 : decode code 740 = .ok (.ireturn, 1) := by decide +kernel

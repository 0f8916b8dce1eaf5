/-! the law, call by call, over what the mathematics has to say -/
theorem t_495 : (Jvm.Cond.methodLink "CanoeSidesLaw" (13 : Nat) ({ cls := "CanoeSides", name := "feed", desc := "(I)I" } : Jvm.MethodName)) ∈ TB := tb_of 495 (by decide +kernel) rfl
theorem t_496 : (Jvm.Cond.instanceMethod ({ cls := "CanoeSides", name := "feed", desc := "(I)I" } : Jvm.MethodName)) ∈ TB := tb_of 496 (by decide +kernel) rfl
theorem t_497 : (Jvm.Cond.selects "CanoeSides" ({ cls := "CanoeSides", name := "feed", desc := "(I)I" } : Jvm.MethodName) ({ cls := "CanoeSides", name := "feed", desc := "(I)I" } : Jvm.MethodName)) ∈ TB := tb_of 497 (by decide +kernel) rfl
theorem t_498 : (Jvm.Cond.code ({ cls := "CanoeSides", name := "feed", desc := "(I)I" } : Jvm.MethodName) prog_1_method_2_code (2 : Nat) (Option.some Jvm.ClassFile.FieldType.int)) ∈ TB := tb_of 498 (by decide +kernel) rfl
theorem t_504 : (Jvm.Cond.methodLink "CanoeSidesLaw" (18 : Nat) ({ cls := "CanoeSides", name := "river", desc := "()I" } : Jvm.MethodName)) ∈ TB := tb_of 504 (by decide +kernel) rfl
theorem t_505 : (Jvm.Cond.instanceMethod ({ cls := "CanoeSides", name := "river", desc := "()I" } : Jvm.MethodName)) ∈ TB := tb_of 505 (by decide +kernel) rfl
theorem t_506 : (Jvm.Cond.selects "CanoeSides" ({ cls := "CanoeSides", name := "river", desc := "()I" } : Jvm.MethodName) ({ cls := "CanoeSides", name := "river", desc := "()I" } : Jvm.MethodName)) ∈ TB := tb_of 506 (by decide +kernel) rfl
theorem t_507 : (Jvm.Cond.code ({ cls := "CanoeSides", name := "river", desc := "()I" } : Jvm.MethodName) prog_1_method_3_code (2 : Nat) (Option.some Jvm.ClassFile.FieldType.int)) ∈ TB := tb_of 507 (by decide +kernel) rfl
theorem t_703 : (Jvm.Cond.methodLink "CanoeSidesLaw" (23 : Nat) ({ cls := "CanoeSides", name := "fault", desc := "()I" } : Jvm.MethodName)) ∈ TB := tb_of 703 (by decide +kernel) rfl
theorem t_704 : (Jvm.Cond.instanceMethod ({ cls := "CanoeSides", name := "fault", desc := "()I" } : Jvm.MethodName)) ∈ TB := tb_of 704 (by decide +kernel) rfl
theorem t_705 : (Jvm.Cond.selects "CanoeSides" ({ cls := "CanoeSides", name := "fault", desc := "()I" } : Jvm.MethodName) ({ cls := "CanoeSides", name := "fault", desc := "()I" } : Jvm.MethodName)) ∈ TB := tb_of 705 (by decide +kernel) rfl
theorem t_706 : (Jvm.Cond.code ({ cls := "CanoeSides", name := "fault", desc := "()I" } : Jvm.MethodName) prog_1_method_4_code (1 : Nat) (Option.some Jvm.ClassFile.FieldType.int)) ∈ TB := tb_of 706 (by decide +kernel) rfl
theorem t_707 : (Jvm.Cond.methodLink "CanoeSidesLaw" (27 : Nat) ({ cls := "CanoeSides", name := "told", desc := "(I)I" } : Jvm.MethodName)) ∈ TB := tb_of 707 (by decide +kernel) rfl
theorem t_708 : (Jvm.Cond.instanceMethod ({ cls := "CanoeSides", name := "told", desc := "(I)I" } : Jvm.MethodName)) ∈ TB := tb_of 708 (by decide +kernel) rfl
theorem t_709 : (Jvm.Cond.selects "CanoeSides" ({ cls := "CanoeSides", name := "told", desc := "(I)I" } : Jvm.MethodName) ({ cls := "CanoeSides", name := "told", desc := "(I)I" } : Jvm.MethodName)) ∈ TB := tb_of 709 (by decide +kernel) rfl
theorem t_710 : (Jvm.Cond.code ({ cls := "CanoeSides", name := "told", desc := "(I)I" } : Jvm.MethodName) prog_1_method_5_code (2 : Nat) (Option.some Jvm.ClassFile.FieldType.int)) ∈ TB := tb_of 710 (by decide +kernel) rfl
theorem t_733 : (Jvm.Cond.methodLink "CanoeSidesLaw" (31 : Nat) ({ cls := "CanoeSides", name := "square", desc := "(II)I" } : Jvm.MethodName)) ∈ TB := tb_of 733 (by decide +kernel) rfl
theorem t_734 : (Jvm.Cond.instanceMethod ({ cls := "CanoeSides", name := "square", desc := "(II)I" } : Jvm.MethodName)) ∈ TB := tb_of 734 (by decide +kernel) rfl
theorem t_735 : (Jvm.Cond.selects "CanoeSides" ({ cls := "CanoeSides", name := "square", desc := "(II)I" } : Jvm.MethodName) ({ cls := "CanoeSides", name := "square", desc := "(II)I" } : Jvm.MethodName)) ∈ TB := tb_of 735 (by decide +kernel) rfl
theorem t_736 : (Jvm.Cond.code ({ cls := "CanoeSides", name := "square", desc := "(II)I" } : Jvm.MethodName) prog_1_method_6_code (3 : Nat) (Option.some Jvm.ClassFile.FieldType.int)) ∈ TB := tb_of 736 (by decide +kernel) rfl
theorem t_743 : (Jvm.Cond.methodLink "CanoeSidesLaw" (36 : Nat) ({ cls := "CanoeSides", name := "habit", desc := "(II)I" } : Jvm.MethodName)) ∈ TB := tb_of 743 (by decide +kernel) rfl
theorem t_744 : (Jvm.Cond.instanceMethod ({ cls := "CanoeSides", name := "habit", desc := "(II)I" } : Jvm.MethodName)) ∈ TB := tb_of 744 (by decide +kernel) rfl
theorem t_745 : (Jvm.Cond.selects "CanoeSides" ({ cls := "CanoeSides", name := "habit", desc := "(II)I" } : Jvm.MethodName) ({ cls := "CanoeSides", name := "habit", desc := "(II)I" } : Jvm.MethodName)) ∈ TB := tb_of 745 (by decide +kernel) rfl
theorem t_746 : (Jvm.Cond.code ({ cls := "CanoeSides", name := "habit", desc := "(II)I" } : Jvm.MethodName) prog_1_method_7_code (3 : Nat) (Option.some Jvm.ClassFile.FieldType.int)) ∈ TB := tb_of 746 (by decide +kernel) rfl
theorem t_751 : (Jvm.Cond.methodLink "CanoeSidesLaw" (40 : Nat) ({ cls := "CanoeSides", name := "stroke", desc := "(II)I" } : Jvm.MethodName)) ∈ TB := tb_of 751 (by decide +kernel) rfl
theorem t_752 : (Jvm.Cond.instanceMethod ({ cls := "CanoeSides", name := "stroke", desc := "(II)I" } : Jvm.MethodName)) ∈ TB := tb_of 752 (by decide +kernel) rfl
theorem t_753 : (Jvm.Cond.selects "CanoeSides" ({ cls := "CanoeSides", name := "stroke", desc := "(II)I" } : Jvm.MethodName) ({ cls := "CanoeSides", name := "stroke", desc := "(II)I" } : Jvm.MethodName)) ∈ TB := tb_of 753 (by decide +kernel) rfl
theorem t_754 : (Jvm.Cond.code ({ cls := "CanoeSides", name := "stroke", desc := "(II)I" } : Jvm.MethodName) prog_1_method_8_code (3 : Nat) (Option.some Jvm.ClassFile.FieldType.int)) ∈ TB := tb_of 754 (by decide +kernel) rfl
theorem t_801 : (Jvm.Cond.methodLink "CanoeSidesLaw" (44 : Nat) ({ cls := "CanoeSides", name := "would", desc := "(III)I" } : Jvm.MethodName)) ∈ TB := tb_of 801 (by decide +kernel) rfl
theorem t_802 : (Jvm.Cond.instanceMethod ({ cls := "CanoeSides", name := "would", desc := "(III)I" } : Jvm.MethodName)) ∈ TB := tb_of 802 (by decide +kernel) rfl
theorem t_803 : (Jvm.Cond.selects "CanoeSides" ({ cls := "CanoeSides", name := "would", desc := "(III)I" } : Jvm.MethodName) ({ cls := "CanoeSides", name := "would", desc := "(III)I" } : Jvm.MethodName)) ∈ TB := tb_of 803 (by decide +kernel) rfl
theorem t_804 : (Jvm.Cond.code ({ cls := "CanoeSides", name := "would", desc := "(III)I" } : Jvm.MethodName) prog_1_method_9_code (5 : Nat) (Option.some Jvm.ClassFile.FieldType.int)) ∈ TB := tb_of 804 (by decide +kernel) rfl
theorem t_810 : (Jvm.Cond.methodLink "CanoeSidesLaw" (49 : Nat) ({ cls := "CanoeSides", name := "back", desc := "(I)I" } : Jvm.MethodName)) ∈ TB := tb_of 810 (by decide +kernel) rfl
theorem t_811 : (Jvm.Cond.instanceMethod ({ cls := "CanoeSides", name := "back", desc := "(I)I" } : Jvm.MethodName)) ∈ TB := tb_of 811 (by decide +kernel) rfl
theorem t_812 : (Jvm.Cond.selects "CanoeSides" ({ cls := "CanoeSides", name := "back", desc := "(I)I" } : Jvm.MethodName) ({ cls := "CanoeSides", name := "back", desc := "(I)I" } : Jvm.MethodName)) ∈ TB := tb_of 812 (by decide +kernel) rfl
theorem t_813 : (Jvm.Cond.code ({ cls := "CanoeSides", name := "back", desc := "(I)I" } : Jvm.MethodName) prog_1_method_10_code (2 : Nat) (Option.some Jvm.ClassFile.FieldType.int)) ∈ TB := tb_of 813 (by decide +kernel) rfl
theorem t_821 : (Jvm.Cond.methodLink "CanoeSidesLaw" (53 : Nat) ({ cls := "CanoeSides", name := "set", desc := "(III)I" } : Jvm.MethodName)) ∈ TB := tb_of 821 (by decide +kernel) rfl
theorem t_822 : (Jvm.Cond.instanceMethod ({ cls := "CanoeSides", name := "set", desc := "(III)I" } : Jvm.MethodName)) ∈ TB := tb_of 822 (by decide +kernel) rfl
theorem t_823 : (Jvm.Cond.selects "CanoeSides" ({ cls := "CanoeSides", name := "set", desc := "(III)I" } : Jvm.MethodName) ({ cls := "CanoeSides", name := "set", desc := "(III)I" } : Jvm.MethodName)) ∈ TB := tb_of 823 (by decide +kernel) rfl
theorem t_824 : (Jvm.Cond.code ({ cls := "CanoeSides", name := "set", desc := "(III)I" } : Jvm.MethodName) prog_1_method_11_code (6 : Nat) (Option.some Jvm.ClassFile.FieldType.int)) ∈ TB := tb_of 824 (by decide +kernel) rfl
theorem t_825 : (Jvm.Cond.methodLink "CanoeSidesLaw" (57 : Nat) ({ cls := "CanoeSides", name := "drift", desc := "(I)I" } : Jvm.MethodName)) ∈ TB := tb_of 825 (by decide +kernel) rfl
theorem t_826 : (Jvm.Cond.instanceMethod ({ cls := "CanoeSides", name := "drift", desc := "(I)I" } : Jvm.MethodName)) ∈ TB := tb_of 826 (by decide +kernel) rfl
theorem t_827 : (Jvm.Cond.selects "CanoeSides" ({ cls := "CanoeSides", name := "drift", desc := "(I)I" } : Jvm.MethodName) ({ cls := "CanoeSides", name := "drift", desc := "(I)I" } : Jvm.MethodName)) ∈ TB := tb_of 827 (by decide +kernel) rfl
theorem t_828 : (Jvm.Cond.code ({ cls := "CanoeSides", name := "drift", desc := "(I)I" } : Jvm.MethodName) prog_1_method_12_code (3 : Nat) (Option.some Jvm.ClassFile.FieldType.int)) ∈ TB := tb_of 828 (by decide +kernel) rfl
theorem t_837 : (Jvm.Cond.methodLink "CanoeSidesLaw" (61 : Nat) ({ cls := "CanoeSides", name := "fewest", desc := "(I)I" } : Jvm.MethodName)) ∈ TB := tb_of 837 (by decide +kernel) rfl
theorem t_838 : (Jvm.Cond.instanceMethod ({ cls := "CanoeSides", name := "fewest", desc := "(I)I" } : Jvm.MethodName)) ∈ TB := tb_of 838 (by decide +kernel) rfl
theorem t_839 : (Jvm.Cond.selects "CanoeSides" ({ cls := "CanoeSides", name := "fewest", desc := "(I)I" } : Jvm.MethodName) ({ cls := "CanoeSides", name := "fewest", desc := "(I)I" } : Jvm.MethodName)) ∈ TB := tb_of 839 (by decide +kernel) rfl
theorem t_840 : (Jvm.Cond.code ({ cls := "CanoeSides", name := "fewest", desc := "(I)I" } : Jvm.MethodName) prog_1_method_13_code (2 : Nat) (Option.some Jvm.ClassFile.FieldType.int)) ∈ TB := tb_of 840 (by decide +kernel) rfl
theorem t_869 : (Jvm.Cond.methodLink "CanoeSidesLaw" (65 : Nat) ({ cls := "CanoeSides", name := "calls", desc := "(II)I" } : Jvm.MethodName)) ∈ TB := tb_of 869 (by decide +kernel) rfl
theorem t_870 : (Jvm.Cond.instanceMethod ({ cls := "CanoeSides", name := "calls", desc := "(II)I" } : Jvm.MethodName)) ∈ TB := tb_of 870 (by decide +kernel) rfl
theorem t_871 : (Jvm.Cond.selects "CanoeSides" ({ cls := "CanoeSides", name := "calls", desc := "(II)I" } : Jvm.MethodName) ({ cls := "CanoeSides", name := "calls", desc := "(II)I" } : Jvm.MethodName)) ∈ TB := tb_of 871 (by decide +kernel) rfl
theorem t_872 : (Jvm.Cond.code ({ cls := "CanoeSides", name := "calls", desc := "(II)I" } : Jvm.MethodName) prog_1_method_14_code (3 : Nat) (Option.some Jvm.ClassFile.FieldType.int)) ∈ TB := tb_of 872 (by decide +kernel) rfl
theorem t_897 : (Jvm.Cond.methodLink "CanoeSidesLaw" (69 : Nat) ({ cls := "CanoeSides", name := "mute", desc := "(III)I" } : Jvm.MethodName)) ∈ TB := tb_of 897 (by decide +kernel) rfl
theorem t_898 : (Jvm.Cond.instanceMethod ({ cls := "CanoeSides", name := "mute", desc := "(III)I" } : Jvm.MethodName)) ∈ TB := tb_of 898 (by decide +kernel) rfl
theorem t_899 : (Jvm.Cond.selects "CanoeSides" ({ cls := "CanoeSides", name := "mute", desc := "(III)I" } : Jvm.MethodName) ({ cls := "CanoeSides", name := "mute", desc := "(III)I" } : Jvm.MethodName)) ∈ TB := tb_of 899 (by decide +kernel) rfl
theorem t_900 : (Jvm.Cond.code ({ cls := "CanoeSides", name := "mute", desc := "(III)I" } : Jvm.MethodName) prog_1_method_15_code (6 : Nat) (Option.some Jvm.ClassFile.FieldType.int)) ∈ TB := tb_of 900 (by decide +kernel) rfl
theorem t_905 : (Jvm.Cond.methodLink "CanoeSidesLaw" (73 : Nat) ({ cls := "CanoeSides", name := "round", desc := "(II)I" } : Jvm.MethodName)) ∈ TB := tb_of 905 (by decide +kernel) rfl
theorem t_906 : (Jvm.Cond.instanceMethod ({ cls := "CanoeSides", name := "round", desc := "(II)I" } : Jvm.MethodName)) ∈ TB := tb_of 906 (by decide +kernel) rfl
theorem t_907 : (Jvm.Cond.selects "CanoeSides" ({ cls := "CanoeSides", name := "round", desc := "(II)I" } : Jvm.MethodName) ({ cls := "CanoeSides", name := "round", desc := "(II)I" } : Jvm.MethodName)) ∈ TB := tb_of 907 (by decide +kernel) rfl
theorem t_908 : (Jvm.Cond.code ({ cls := "CanoeSides", name := "round", desc := "(II)I" } : Jvm.MethodName) prog_1_method_16_code (5 : Nat) (Option.some Jvm.ClassFile.FieldType.int)) ∈ TB := tb_of 908 (by decide +kernel) rfl
theorem t_918 : (Jvm.Cond.methodLink "CanoeSidesLaw" (77 : Nat) ({ cls := "CanoeSides", name := "off", desc := "(III)I" } : Jvm.MethodName)) ∈ TB := tb_of 918 (by decide +kernel) rfl
theorem t_919 : (Jvm.Cond.instanceMethod ({ cls := "CanoeSides", name := "off", desc := "(III)I" } : Jvm.MethodName)) ∈ TB := tb_of 919 (by decide +kernel) rfl
theorem t_920 : (Jvm.Cond.selects "CanoeSides" ({ cls := "CanoeSides", name := "off", desc := "(III)I" } : Jvm.MethodName) ({ cls := "CanoeSides", name := "off", desc := "(III)I" } : Jvm.MethodName)) ∈ TB := tb_of 920 (by decide +kernel) rfl
theorem t_921 : (Jvm.Cond.code ({ cls := "CanoeSides", name := "off", desc := "(III)I" } : Jvm.MethodName) prog_1_method_17_code (4 : Nat) (Option.some Jvm.ClassFile.FieldType.int)) ∈ TB := tb_of 921 (by decide +kernel) rfl
theorem t_928 : (Jvm.Cond.methodLink "CanoeSidesLaw" (81 : Nat) ({ cls := "CanoeSides", name := "best", desc := "(I)I" } : Jvm.MethodName)) ∈ TB := tb_of 928 (by decide +kernel) rfl
theorem t_929 : (Jvm.Cond.instanceMethod ({ cls := "CanoeSides", name := "best", desc := "(I)I" } : Jvm.MethodName)) ∈ TB := tb_of 929 (by decide +kernel) rfl
theorem t_930 : (Jvm.Cond.selects "CanoeSides" ({ cls := "CanoeSides", name := "best", desc := "(I)I" } : Jvm.MethodName) ({ cls := "CanoeSides", name := "best", desc := "(I)I" } : Jvm.MethodName)) ∈ TB := tb_of 930 (by decide +kernel) rfl
theorem t_931 : (Jvm.Cond.code ({ cls := "CanoeSides", name := "best", desc := "(I)I" } : Jvm.MethodName) prog_1_method_18_code (5 : Nat) (Option.some Jvm.ClassFile.FieldType.int)) ∈ TB := tb_of 931 (by decide +kernel) rfl
theorem t_933 : (Jvm.Cond.methodLink "CanoeSidesLaw" (85 : Nat) ({ cls := "CanoeSides", name := "still", desc := "(I)I" } : Jvm.MethodName)) ∈ TB := tb_of 933 (by decide +kernel) rfl
theorem t_934 : (Jvm.Cond.instanceMethod ({ cls := "CanoeSides", name := "still", desc := "(I)I" } : Jvm.MethodName)) ∈ TB := tb_of 934 (by decide +kernel) rfl
theorem t_935 : (Jvm.Cond.selects "CanoeSides" ({ cls := "CanoeSides", name := "still", desc := "(I)I" } : Jvm.MethodName) ({ cls := "CanoeSides", name := "still", desc := "(I)I" } : Jvm.MethodName)) ∈ TB := tb_of 935 (by decide +kernel) rfl
theorem t_936 : (Jvm.Cond.code ({ cls := "CanoeSides", name := "still", desc := "(I)I" } : Jvm.MethodName) prog_1_method_19_code (4 : Nat) (Option.some Jvm.ClassFile.FieldType.int)) ∈ TB := tb_of 936 (by decide +kernel) rfl
theorem t_944 : (Jvm.Cond.methodLink "CanoeSidesLaw" (89 : Nat) ({ cls := "CanoeSides", name := "surely", desc := "(I)I" } : Jvm.MethodName)) ∈ TB := tb_of 944 (by decide +kernel) rfl
theorem t_945 : (Jvm.Cond.instanceMethod ({ cls := "CanoeSides", name := "surely", desc := "(I)I" } : Jvm.MethodName)) ∈ TB := tb_of 945 (by decide +kernel) rfl
theorem t_946 : (Jvm.Cond.selects "CanoeSides" ({ cls := "CanoeSides", name := "surely", desc := "(I)I" } : Jvm.MethodName) ({ cls := "CanoeSides", name := "surely", desc := "(I)I" } : Jvm.MethodName)) ∈ TB := tb_of 946 (by decide +kernel) rfl
theorem t_947 : (Jvm.Cond.code ({ cls := "CanoeSides", name := "surely", desc := "(I)I" } : Jvm.MethodName) prog_1_method_20_code (2 : Nat) (Option.some Jvm.ClassFile.FieldType.int)) ∈ TB := tb_of 947 (by decide +kernel) rfl
theorem t_972 : (Jvm.Cond.methodLink "CanoeSidesLaw" (93 : Nat) ({ cls := "CanoeSides", name := "alone", desc := "()I" } : Jvm.MethodName)) ∈ TB := tb_of 972 (by decide +kernel) rfl
theorem t_973 : (Jvm.Cond.instanceMethod ({ cls := "CanoeSides", name := "alone", desc := "()I" } : Jvm.MethodName)) ∈ TB := tb_of 973 (by decide +kernel) rfl
theorem t_974 : (Jvm.Cond.selects "CanoeSides" ({ cls := "CanoeSides", name := "alone", desc := "()I" } : Jvm.MethodName) ({ cls := "CanoeSides", name := "alone", desc := "()I" } : Jvm.MethodName)) ∈ TB := tb_of 974 (by decide +kernel) rfl
theorem t_975 : (Jvm.Cond.code ({ cls := "CanoeSides", name := "alone", desc := "()I" } : Jvm.MethodName) prog_1_method_21_code (1 : Nat) (Option.some Jvm.ClassFile.FieldType.int)) ∈ TB := tb_of 975 (by decide +kernel) rfl
theorem t_976 : (Jvm.Cond.methodLink "CanoeSidesLaw" (97 : Nat) ({ cls := "CanoeSides", name := "third", desc := "(I)I" } : Jvm.MethodName)) ∈ TB := tb_of 976 (by decide +kernel) rfl
theorem t_977 : (Jvm.Cond.instanceMethod ({ cls := "CanoeSides", name := "third", desc := "(I)I" } : Jvm.MethodName)) ∈ TB := tb_of 977 (by decide +kernel) rfl
theorem t_978 : (Jvm.Cond.selects "CanoeSides" ({ cls := "CanoeSides", name := "third", desc := "(I)I" } : Jvm.MethodName) ({ cls := "CanoeSides", name := "third", desc := "(I)I" } : Jvm.MethodName)) ∈ TB := tb_of 978 (by decide +kernel) rfl
theorem t_979 : (Jvm.Cond.code ({ cls := "CanoeSides", name := "third", desc := "(I)I" } : Jvm.MethodName) prog_1_method_22_code (2 : Nat) (Option.some Jvm.ClassFile.FieldType.int)) ∈ TB := tb_of 979 (by decide +kernel) rfl
theorem t_980 : (Jvm.Cond.methodLink "CanoeSidesLaw" (101 : Nat) ({ cls := "CanoeSides", name := "rules", desc := "(I)I" } : Jvm.MethodName)) ∈ TB := tb_of 980 (by decide +kernel) rfl
theorem t_981 : (Jvm.Cond.instanceMethod ({ cls := "CanoeSides", name := "rules", desc := "(I)I" } : Jvm.MethodName)) ∈ TB := tb_of 981 (by decide +kernel) rfl
theorem t_982 : (Jvm.Cond.selects "CanoeSides" ({ cls := "CanoeSides", name := "rules", desc := "(I)I" } : Jvm.MethodName) ({ cls := "CanoeSides", name := "rules", desc := "(I)I" } : Jvm.MethodName)) ∈ TB := tb_of 982 (by decide +kernel) rfl
theorem t_983 : (Jvm.Cond.code ({ cls := "CanoeSides", name := "rules", desc := "(I)I" } : Jvm.MethodName) prog_1_method_23_code (6 : Nat) (Option.some Jvm.ClassFile.FieldType.int)) ∈ TB := tb_of 983 (by decide +kernel) rfl
theorem t_991 : (Jvm.Cond.methodLink "CanoeSidesLaw" (105 : Nat) ({ cls := "CanoeSides", name := "line", desc := "(II)I" } : Jvm.MethodName)) ∈ TB := tb_of 991 (by decide +kernel) rfl
theorem t_992 : (Jvm.Cond.instanceMethod ({ cls := "CanoeSides", name := "line", desc := "(II)I" } : Jvm.MethodName)) ∈ TB := tb_of 992 (by decide +kernel) rfl
theorem t_993 : (Jvm.Cond.selects "CanoeSides" ({ cls := "CanoeSides", name := "line", desc := "(II)I" } : Jvm.MethodName) ({ cls := "CanoeSides", name := "line", desc := "(II)I" } : Jvm.MethodName)) ∈ TB := tb_of 993 (by decide +kernel) rfl
theorem t_994 : (Jvm.Cond.code ({ cls := "CanoeSides", name := "line", desc := "(II)I" } : Jvm.MethodName) prog_1_method_24_code (3 : Nat) (Option.some Jvm.ClassFile.FieldType.int)) ∈ TB := tb_of 994 (by decide +kernel) rfl
theorem t_999 : (Jvm.Cond.methodLink "CanoeSidesLaw" (109 : Nat) ({ cls := "CanoeSides", name := "fits", desc := "(I)I" } : Jvm.MethodName)) ∈ TB := tb_of 999 (by decide +kernel) rfl
theorem t_1000 : (Jvm.Cond.instanceMethod ({ cls := "CanoeSides", name := "fits", desc := "(I)I" } : Jvm.MethodName)) ∈ TB := tb_of 1000 (by decide +kernel) rfl
theorem t_1001 : (Jvm.Cond.selects "CanoeSides" ({ cls := "CanoeSides", name := "fits", desc := "(I)I" } : Jvm.MethodName) ({ cls := "CanoeSides", name := "fits", desc := "(I)I" } : Jvm.MethodName)) ∈ TB := tb_of 1001 (by decide +kernel) rfl
theorem t_1002 : (Jvm.Cond.code ({ cls := "CanoeSides", name := "fits", desc := "(I)I" } : Jvm.MethodName) prog_1_method_25_code (2 : Nat) (Option.some Jvm.ClassFile.FieldType.int)) ∈ TB := tb_of 1002 (by decide +kernel) rfl
theorem t_1034 : (Jvm.Cond.methodLink "CanoeSidesLaw" (113 : Nat) ({ cls := "CanoeSides", name := "gave", desc := "(I)I" } : Jvm.MethodName)) ∈ TB := tb_of 1034 (by decide +kernel) rfl
theorem t_1035 : (Jvm.Cond.instanceMethod ({ cls := "CanoeSides", name := "gave", desc := "(I)I" } : Jvm.MethodName)) ∈ TB := tb_of 1035 (by decide +kernel) rfl
theorem t_1036 : (Jvm.Cond.selects "CanoeSides" ({ cls := "CanoeSides", name := "gave", desc := "(I)I" } : Jvm.MethodName) ({ cls := "CanoeSides", name := "gave", desc := "(I)I" } : Jvm.MethodName)) ∈ TB := tb_of 1036 (by decide +kernel) rfl
theorem t_1037 : (Jvm.Cond.code ({ cls := "CanoeSides", name := "gave", desc := "(I)I" } : Jvm.MethodName) prog_1_method_26_code (2 : Nat) (Option.some Jvm.ClassFile.FieldType.int)) ∈ TB := tb_of 1037 (by decide +kernel) rfl
theorem t_1042 : (Jvm.Cond.methodLink "CanoeSidesLaw" (117 : Nat) ({ cls := "CanoeSides", name := "write", desc := "(III)I" } : Jvm.MethodName)) ∈ TB := tb_of 1042 (by decide +kernel) rfl
theorem t_1043 : (Jvm.Cond.instanceMethod ({ cls := "CanoeSides", name := "write", desc := "(III)I" } : Jvm.MethodName)) ∈ TB := tb_of 1043 (by decide +kernel) rfl
theorem t_1044 : (Jvm.Cond.selects "CanoeSides" ({ cls := "CanoeSides", name := "write", desc := "(III)I" } : Jvm.MethodName) ({ cls := "CanoeSides", name := "write", desc := "(III)I" } : Jvm.MethodName)) ∈ TB := tb_of 1044 (by decide +kernel) rfl
theorem t_1045 : (Jvm.Cond.code ({ cls := "CanoeSides", name := "write", desc := "(III)I" } : Jvm.MethodName) prog_1_method_27_code (4 : Nat) (Option.some Jvm.ClassFile.FieldType.int)) ∈ TB := tb_of 1045 (by decide +kernel) rfl
theorem t_1050 : (Jvm.Cond.methodLink "CanoeSidesLaw" (121 : Nat) ({ cls := "CanoeSides", name := "judge", desc := "()I" } : Jvm.MethodName)) ∈ TB := tb_of 1050 (by decide +kernel) rfl
theorem t_1051 : (Jvm.Cond.instanceMethod ({ cls := "CanoeSides", name := "judge", desc := "()I" } : Jvm.MethodName)) ∈ TB := tb_of 1051 (by decide +kernel) rfl
theorem t_1052 : (Jvm.Cond.selects "CanoeSides" ({ cls := "CanoeSides", name := "judge", desc := "()I" } : Jvm.MethodName) ({ cls := "CanoeSides", name := "judge", desc := "()I" } : Jvm.MethodName)) ∈ TB := tb_of 1052 (by decide +kernel) rfl
theorem t_1053 : (Jvm.Cond.code ({ cls := "CanoeSides", name := "judge", desc := "()I" } : Jvm.MethodName) prog_1_method_28_code (1 : Nat) (Option.some Jvm.ClassFile.FieldType.int)) ∈ TB := tb_of 1053 (by decide +kernel) rfl
theorem t_1058 : (Jvm.Cond.methodLink "CanoeSidesLaw" (125 : Nat) ({ cls := "CanoeSides", name := "tear", desc := "()I" } : Jvm.MethodName)) ∈ TB := tb_of 1058 (by decide +kernel) rfl
theorem t_1059 : (Jvm.Cond.instanceMethod ({ cls := "CanoeSides", name := "tear", desc := "()I" } : Jvm.MethodName)) ∈ TB := tb_of 1059 (by decide +kernel) rfl
theorem t_1060 : (Jvm.Cond.selects "CanoeSides" ({ cls := "CanoeSides", name := "tear", desc := "()I" } : Jvm.MethodName) ({ cls := "CanoeSides", name := "tear", desc := "()I" } : Jvm.MethodName)) ∈ TB := tb_of 1060 (by decide +kernel) rfl
theorem t_1061 : (Jvm.Cond.code ({ cls := "CanoeSides", name := "tear", desc := "()I" } : Jvm.MethodName) prog_1_method_29_code (2 : Nat) (Option.some Jvm.ClassFile.FieldType.int)) ∈ TB := tb_of 1061 (by decide +kernel) rfl
theorem t_1062 : (Jvm.Cond.methodLink "CanoeSidesLaw" (129 : Nat) ({ cls := "CanoeSides", name := "seed", desc := "(I)I" } : Jvm.MethodName)) ∈ TB := tb_of 1062 (by decide +kernel) rfl
theorem t_1063 : (Jvm.Cond.instanceMethod ({ cls := "CanoeSides", name := "seed", desc := "(I)I" } : Jvm.MethodName)) ∈ TB := tb_of 1063 (by decide +kernel) rfl
theorem t_1064 : (Jvm.Cond.selects "CanoeSides" ({ cls := "CanoeSides", name := "seed", desc := "(I)I" } : Jvm.MethodName) ({ cls := "CanoeSides", name := "seed", desc := "(I)I" } : Jvm.MethodName)) ∈ TB := tb_of 1064 (by decide +kernel) rfl
theorem t_1065 : (Jvm.Cond.code ({ cls := "CanoeSides", name := "seed", desc := "(I)I" } : Jvm.MethodName) prog_1_method_30_code (3 : Nat) (Option.some Jvm.ClassFile.FieldType.int)) ∈ TB := tb_of 1065 (by decide +kernel) rfl
theorem t_1067 : (Jvm.Cond.methodLink "CanoeSidesLaw" (133 : Nat) ({ cls := "CanoeSides", name := "keep", desc := "(I)I" } : Jvm.MethodName)) ∈ TB := tb_of 1067 (by decide +kernel) rfl
theorem t_1068 : (Jvm.Cond.instanceMethod ({ cls := "CanoeSides", name := "keep", desc := "(I)I" } : Jvm.MethodName)) ∈ TB := tb_of 1068 (by decide +kernel) rfl
theorem t_1069 : (Jvm.Cond.selects "CanoeSides" ({ cls := "CanoeSides", name := "keep", desc := "(I)I" } : Jvm.MethodName) ({ cls := "CanoeSides", name := "keep", desc := "(I)I" } : Jvm.MethodName)) ∈ TB := tb_of 1069 (by decide +kernel) rfl
theorem t_1070 : (Jvm.Cond.code ({ cls := "CanoeSides", name := "keep", desc := "(I)I" } : Jvm.MethodName) prog_1_method_31_code (3 : Nat) (Option.some Jvm.ClassFile.FieldType.int)) ∈ TB := tb_of 1070 (by decide +kernel) rfl
theorem t_1075 : (Jvm.Cond.methodLink "CanoeSidesLaw" (137 : Nat) ({ cls := "CanoeSides", name := "goBack", desc := "(I)I" } : Jvm.MethodName)) ∈ TB := tb_of 1075 (by decide +kernel) rfl
theorem t_1076 : (Jvm.Cond.instanceMethod ({ cls := "CanoeSides", name := "goBack", desc := "(I)I" } : Jvm.MethodName)) ∈ TB := tb_of 1076 (by decide +kernel) rfl
theorem t_1077 : (Jvm.Cond.selects "CanoeSides" ({ cls := "CanoeSides", name := "goBack", desc := "(I)I" } : Jvm.MethodName) ({ cls := "CanoeSides", name := "goBack", desc := "(I)I" } : Jvm.MethodName)) ∈ TB := tb_of 1077 (by decide +kernel) rfl
theorem t_1078 : (Jvm.Cond.code ({ cls := "CanoeSides", name := "goBack", desc := "(I)I" } : Jvm.MethodName) prog_1_method_32_code (3 : Nat) (Option.some Jvm.ClassFile.FieldType.int)) ∈ TB := tb_of 1078 (by decide +kernel) rfl
theorem t_1191 : (Jvm.Cond.methodLink "CanoeSidesLaw" (17 : Nat) ({ cls := "CanoeSidesModel", name := "feed", desc := "(I)I" } : Jvm.MethodName)) ∈ TB := tb_of 1191 (by decide +kernel) rfl
theorem t_1192 : (Jvm.Cond.instanceMethod ({ cls := "CanoeSidesModel", name := "feed", desc := "(I)I" } : Jvm.MethodName)) ∈ TB := tb_of 1192 (by decide +kernel) rfl
theorem t_1193 : (Jvm.Cond.selects "CanoeSidesModel" ({ cls := "CanoeSidesModel", name := "feed", desc := "(I)I" } : Jvm.MethodName) ({ cls := "CanoeSidesModel", name := "feed", desc := "(I)I" } : Jvm.MethodName)) ∈ TB := tb_of 1193 (by decide +kernel) rfl
theorem t_1194 : (Jvm.Cond.code ({ cls := "CanoeSidesModel", name := "feed", desc := "(I)I" } : Jvm.MethodName) prog_13_method_7_code (2 : Nat) (Option.some Jvm.ClassFile.FieldType.int)) ∈ TB := tb_of 1194 (by decide +kernel) rfl
theorem t_1201 : (Jvm.Cond.methodLink "CanoeSidesLaw" (22 : Nat) ({ cls := "CanoeSidesModel", name := "river", desc := "()I" } : Jvm.MethodName)) ∈ TB := tb_of 1201 (by decide +kernel) rfl
theorem t_1202 : (Jvm.Cond.instanceMethod ({ cls := "CanoeSidesModel", name := "river", desc := "()I" } : Jvm.MethodName)) ∈ TB := tb_of 1202 (by decide +kernel) rfl
theorem t_1203 : (Jvm.Cond.selects "CanoeSidesModel" ({ cls := "CanoeSidesModel", name := "river", desc := "()I" } : Jvm.MethodName) ({ cls := "CanoeSidesModel", name := "river", desc := "()I" } : Jvm.MethodName)) ∈ TB := tb_of 1203 (by decide +kernel) rfl
theorem t_1204 : (Jvm.Cond.code ({ cls := "CanoeSidesModel", name := "river", desc := "()I" } : Jvm.MethodName) prog_13_method_18_code (2 : Nat) (Option.some Jvm.ClassFile.FieldType.int)) ∈ TB := tb_of 1204 (by decide +kernel) rfl
theorem t_1252 : (Jvm.Cond.methodLink "CanoeSidesLaw" (26 : Nat) ({ cls := "CanoeSidesModel", name := "fault", desc := "()I" } : Jvm.MethodName)) ∈ TB := tb_of 1252 (by decide +kernel) rfl
theorem t_1253 : (Jvm.Cond.instanceMethod ({ cls := "CanoeSidesModel", name := "fault", desc := "()I" } : Jvm.MethodName)) ∈ TB := tb_of 1253 (by decide +kernel) rfl
theorem t_1254 : (Jvm.Cond.selects "CanoeSidesModel" ({ cls := "CanoeSidesModel", name := "fault", desc := "()I" } : Jvm.MethodName) ({ cls := "CanoeSidesModel", name := "fault", desc := "()I" } : Jvm.MethodName)) ∈ TB := tb_of 1254 (by decide +kernel) rfl
theorem t_1255 : (Jvm.Cond.code ({ cls := "CanoeSidesModel", name := "fault", desc := "()I" } : Jvm.MethodName) prog_13_method_19_code (1 : Nat) (Option.some Jvm.ClassFile.FieldType.int)) ∈ TB := tb_of 1255 (by decide +kernel) rfl
theorem t_1256 : (Jvm.Cond.methodLink "CanoeSidesLaw" (30 : Nat) ({ cls := "CanoeSidesModel", name := "told", desc := "(I)I" } : Jvm.MethodName)) ∈ TB := tb_of 1256 (by decide +kernel) rfl
theorem t_1257 : (Jvm.Cond.instanceMethod ({ cls := "CanoeSidesModel", name := "told", desc := "(I)I" } : Jvm.MethodName)) ∈ TB := tb_of 1257 (by decide +kernel) rfl
theorem t_1258 : (Jvm.Cond.selects "CanoeSidesModel" ({ cls := "CanoeSidesModel", name := "told", desc := "(I)I" } : Jvm.MethodName) ({ cls := "CanoeSidesModel", name := "told", desc := "(I)I" } : Jvm.MethodName)) ∈ TB := tb_of 1258 (by decide +kernel) rfl
theorem t_1259 : (Jvm.Cond.code ({ cls := "CanoeSidesModel", name := "told", desc := "(I)I" } : Jvm.MethodName) prog_13_method_25_code (2 : Nat) (Option.some Jvm.ClassFile.FieldType.int)) ∈ TB := tb_of 1259 (by decide +kernel) rfl
theorem t_1275 : (Jvm.Cond.methodLink "CanoeSidesLaw" (35 : Nat) ({ cls := "CanoeSidesModel", name := "square", desc := "(II)I" } : Jvm.MethodName)) ∈ TB := tb_of 1275 (by decide +kernel) rfl
theorem t_1276 : (Jvm.Cond.instanceMethod ({ cls := "CanoeSidesModel", name := "square", desc := "(II)I" } : Jvm.MethodName)) ∈ TB := tb_of 1276 (by decide +kernel) rfl
theorem t_1277 : (Jvm.Cond.selects "CanoeSidesModel" ({ cls := "CanoeSidesModel", name := "square", desc := "(II)I" } : Jvm.MethodName) ({ cls := "CanoeSidesModel", name := "square", desc := "(II)I" } : Jvm.MethodName)) ∈ TB := tb_of 1277 (by decide +kernel) rfl
theorem t_1278 : (Jvm.Cond.code ({ cls := "CanoeSidesModel", name := "square", desc := "(II)I" } : Jvm.MethodName) prog_13_method_26_code (3 : Nat) (Option.some Jvm.ClassFile.FieldType.int)) ∈ TB := tb_of 1278 (by decide +kernel) rfl
theorem t_1284 : (Jvm.Cond.methodLink "CanoeSidesLaw" (39 : Nat) ({ cls := "CanoeSidesModel", name := "habit", desc := "(II)I" } : Jvm.MethodName)) ∈ TB := tb_of 1284 (by decide +kernel) rfl
theorem t_1285 : (Jvm.Cond.instanceMethod ({ cls := "CanoeSidesModel", name := "habit", desc := "(II)I" } : Jvm.MethodName)) ∈ TB := tb_of 1285 (by decide +kernel) rfl
theorem t_1286 : (Jvm.Cond.selects "CanoeSidesModel" ({ cls := "CanoeSidesModel", name := "habit", desc := "(II)I" } : Jvm.MethodName) ({ cls := "CanoeSidesModel", name := "habit", desc := "(II)I" } : Jvm.MethodName)) ∈ TB := tb_of 1286 (by decide +kernel) rfl
theorem t_1287 : (Jvm.Cond.code ({ cls := "CanoeSidesModel", name := "habit", desc := "(II)I" } : Jvm.MethodName) prog_13_method_27_code (3 : Nat) (Option.some Jvm.ClassFile.FieldType.int)) ∈ TB := tb_of 1287 (by decide +kernel) rfl
theorem t_1289 : (Jvm.Cond.methodLink "CanoeSidesLaw" (43 : Nat) ({ cls := "CanoeSidesModel", name := "stroke", desc := "(II)I" } : Jvm.MethodName)) ∈ TB := tb_of 1289 (by decide +kernel) rfl
theorem t_1290 : (Jvm.Cond.instanceMethod ({ cls := "CanoeSidesModel", name := "stroke", desc := "(II)I" } : Jvm.MethodName)) ∈ TB := tb_of 1290 (by decide +kernel) rfl
theorem t_1291 : (Jvm.Cond.selects "CanoeSidesModel" ({ cls := "CanoeSidesModel", name := "stroke", desc := "(II)I" } : Jvm.MethodName) ({ cls := "CanoeSidesModel", name := "stroke", desc := "(II)I" } : Jvm.MethodName)) ∈ TB := tb_of 1291 (by decide +kernel) rfl
theorem t_1292 : (Jvm.Cond.code ({ cls := "CanoeSidesModel", name := "stroke", desc := "(II)I" } : Jvm.MethodName) prog_13_method_41_code (3 : Nat) (Option.some Jvm.ClassFile.FieldType.int)) ∈ TB := tb_of 1292 (by decide +kernel) rfl
theorem t_1343 : (Jvm.Cond.methodLink "CanoeSidesLaw" (48 : Nat) ({ cls := "CanoeSidesModel", name := "would", desc := "(III)I" } : Jvm.MethodName)) ∈ TB := tb_of 1343 (by decide +kernel) rfl
theorem t_1344 : (Jvm.Cond.instanceMethod ({ cls := "CanoeSidesModel", name := "would", desc := "(III)I" } : Jvm.MethodName)) ∈ TB := tb_of 1344 (by decide +kernel) rfl
theorem t_1345 : (Jvm.Cond.selects "CanoeSidesModel" ({ cls := "CanoeSidesModel", name := "would", desc := "(III)I" } : Jvm.MethodName) ({ cls := "CanoeSidesModel", name := "would", desc := "(III)I" } : Jvm.MethodName)) ∈ TB := tb_of 1345 (by decide +kernel) rfl
theorem t_1346 : (Jvm.Cond.code ({ cls := "CanoeSidesModel", name := "would", desc := "(III)I" } : Jvm.MethodName) prog_13_method_42_code (4 : Nat) (Option.some Jvm.ClassFile.FieldType.int)) ∈ TB := tb_of 1346 (by decide +kernel) rfl
theorem t_1347 : (Jvm.Cond.methodLink "CanoeSidesLaw" (52 : Nat) ({ cls := "CanoeSidesModel", name := "back", desc := "(I)I" } : Jvm.MethodName)) ∈ TB := tb_of 1347 (by decide +kernel) rfl
theorem t_1348 : (Jvm.Cond.instanceMethod ({ cls := "CanoeSidesModel", name := "back", desc := "(I)I" } : Jvm.MethodName)) ∈ TB := tb_of 1348 (by decide +kernel) rfl
theorem t_1349 : (Jvm.Cond.selects "CanoeSidesModel" ({ cls := "CanoeSidesModel", name := "back", desc := "(I)I" } : Jvm.MethodName) ({ cls := "CanoeSidesModel", name := "back", desc := "(I)I" } : Jvm.MethodName)) ∈ TB := tb_of 1349 (by decide +kernel) rfl
theorem t_1350 : (Jvm.Cond.code ({ cls := "CanoeSidesModel", name := "back", desc := "(I)I" } : Jvm.MethodName) prog_13_method_43_code (3 : Nat) (Option.some Jvm.ClassFile.FieldType.int)) ∈ TB := tb_of 1350 (by decide +kernel) rfl
theorem t_1352 : (Jvm.Cond.methodLink "CanoeSidesLaw" (56 : Nat) ({ cls := "CanoeSidesModel", name := "set", desc := "(III)I" } : Jvm.MethodName)) ∈ TB := tb_of 1352 (by decide +kernel) rfl
theorem t_1353 : (Jvm.Cond.instanceMethod ({ cls := "CanoeSidesModel", name := "set", desc := "(III)I" } : Jvm.MethodName)) ∈ TB := tb_of 1353 (by decide +kernel) rfl
theorem t_1354 : (Jvm.Cond.selects "CanoeSidesModel" ({ cls := "CanoeSidesModel", name := "set", desc := "(III)I" } : Jvm.MethodName) ({ cls := "CanoeSidesModel", name := "set", desc := "(III)I" } : Jvm.MethodName)) ∈ TB := tb_of 1354 (by decide +kernel) rfl
theorem t_1355 : (Jvm.Cond.code ({ cls := "CanoeSidesModel", name := "set", desc := "(III)I" } : Jvm.MethodName) prog_13_method_44_code (6 : Nat) (Option.some Jvm.ClassFile.FieldType.int)) ∈ TB := tb_of 1355 (by decide +kernel) rfl
theorem t_1356 : (Jvm.Cond.methodLink "CanoeSidesLaw" (60 : Nat) ({ cls := "CanoeSidesModel", name := "drift", desc := "(I)I" } : Jvm.MethodName)) ∈ TB := tb_of 1356 (by decide +kernel) rfl
theorem t_1357 : (Jvm.Cond.instanceMethod ({ cls := "CanoeSidesModel", name := "drift", desc := "(I)I" } : Jvm.MethodName)) ∈ TB := tb_of 1357 (by decide +kernel) rfl
theorem t_1358 : (Jvm.Cond.selects "CanoeSidesModel" ({ cls := "CanoeSidesModel", name := "drift", desc := "(I)I" } : Jvm.MethodName) ({ cls := "CanoeSidesModel", name := "drift", desc := "(I)I" } : Jvm.MethodName)) ∈ TB := tb_of 1358 (by decide +kernel) rfl
theorem t_1359 : (Jvm.Cond.code ({ cls := "CanoeSidesModel", name := "drift", desc := "(I)I" } : Jvm.MethodName) prog_13_method_46_code (4 : Nat) (Option.some Jvm.ClassFile.FieldType.int)) ∈ TB := tb_of 1359 (by decide +kernel) rfl
theorem t_1369 : (Jvm.Cond.methodLink "CanoeSidesLaw" (64 : Nat) ({ cls := "CanoeSidesModel", name := "fewest", desc := "(I)I" } : Jvm.MethodName)) ∈ TB := tb_of 1369 (by decide +kernel) rfl
theorem t_1370 : (Jvm.Cond.instanceMethod ({ cls := "CanoeSidesModel", name := "fewest", desc := "(I)I" } : Jvm.MethodName)) ∈ TB := tb_of 1370 (by decide +kernel) rfl
theorem t_1371 : (Jvm.Cond.selects "CanoeSidesModel" ({ cls := "CanoeSidesModel", name := "fewest", desc := "(I)I" } : Jvm.MethodName) ({ cls := "CanoeSidesModel", name := "fewest", desc := "(I)I" } : Jvm.MethodName)) ∈ TB := tb_of 1371 (by decide +kernel) rfl
theorem t_1372 : (Jvm.Cond.code ({ cls := "CanoeSidesModel", name := "fewest", desc := "(I)I" } : Jvm.MethodName) prog_13_method_56_code (6 : Nat) (Option.some Jvm.ClassFile.FieldType.int)) ∈ TB := tb_of 1372 (by decide +kernel) rfl
theorem t_1410 : (Jvm.Cond.methodLink "CanoeSidesLaw" (96 : Nat) ({ cls := "CanoeSidesModel", name := "alone", desc := "()I" } : Jvm.MethodName)) ∈ TB := tb_of 1410 (by decide +kernel) rfl
theorem t_1411 : (Jvm.Cond.instanceMethod ({ cls := "CanoeSidesModel", name := "alone", desc := "()I" } : Jvm.MethodName)) ∈ TB := tb_of 1411 (by decide +kernel) rfl
theorem t_1412 : (Jvm.Cond.selects "CanoeSidesModel" ({ cls := "CanoeSidesModel", name := "alone", desc := "()I" } : Jvm.MethodName) ({ cls := "CanoeSidesModel", name := "alone", desc := "()I" } : Jvm.MethodName)) ∈ TB := tb_of 1412 (by decide +kernel) rfl
theorem t_1413 : (Jvm.Cond.code ({ cls := "CanoeSidesModel", name := "alone", desc := "()I" } : Jvm.MethodName) prog_13_method_57_code (2 : Nat) (Option.some Jvm.ClassFile.FieldType.int)) ∈ TB := tb_of 1413 (by decide +kernel) rfl
theorem t_1414 : (Jvm.Cond.methodLink "CanoeSidesLaw" (100 : Nat) ({ cls := "CanoeSidesModel", name := "third", desc := "(I)I" } : Jvm.MethodName)) ∈ TB := tb_of 1414 (by decide +kernel) rfl
theorem t_1415 : (Jvm.Cond.instanceMethod ({ cls := "CanoeSidesModel", name := "third", desc := "(I)I" } : Jvm.MethodName)) ∈ TB := tb_of 1415 (by decide +kernel) rfl
theorem t_1416 : (Jvm.Cond.selects "CanoeSidesModel" ({ cls := "CanoeSidesModel", name := "third", desc := "(I)I" } : Jvm.MethodName) ({ cls := "CanoeSidesModel", name := "third", desc := "(I)I" } : Jvm.MethodName)) ∈ TB := tb_of 1416 (by decide +kernel) rfl
theorem t_1417 : (Jvm.Cond.code ({ cls := "CanoeSidesModel", name := "third", desc := "(I)I" } : Jvm.MethodName) prog_13_method_58_code (3 : Nat) (Option.some Jvm.ClassFile.FieldType.int)) ∈ TB := tb_of 1417 (by decide +kernel) rfl
theorem t_1419 : (Jvm.Cond.methodLink "CanoeSidesLaw" (68 : Nat) ({ cls := "CanoeSidesModel", name := "calls", desc := "(II)I" } : Jvm.MethodName)) ∈ TB := tb_of 1419 (by decide +kernel) rfl
theorem t_1420 : (Jvm.Cond.instanceMethod ({ cls := "CanoeSidesModel", name := "calls", desc := "(II)I" } : Jvm.MethodName)) ∈ TB := tb_of 1420 (by decide +kernel) rfl
theorem t_1421 : (Jvm.Cond.selects "CanoeSidesModel" ({ cls := "CanoeSidesModel", name := "calls", desc := "(II)I" } : Jvm.MethodName) ({ cls := "CanoeSidesModel", name := "calls", desc := "(II)I" } : Jvm.MethodName)) ∈ TB := tb_of 1421 (by decide +kernel) rfl
theorem t_1422 : (Jvm.Cond.code ({ cls := "CanoeSidesModel", name := "calls", desc := "(II)I" } : Jvm.MethodName) prog_13_method_61_code (7 : Nat) (Option.some Jvm.ClassFile.FieldType.int)) ∈ TB := tb_of 1422 (by decide +kernel) rfl
theorem t_1432 : (Jvm.Cond.methodLink "CanoeSidesLaw" (72 : Nat) ({ cls := "CanoeSidesModel", name := "mute", desc := "(III)I" } : Jvm.MethodName)) ∈ TB := tb_of 1432 (by decide +kernel) rfl
theorem t_1433 : (Jvm.Cond.instanceMethod ({ cls := "CanoeSidesModel", name := "mute", desc := "(III)I" } : Jvm.MethodName)) ∈ TB := tb_of 1433 (by decide +kernel) rfl
theorem t_1434 : (Jvm.Cond.selects "CanoeSidesModel" ({ cls := "CanoeSidesModel", name := "mute", desc := "(III)I" } : Jvm.MethodName) ({ cls := "CanoeSidesModel", name := "mute", desc := "(III)I" } : Jvm.MethodName)) ∈ TB := tb_of 1434 (by decide +kernel) rfl
theorem t_1435 : (Jvm.Cond.code ({ cls := "CanoeSidesModel", name := "mute", desc := "(III)I" } : Jvm.MethodName) prog_13_method_63_code (6 : Nat) (Option.some Jvm.ClassFile.FieldType.int)) ∈ TB := tb_of 1435 (by decide +kernel) rfl
theorem t_1441 : (Jvm.Cond.methodLink "CanoeSidesLaw" (76 : Nat) ({ cls := "CanoeSidesModel", name := "round", desc := "(II)I" } : Jvm.MethodName)) ∈ TB := tb_of 1441 (by decide +kernel) rfl
theorem t_1442 : (Jvm.Cond.instanceMethod ({ cls := "CanoeSidesModel", name := "round", desc := "(II)I" } : Jvm.MethodName)) ∈ TB := tb_of 1442 (by decide +kernel) rfl
theorem t_1443 : (Jvm.Cond.selects "CanoeSidesModel" ({ cls := "CanoeSidesModel", name := "round", desc := "(II)I" } : Jvm.MethodName) ({ cls := "CanoeSidesModel", name := "round", desc := "(II)I" } : Jvm.MethodName)) ∈ TB := tb_of 1443 (by decide +kernel) rfl
theorem t_1444 : (Jvm.Cond.code ({ cls := "CanoeSidesModel", name := "round", desc := "(II)I" } : Jvm.MethodName) prog_13_method_64_code (5 : Nat) (Option.some Jvm.ClassFile.FieldType.int)) ∈ TB := tb_of 1444 (by decide +kernel) rfl
theorem t_1445 : (Jvm.Cond.methodLink "CanoeSidesLaw" (80 : Nat) ({ cls := "CanoeSidesModel", name := "off", desc := "(III)I" } : Jvm.MethodName)) ∈ TB := tb_of 1445 (by decide +kernel) rfl
theorem t_1446 : (Jvm.Cond.instanceMethod ({ cls := "CanoeSidesModel", name := "off", desc := "(III)I" } : Jvm.MethodName)) ∈ TB := tb_of 1446 (by decide +kernel) rfl
theorem t_1447 : (Jvm.Cond.selects "CanoeSidesModel" ({ cls := "CanoeSidesModel", name := "off", desc := "(III)I" } : Jvm.MethodName) ({ cls := "CanoeSidesModel", name := "off", desc := "(III)I" } : Jvm.MethodName)) ∈ TB := tb_of 1447 (by decide +kernel) rfl
theorem t_1448 : (Jvm.Cond.code ({ cls := "CanoeSidesModel", name := "off", desc := "(III)I" } : Jvm.MethodName) prog_13_method_66_code (4 : Nat) (Option.some Jvm.ClassFile.FieldType.int)) ∈ TB := tb_of 1448 (by decide +kernel) rfl
theorem t_1453 : (Jvm.Cond.methodLink "CanoeSidesLaw" (84 : Nat) ({ cls := "CanoeSidesModel", name := "best", desc := "(I)I" } : Jvm.MethodName)) ∈ TB := tb_of 1453 (by decide +kernel) rfl
theorem t_1454 : (Jvm.Cond.instanceMethod ({ cls := "CanoeSidesModel", name := "best", desc := "(I)I" } : Jvm.MethodName)) ∈ TB := tb_of 1454 (by decide +kernel) rfl
theorem t_1455 : (Jvm.Cond.selects "CanoeSidesModel" ({ cls := "CanoeSidesModel", name := "best", desc := "(I)I" } : Jvm.MethodName) ({ cls := "CanoeSidesModel", name := "best", desc := "(I)I" } : Jvm.MethodName)) ∈ TB := tb_of 1455 (by decide +kernel) rfl
theorem t_1456 : (Jvm.Cond.code ({ cls := "CanoeSidesModel", name := "best", desc := "(I)I" } : Jvm.MethodName) prog_13_method_67_code (7 : Nat) (Option.some Jvm.ClassFile.FieldType.int)) ∈ TB := tb_of 1456 (by decide +kernel) rfl
theorem t_1458 : (Jvm.Cond.methodLink "CanoeSidesLaw" (88 : Nat) ({ cls := "CanoeSidesModel", name := "still", desc := "(I)I" } : Jvm.MethodName)) ∈ TB := tb_of 1458 (by decide +kernel) rfl
theorem t_1459 : (Jvm.Cond.instanceMethod ({ cls := "CanoeSidesModel", name := "still", desc := "(I)I" } : Jvm.MethodName)) ∈ TB := tb_of 1459 (by decide +kernel) rfl
theorem t_1460 : (Jvm.Cond.selects "CanoeSidesModel" ({ cls := "CanoeSidesModel", name := "still", desc := "(I)I" } : Jvm.MethodName) ({ cls := "CanoeSidesModel", name := "still", desc := "(I)I" } : Jvm.MethodName)) ∈ TB := tb_of 1460 (by decide +kernel) rfl
theorem t_1461 : (Jvm.Cond.code ({ cls := "CanoeSidesModel", name := "still", desc := "(I)I" } : Jvm.MethodName) prog_13_method_69_code (5 : Nat) (Option.some Jvm.ClassFile.FieldType.int)) ∈ TB := tb_of 1461 (by decide +kernel) rfl
theorem t_1466 : (Jvm.Cond.methodLink "CanoeSidesLaw" (92 : Nat) ({ cls := "CanoeSidesModel", name := "surely", desc := "(I)I" } : Jvm.MethodName)) ∈ TB := tb_of 1466 (by decide +kernel) rfl
theorem t_1467 : (Jvm.Cond.instanceMethod ({ cls := "CanoeSidesModel", name := "surely", desc := "(I)I" } : Jvm.MethodName)) ∈ TB := tb_of 1467 (by decide +kernel) rfl
theorem t_1468 : (Jvm.Cond.selects "CanoeSidesModel" ({ cls := "CanoeSidesModel", name := "surely", desc := "(I)I" } : Jvm.MethodName) ({ cls := "CanoeSidesModel", name := "surely", desc := "(I)I" } : Jvm.MethodName)) ∈ TB := tb_of 1468 (by decide +kernel) rfl
theorem t_1469 : (Jvm.Cond.code ({ cls := "CanoeSidesModel", name := "surely", desc := "(I)I" } : Jvm.MethodName) prog_13_method_73_code (5 : Nat) (Option.some Jvm.ClassFile.FieldType.int)) ∈ TB := tb_of 1469 (by decide +kernel) rfl
theorem t_1482 : (Jvm.Cond.methodLink "CanoeSidesLaw" (104 : Nat) ({ cls := "CanoeSidesModel", name := "rules", desc := "(I)I" } : Jvm.MethodName)) ∈ TB := tb_of 1482 (by decide +kernel) rfl
theorem t_1483 : (Jvm.Cond.instanceMethod ({ cls := "CanoeSidesModel", name := "rules", desc := "(I)I" } : Jvm.MethodName)) ∈ TB := tb_of 1483 (by decide +kernel) rfl
theorem t_1484 : (Jvm.Cond.selects "CanoeSidesModel" ({ cls := "CanoeSidesModel", name := "rules", desc := "(I)I" } : Jvm.MethodName) ({ cls := "CanoeSidesModel", name := "rules", desc := "(I)I" } : Jvm.MethodName)) ∈ TB := tb_of 1484 (by decide +kernel) rfl
theorem t_1485 : (Jvm.Cond.code ({ cls := "CanoeSidesModel", name := "rules", desc := "(I)I" } : Jvm.MethodName) prog_13_method_76_code (6 : Nat) (Option.some Jvm.ClassFile.FieldType.int)) ∈ TB := tb_of 1485 (by decide +kernel) rfl
theorem t_1493 : (Jvm.Cond.methodLink "CanoeSidesLaw" (108 : Nat) ({ cls := "CanoeSidesModel", name := "line", desc := "(II)I" } : Jvm.MethodName)) ∈ TB := tb_of 1493 (by decide +kernel) rfl
theorem t_1494 : (Jvm.Cond.instanceMethod ({ cls := "CanoeSidesModel", name := "line", desc := "(II)I" } : Jvm.MethodName)) ∈ TB := tb_of 1494 (by decide +kernel) rfl
theorem t_1495 : (Jvm.Cond.selects "CanoeSidesModel" ({ cls := "CanoeSidesModel", name := "line", desc := "(II)I" } : Jvm.MethodName) ({ cls := "CanoeSidesModel", name := "line", desc := "(II)I" } : Jvm.MethodName)) ∈ TB := tb_of 1495 (by decide +kernel) rfl
theorem t_1496 : (Jvm.Cond.code ({ cls := "CanoeSidesModel", name := "line", desc := "(II)I" } : Jvm.MethodName) prog_13_method_77_code (3 : Nat) (Option.some Jvm.ClassFile.FieldType.int)) ∈ TB := tb_of 1496 (by decide +kernel) rfl
theorem t_1497 : (Jvm.Cond.methodLink "CanoeSidesLaw" (112 : Nat) ({ cls := "CanoeSidesModel", name := "fits", desc := "(I)I" } : Jvm.MethodName)) ∈ TB := tb_of 1497 (by decide +kernel) rfl
theorem t_1498 : (Jvm.Cond.instanceMethod ({ cls := "CanoeSidesModel", name := "fits", desc := "(I)I" } : Jvm.MethodName)) ∈ TB := tb_of 1498 (by decide +kernel) rfl
theorem t_1499 : (Jvm.Cond.selects "CanoeSidesModel" ({ cls := "CanoeSidesModel", name := "fits", desc := "(I)I" } : Jvm.MethodName) ({ cls := "CanoeSidesModel", name := "fits", desc := "(I)I" } : Jvm.MethodName)) ∈ TB := tb_of 1499 (by decide +kernel) rfl
theorem t_1500 : (Jvm.Cond.code ({ cls := "CanoeSidesModel", name := "fits", desc := "(I)I" } : Jvm.MethodName) prog_13_method_80_code (2 : Nat) (Option.some Jvm.ClassFile.FieldType.int)) ∈ TB := tb_of 1500 (by decide +kernel) rfl
theorem t_1509 : (Jvm.Cond.methodLink "CanoeSidesLaw" (116 : Nat) ({ cls := "CanoeSidesModel", name := "gave", desc := "(I)I" } : Jvm.MethodName)) ∈ TB := tb_of 1509 (by decide +kernel) rfl
theorem t_1510 : (Jvm.Cond.instanceMethod ({ cls := "CanoeSidesModel", name := "gave", desc := "(I)I" } : Jvm.MethodName)) ∈ TB := tb_of 1510 (by decide +kernel) rfl
theorem t_1511 : (Jvm.Cond.selects "CanoeSidesModel" ({ cls := "CanoeSidesModel", name := "gave", desc := "(I)I" } : Jvm.MethodName) ({ cls := "CanoeSidesModel", name := "gave", desc := "(I)I" } : Jvm.MethodName)) ∈ TB := tb_of 1511 (by decide +kernel) rfl
theorem t_1512 : (Jvm.Cond.code ({ cls := "CanoeSidesModel", name := "gave", desc := "(I)I" } : Jvm.MethodName) prog_13_method_81_code (2 : Nat) (Option.some Jvm.ClassFile.FieldType.int)) ∈ TB := tb_of 1512 (by decide +kernel) rfl
theorem t_1513 : (Jvm.Cond.methodLink "CanoeSidesLaw" (120 : Nat) ({ cls := "CanoeSidesModel", name := "write", desc := "(III)I" } : Jvm.MethodName)) ∈ TB := tb_of 1513 (by decide +kernel) rfl
theorem t_1514 : (Jvm.Cond.instanceMethod ({ cls := "CanoeSidesModel", name := "write", desc := "(III)I" } : Jvm.MethodName)) ∈ TB := tb_of 1514 (by decide +kernel) rfl
theorem t_1515 : (Jvm.Cond.selects "CanoeSidesModel" ({ cls := "CanoeSidesModel", name := "write", desc := "(III)I" } : Jvm.MethodName) ({ cls := "CanoeSidesModel", name := "write", desc := "(III)I" } : Jvm.MethodName)) ∈ TB := tb_of 1515 (by decide +kernel) rfl
theorem t_1516 : (Jvm.Cond.code ({ cls := "CanoeSidesModel", name := "write", desc := "(III)I" } : Jvm.MethodName) prog_13_method_82_code (4 : Nat) (Option.some Jvm.ClassFile.FieldType.int)) ∈ TB := tb_of 1516 (by decide +kernel) rfl
theorem t_1517 : (Jvm.Cond.methodLink "CanoeSidesLaw" (124 : Nat) ({ cls := "CanoeSidesModel", name := "judge", desc := "()I" } : Jvm.MethodName)) ∈ TB := tb_of 1517 (by decide +kernel) rfl
theorem t_1518 : (Jvm.Cond.instanceMethod ({ cls := "CanoeSidesModel", name := "judge", desc := "()I" } : Jvm.MethodName)) ∈ TB := tb_of 1518 (by decide +kernel) rfl
theorem t_1519 : (Jvm.Cond.selects "CanoeSidesModel" ({ cls := "CanoeSidesModel", name := "judge", desc := "()I" } : Jvm.MethodName) ({ cls := "CanoeSidesModel", name := "judge", desc := "()I" } : Jvm.MethodName)) ∈ TB := tb_of 1519 (by decide +kernel) rfl
theorem t_1520 : (Jvm.Cond.code ({ cls := "CanoeSidesModel", name := "judge", desc := "()I" } : Jvm.MethodName) prog_13_method_83_code (3 : Nat) (Option.some Jvm.ClassFile.FieldType.int)) ∈ TB := tb_of 1520 (by decide +kernel) rfl
theorem t_1521 : (Jvm.Cond.methodLink "CanoeSidesLaw" (128 : Nat) ({ cls := "CanoeSidesModel", name := "tear", desc := "()I" } : Jvm.MethodName)) ∈ TB := tb_of 1521 (by decide +kernel) rfl
theorem t_1522 : (Jvm.Cond.instanceMethod ({ cls := "CanoeSidesModel", name := "tear", desc := "()I" } : Jvm.MethodName)) ∈ TB := tb_of 1522 (by decide +kernel) rfl
theorem t_1523 : (Jvm.Cond.selects "CanoeSidesModel" ({ cls := "CanoeSidesModel", name := "tear", desc := "()I" } : Jvm.MethodName) ({ cls := "CanoeSidesModel", name := "tear", desc := "()I" } : Jvm.MethodName)) ∈ TB := tb_of 1523 (by decide +kernel) rfl
theorem t_1524 : (Jvm.Cond.code ({ cls := "CanoeSidesModel", name := "tear", desc := "()I" } : Jvm.MethodName) prog_13_method_84_code (2 : Nat) (Option.some Jvm.ClassFile.FieldType.int)) ∈ TB := tb_of 1524 (by decide +kernel) rfl
theorem t_1525 : (Jvm.Cond.methodLink "CanoeSidesLaw" (132 : Nat) ({ cls := "CanoeSidesModel", name := "seed", desc := "(I)I" } : Jvm.MethodName)) ∈ TB := tb_of 1525 (by decide +kernel) rfl
theorem t_1526 : (Jvm.Cond.instanceMethod ({ cls := "CanoeSidesModel", name := "seed", desc := "(I)I" } : Jvm.MethodName)) ∈ TB := tb_of 1526 (by decide +kernel) rfl
theorem t_1527 : (Jvm.Cond.selects "CanoeSidesModel" ({ cls := "CanoeSidesModel", name := "seed", desc := "(I)I" } : Jvm.MethodName) ({ cls := "CanoeSidesModel", name := "seed", desc := "(I)I" } : Jvm.MethodName)) ∈ TB := tb_of 1527 (by decide +kernel) rfl
theorem t_1528 : (Jvm.Cond.code ({ cls := "CanoeSidesModel", name := "seed", desc := "(I)I" } : Jvm.MethodName) prog_13_method_85_code (3 : Nat) (Option.some Jvm.ClassFile.FieldType.int)) ∈ TB := tb_of 1528 (by decide +kernel) rfl
theorem t_1529 : (Jvm.Cond.methodLink "CanoeSidesLaw" (136 : Nat) ({ cls := "CanoeSidesModel", name := "keep", desc := "(I)I" } : Jvm.MethodName)) ∈ TB := tb_of 1529 (by decide +kernel) rfl
theorem t_1530 : (Jvm.Cond.instanceMethod ({ cls := "CanoeSidesModel", name := "keep", desc := "(I)I" } : Jvm.MethodName)) ∈ TB := tb_of 1530 (by decide +kernel) rfl
theorem t_1531 : (Jvm.Cond.selects "CanoeSidesModel" ({ cls := "CanoeSidesModel", name := "keep", desc := "(I)I" } : Jvm.MethodName) ({ cls := "CanoeSidesModel", name := "keep", desc := "(I)I" } : Jvm.MethodName)) ∈ TB := tb_of 1531 (by decide +kernel) rfl
theorem t_1532 : (Jvm.Cond.code ({ cls := "CanoeSidesModel", name := "keep", desc := "(I)I" } : Jvm.MethodName) prog_13_method_87_code (2 : Nat) (Option.some Jvm.ClassFile.FieldType.int)) ∈ TB := tb_of 1532 (by decide +kernel) rfl
theorem t_1537 : (Jvm.Cond.methodLink "CanoeSidesLaw" (140 : Nat) ({ cls := "CanoeSidesModel", name := "goBack", desc := "(I)I" } : Jvm.MethodName)) ∈ TB := tb_of 1537 (by decide +kernel) rfl
theorem t_1538 : (Jvm.Cond.instanceMethod ({ cls := "CanoeSidesModel", name := "goBack", desc := "(I)I" } : Jvm.MethodName)) ∈ TB := tb_of 1538 (by decide +kernel) rfl
theorem t_1539 : (Jvm.Cond.selects "CanoeSidesModel" ({ cls := "CanoeSidesModel", name := "goBack", desc := "(I)I" } : Jvm.MethodName) ({ cls := "CanoeSidesModel", name := "goBack", desc := "(I)I" } : Jvm.MethodName)) ∈ TB := tb_of 1539 (by decide +kernel) rfl
theorem t_1540 : (Jvm.Cond.code ({ cls := "CanoeSidesModel", name := "goBack", desc := "(I)I" } : Jvm.MethodName) prog_13_method_88_code (2 : Nat) (Option.some Jvm.ClassFile.FieldType.int)) ∈ TB := tb_of 1540 (by decide +kernel) rfl
def WBo (b0 b1 : Bool) : Wl := (if b0 then [(31, .inl (0, [none, none, none]))] else []) ++ (if b1 then [(32, .inl (0, [none, none, none]))] else [])
def WLw (b0 b1 : Bool) : Wl := WC ++ (WM ++ WBo b0 b1)
theorem nd_WLw (b0 b1 : Bool) : nd (WLw b0 b1) = true := by cases b0 <;> cases b1 <;> decide +kernel
theorem sub_WLw_C (b0 b1 : Bool) : subW WC (WLw b0 b1) = true := by cases b0 <;> cases b1 <;> decide +kernel
theorem sub_WLw_M (b0 b1 : Bool) : subW WM (WLw b0 b1) = true := by cases b0 <;> cases b1 <;> decide +kernel
section LAWROWS
variable {p : Program} {l : Launch} {e : Env} {R : Room} {s : State} {m : MethodId} {args : Array Value} {below : List Frame} {meth : Method} {c : Code} {K : KT} {A : Nat → Prop} {rs : Wl} {nL cells slots : Nat} {Q : State → Prop} {pc : Nat} {L : List (Nat × Value)} {st : List Value} {ad : Nat → Nat} {h : Hp} {cc : ByteArray} {own : String}
theorem g_sld (C0 : Cx p s m args meth c cc own nL K A) {b Ln : Nat} {xs : Nat → Int32} (hX : va_X b Ln xs s s.heap) (hbl : b < s.heap.size) (hbA : ¬ A b) {x : Int32} (j : Nat) (hj : j < Ln) (hL : Ln < 2 ^ 31) (hx : x = nI j) (hdg : decode cc pc = .ok (.iaload, 1))
    (k : G p l e R s m args below meth c K A rs nL cells slots Q (pc + 1) L (.int (xs j) :: st) ad h) : G p l e R s m args below meth c K A rs nL cells slots Q pc L (.int x :: .ref b :: st) ad h := fun H locs ls h1 h2 h3 h4 => by
  subst hx
  refine va_sld C0.1 C0.2.1 hX hbl hbA h3 (vp_in_nI hj (by omega)) hdg ?_
  rw [nI_clamp (by omega)]
  exact k H locs ls h1 h2 h3 h4
theorem g_slen (C0 : Cx p s m args meth c cc own nL K A) {b Ln : Nat} {xs : Nat → Int32} (hX : va_X b Ln xs s s.heap) (hbl : b < s.heap.size) (hbA : ¬ A b) (hdg : decode cc pc = .ok (.arraylength, 1))
    (k : G p l e R s m args below meth c K A rs nL cells slots Q (pc + 1) L (.int (nI Ln) :: st) ad h) : G p l e R s m args below meth c K A rs nL cells slots Q pc L (.ref b :: st) ad h := fun H locs ls h1 h2 h3 h4 => va_slen C0.1 C0.2.1 hX hbl hbA h3 hdg (k H locs ls h1 h2 h3 h4)
theorem g_callNI (C0 : Cx p s m args meth c cc own nL K A) {y : MethodName} {b : ByteArray} {nC idx : Nat} {rm : Room} {rs0 rs1 : Wl} {As rst st0 : List Value} {r0 mc ms ci N : Nat} {sp : List (Option (Option Nat))} {C : String} {T : u_T} {r : Int32} {h1 : Hp} (rest : Wl) (new keep ls : List Nat)
    (hM : ConNI l y b nC rm K rs0 ad h (.ref (ad r0) :: As) rs1 keep r h1 mc ms) (n : Nat) (hy : y.cls = C) (hw : Cond.methodLink own idx y ∈ TB ∧ Cond.instanceMethod y ∈ TB ∧ Cond.selects C y y ∈ TB ∧ Cond.initialized C ∈ TB ∧ Cond.code y b nC (some .int) ∈ TB) (hd : cwd y n) (hR : rm.frames + 1 ≤ R.frames ∧ 8 + (nC + 11) + rm.locals ≤ R.locals ∧ rm.cells = mc ∧ rm.slots = ms ∧ cells + mc ≤ R.cells ∧ slots + ms ≤ R.slots) (q0 : Nat) (hq : rs[q0]? = some (r0, .inl (ci, sp))) (hc : classes[ci]? = some (C, T, N))
    (hs : subW rs0 rs = true) (hn0 : nd rs0 = true) (hn : nd rs = true) (hrest : subW rest rs = true) (hnr : nd rest = true) (hap : rest.all (fun x => rs0.all (fun y => decide (x.1 ≠ y.1))) = true) (hls : rs1.map (fun x => x.1) = ls) (hdis : rest.all (fun x => decide (x.1 ∉ ls)) = true) (hfr : allR rest (fun r => decide (r ∉ new)) = true) (hcov : allR rs1 (fun r => decide (r ∈ keep) || decide (r ∈ new)) = true) (hkn : keep.all (fun r => decide (r ∉ new)) = true)
    (hst : st0 = As.reverse ++ .ref (ad r0) :: rst) (hlen : As.length = n) (hcat : (rst.map fun v => v.category).sum ≤ 8) (hdg : decode cc pc = .ok (.invokevirtual idx, 3))
    (k : ∀ ad' : Nat → Nat, (∀ y, y ∉ new → ad' y = ad y) → G p l e R s m args below meth c K A (rest ++ rs1) nL (cells + mc) (slots + ms) Q (pc + 3) L (.int r :: rst) ad' (mx ls h1 h)) : G p l e R s m args below meth c K A rs nL cells slots Q pc L st0 ad h := by
  intro H locs lx g1 g2 g3 g4
  subst hy
  have ht := C0.2.2.2.2.1
  have hr := va_runV (e := e) (below := below) (meth := meth) (As := As) (rest := rst) (Ts := TB) (nL := nL) (H := H) (locs := locs) (cells := cells) (slots := slots) (g := F0 m pc lx st0) ⟨C0.1, C0.2.1, C0.2.2.1, C0.2.2.2.1, ht⟩ (hM H.size) ⟨callB_of n ht (TB_in hw.2.2.2.2) rfl hR.2.2.1 hR.2.2.2.1 (ht _ hw.2.2.2.1) (ht _ hw.1) hd ⟨hR.1, hR.2.1⟩, ht _ hw.2.1, ht _ hw.2.2.1⟩
    ⟨Pre_blind _ _ _ _ _ _, va_recv C0.2.2.2.2.2.1 g1 hc (wd_at hq), fun U hU hW => ⟨rfl, pre_of C0 hs hn0 g1 g2 g3 hU hW⟩⟩ rfl hlen g4.1 hst (lv_room hcat) hdg ⟨hR.2.2.2.2.1, hR.2.2.2.2.2⟩
  refine va_calli hr g3 (fun q _ hq => A_sub C0 hs g2 g3 q hq) (A_sub C0 hs g2 g3) ?_
  intro r1 ad1 t H1 locs1 htp hvm hp hb hz hk hS
  subst hp
  obtain ⟨hkeep, hpost, hD1⟩ := hb
  obtain ⟨f1, f2⟩ := post_N (ad1 := ad1) (h1 := h1) C0 hs hrest hn hnr hap hls hdis hfr hcov hkn g1 g2 g3 hk hkeep (htp ▸ hpost.1) hD1
  exact k _ (fun y hy => by simp [hy]) H1 locs1 lx f1 f2 hS g4
end LAWROWS
abbrev lC : List Nat := [0, 2, 10, 11, 12, 15, 16, 17, 20, 21, 22, 25, 26, 27, 30, 33, 35, 36, 40, 41, 42, 43, 45, 46, 47, 48, 49, 55, 56, 60, 61, 62, 63, 64]
abbrev lM : List Nat := [100, 101, 102, 103, 104, 105, 106, 107, 108, 109, 110, 111, 112, 113, 114, 115]
def MO_feed (N : Nat) (Inv : Nat → Bool → Bool → Hp → Prop) : Prop := ∀ (k : Nat) (b0 b1 : Bool) (h : Hp) (a0 : Int32), k < 64 → Inv k b0 b1 h → ∃ (r : Int32) (h1 : Hp) (h2 : Hp), K_C_feed a0 h = some (r, h1) ∧ K_M_feed a0 (mx lC h1 h) = some (r, h2) ∧ Inv (k + 1) b0 b1 (mx lM h2 (mx lC h1 h))
def MO_river (N : Nat) (Inv : Nat → Bool → Bool → Hp → Prop) : Prop := ∀ (k : Nat) (b0 b1 : Bool) (h : Hp), k < 64 → Inv k b0 b1 h → ∃ (r : Int32) (h1 h2 : Hp) (d0 d1 : Bool), K_C_river N h = some (r, h1) ∧ K_M_river N (mx lC h1 h) = some (r, h2) ∧ (d0 = true → b0 = true) ∧ (d1 = true → b1 = true) ∧ Inv (k + 1) d0 d1 (mx lM h2 (mx lC h1 h))
def MO_fault (N : Nat) (Inv : Nat → Bool → Bool → Hp → Prop) : Prop := ∀ (k : Nat) (b0 b1 : Bool) (h : Hp), k < 64 → Inv k b0 b1 h → ∃ (r : Int32), K_C_fault h = some r ∧ K_M_fault h = some r ∧ Inv (k + 1) b0 b1 h
def MO_told (N : Nat) (Inv : Nat → Bool → Bool → Hp → Prop) : Prop := ∀ (k : Nat) (b0 b1 : Bool) (h : Hp) (a0 : Int32), k < 64 → Inv k b0 b1 h → ∃ (r : Int32), K_C_told a0 h = some r ∧ K_M_told a0 h = some r ∧ Inv (k + 1) b0 b1 h
def MO_square (N : Nat) (Inv : Nat → Bool → Bool → Hp → Prop) : Prop := ∀ (k : Nat) (b0 b1 : Bool) (h : Hp) (a0 : Int32) (a1 : Int32), k < 64 → Inv k b0 b1 h → ∃ (r : Int32), K_C_square a0 a1 h = some r ∧ K_M_square a0 a1 h = some r ∧ Inv (k + 1) b0 b1 h
def MO_habit (N : Nat) (Inv : Nat → Bool → Bool → Hp → Prop) : Prop := ∀ (k : Nat) (b0 b1 : Bool) (h : Hp) (a0 : Int32) (a1 : Int32), k < 64 → Inv k b0 b1 h → ∃ (r : Int32), K_C_habit a0 a1 h = some r ∧ K_M_habit a0 a1 h = some r ∧ Inv (k + 1) b0 b1 h
def MO_stroke (N : Nat) (Inv : Nat → Bool → Bool → Hp → Prop) : Prop := ∀ (k : Nat) (b0 b1 : Bool) (h : Hp) (a0 : Int32) (a1 : Int32), k < 64 → Inv k b0 b1 h → ∃ (r : Int32) (h1 : Hp) (h2 : Hp), K_C_stroke a0 a1 h = some (r, h1) ∧ K_M_stroke N a0 a1 (mx lC h1 h) = some (r, h2) ∧ Inv (k + 1) b0 b1 (mx lM h2 (mx lC h1 h))
def MO_would (N : Nat) (Inv : Nat → Bool → Bool → Hp → Prop) : Prop := ∀ (k : Nat) (b0 b1 : Bool) (h : Hp) (a0 : Int32) (a1 : Int32) (a2 : Int32), k < 64 → Inv k b0 b1 h → ∃ (r : Int32) (h2 : Hp), K_C_would a0 a1 a2 h = some r ∧ K_M_would N a0 a1 a2 h = some (r, h2) ∧ Inv (k + 1) b0 b1 (mx lM h2 h)
def MO_back (N : Nat) (Inv : Nat → Bool → Bool → Hp → Prop) : Prop := ∀ (k : Nat) (b0 b1 : Bool) (h : Hp) (a0 : Int32), k < 64 → Inv k b0 b1 h → ∃ (r : Int32) (h1 : Hp) (h2 : Hp), K_C_back a0 h = some (r, h1) ∧ K_M_back N a0 (mx lC h1 h) = some (r, h2) ∧ Inv (k + 1) b0 b1 (mx lM h2 (mx lC h1 h))
def MO_set (N : Nat) (Inv : Nat → Bool → Bool → Hp → Prop) : Prop := ∀ (k : Nat) (b0 b1 : Bool) (h : Hp) (a0 : Int32) (a1 : Int32) (a2 : Int32), k < 64 → Inv k b0 b1 h → ∃ (r : Int32) (h1 : Hp) (h2 : Hp), K_C_set a0 a1 a2 h = some (r, h1) ∧ K_M_set a0 a1 a2 (mx lC h1 h) = some (r, h2) ∧ Inv (k + 1) b0 b1 (mx lM h2 (mx lC h1 h))
def MO_drift (N : Nat) (Inv : Nat → Bool → Bool → Hp → Prop) : Prop := ∀ (k : Nat) (b0 b1 : Bool) (h : Hp) (a0 : Int32), k < 64 → Inv k b0 b1 h → ∃ (r : Int32) (h1 : Hp) (h2 : Hp), K_C_drift N a0 h = some (r, h1) ∧ K_M_drift N a0 (mx lC h1 h) = some (r, h2) ∧ Inv (k + 1) b0 b1 (mx lM h2 (mx lC h1 h))
def MO_fewest (N : Nat) (Inv : Nat → Bool → Bool → Hp → Prop) : Prop := ∀ (k : Nat) (b0 b1 : Bool) (h : Hp) (a0 : Int32), k < 64 → Inv k b0 b1 h → ∃ (r : Int32) (h1 : Hp) (h2 : Hp), K_C_fewest N a0 h = some (r, h1) ∧ K_M_fewest N a0 (mx lC h1 h) = some (r, h2) ∧ Inv (k + 1) b0 b1 (mx lM h2 (mx lC h1 h))
def MO_calls (N : Nat) (Inv : Nat → Bool → Bool → Hp → Prop) : Prop := ∀ (k : Nat) (b0 b1 : Bool) (h : Hp) (a0 : Int32) (a1 : Int32), k < 64 → Inv k b0 b1 h → ∃ (r : Int32) (h1 : Hp) (h2 : Hp), K_C_calls N a0 a1 h = some (r, h1) ∧ K_M_calls N a0 a1 (mx lC h1 h) = some (r, h2) ∧ Inv (k + 1) b0 b1 (mx lM h2 (mx lC h1 h))
def MO_mute (N : Nat) (Inv : Nat → Bool → Bool → Hp → Prop) : Prop := ∀ (k : Nat) (b0 b1 : Bool) (h : Hp) (a0 : Int32) (a1 : Int32) (a2 : Int32), k < 64 → Inv k b0 b1 h → ∃ (r : Int32) (h2 : Hp), K_C_mute N a0 a1 a2 h = some r ∧ K_M_mute N a0 a1 a2 h = some (r, h2) ∧ Inv (k + 1) b0 b1 (mx lM h2 h)
def MO_round (N : Nat) (Inv : Nat → Bool → Bool → Hp → Prop) : Prop := ∀ (k : Nat) (b0 b1 : Bool) (h : Hp) (a0 : Int32) (a1 : Int32), k < 64 → Inv k b0 b1 h → ∃ (r : Int32) (h2 : Hp), K_C_round N a0 a1 h = some r ∧ K_M_round N a0 a1 h = some (r, h2) ∧ Inv (k + 1) b0 b1 (mx lM h2 h)
def MO_off (N : Nat) (Inv : Nat → Bool → Bool → Hp → Prop) : Prop := ∀ (k : Nat) (b0 b1 : Bool) (h : Hp) (a0 : Int32) (a1 : Int32) (a2 : Int32), k < 64 → Inv k b0 b1 h → ∃ (r : Int32) (h2 : Hp), K_C_off N a0 a1 a2 h = some r ∧ K_M_off N a0 a1 a2 h = some (r, h2) ∧ Inv (k + 1) b0 b1 (mx lM h2 h)
def MO_best (N : Nat) (Inv : Nat → Bool → Bool → Hp → Prop) : Prop := ∀ (k : Nat) (b0 b1 : Bool) (h : Hp) (a0 : Int32), k < 64 → Inv k b0 b1 h → ∃ (r : Int32) (h2 : Hp), K_C_best N a0 h = some r ∧ K_M_best N a0 h = some (r, h2) ∧ Inv (k + 1) b0 b1 (mx lM h2 h)
def MO_still (N : Nat) (Inv : Nat → Bool → Bool → Hp → Prop) : Prop := ∀ (k : Nat) (b0 b1 : Bool) (h : Hp) (a0 : Int32), k < 64 → Inv k b0 b1 h → ∃ (r : Int32) (h2 : Hp), K_C_still N a0 h = some r ∧ K_M_still N a0 h = some (r, h2) ∧ Inv (k + 1) b0 b1 (mx lM h2 h)
def MO_surely (N : Nat) (Inv : Nat → Bool → Bool → Hp → Prop) : Prop := ∀ (k : Nat) (b0 b1 : Bool) (h : Hp) (a0 : Int32), k < 64 → Inv k b0 b1 h → ∃ (r : Int32) (h1 : Hp) (h2 : Hp), K_C_surely N a0 h = some (r, h1) ∧ K_M_surely N a0 (mx lC h1 h) = some (r, h2) ∧ Inv (k + 1) b0 b1 (mx lM h2 (mx lC h1 h))
def MO_alone (N : Nat) (Inv : Nat → Bool → Bool → Hp → Prop) : Prop := ∀ (k : Nat) (b0 b1 : Bool) (h : Hp), k < 64 → Inv k b0 b1 h → ∃ (r : Int32) (h1 : Hp) (h2 : Hp), K_C_alone N h = some (r, h1) ∧ K_M_alone N (mx lC h1 h) = some (r, h2) ∧ Inv (k + 1) b0 b1 (mx lM h2 (mx lC h1 h))
def MO_third (N : Nat) (Inv : Nat → Bool → Bool → Hp → Prop) : Prop := ∀ (k : Nat) (b0 b1 : Bool) (h : Hp) (a0 : Int32), k < 64 → Inv k b0 b1 h → ∃ (r : Int32) (h1 : Hp) (h2 : Hp), K_C_third N a0 h = some (r, h1) ∧ K_M_third N a0 (mx lC h1 h) = some (r, h2) ∧ Inv (k + 1) b0 b1 (mx lM h2 (mx lC h1 h))
def MO_rules (N : Nat) (Inv : Nat → Bool → Bool → Hp → Prop) : Prop := ∀ (k : Nat) (b0 b1 : Bool) (h : Hp) (a0 : Int32), k < 64 → Inv k b0 b1 h → ∃ (r : Int32) (h2 : Hp), K_C_rules N a0 h = some r ∧ K_M_rules N a0 h = some (r, h2) ∧ Inv (k + 1) b0 b1 (mx lM h2 h)
def MO_line (N : Nat) (Inv : Nat → Bool → Bool → Hp → Prop) : Prop := ∀ (k : Nat) (b0 b1 : Bool) (h : Hp) (a0 : Int32) (a1 : Int32), k < 64 → Inv k b0 b1 h → ∃ (r : Int32) (h1 : Hp) (h2 : Hp), K_C_line a0 a1 h = some (r, h1) ∧ K_M_line a0 a1 (mx lC h1 h) = some (r, h2) ∧ Inv (k + 1) b0 b1 (mx lM h2 (mx lC h1 h))
def MO_fits (N : Nat) (Inv : Nat → Bool → Bool → Hp → Prop) : Prop := ∀ (k : Nat) (b0 b1 : Bool) (h : Hp) (a0 : Int32), k < 64 → Inv k b0 b1 h → ∃ (r : Int32) (h1 : Hp) (h2 : Hp), K_C_fits N a0 h = some (r, h1) ∧ K_M_fits N a0 (mx lC h1 h) = some (r, h2) ∧ Inv (k + 1) b0 b1 (mx lM h2 (mx lC h1 h))
def MO_gave (N : Nat) (Inv : Nat → Bool → Bool → Hp → Prop) : Prop := ∀ (k : Nat) (b0 b1 : Bool) (h : Hp) (a0 : Int32), k < 64 → Inv k b0 b1 h → ∃ (r : Int32) (h1 : Hp) (h2 : Hp), K_C_gave N a0 h = some (r, h1) ∧ K_M_gave N a0 (mx lC h1 h) = some (r, h2) ∧ Inv (k + 1) b0 b1 (mx lM h2 (mx lC h1 h))
def MO_write (N : Nat) (Inv : Nat → Bool → Bool → Hp → Prop) : Prop := ∀ (k : Nat) (b0 b1 : Bool) (h : Hp) (a0 : Int32) (a1 : Int32) (a2 : Int32), k < 64 → Inv k b0 b1 h → ∃ (r : Int32) (h1 : Hp) (h2 : Hp), K_C_write a0 a1 a2 h = some (r, h1) ∧ K_M_write a0 a1 a2 (mx lC h1 h) = some (r, h2) ∧ Inv (k + 1) b0 b1 (mx lM h2 (mx lC h1 h))
def MO_judge (N : Nat) (Inv : Nat → Bool → Bool → Hp → Prop) : Prop := ∀ (k : Nat) (b0 b1 : Bool) (h : Hp), k < 64 → Inv k b0 b1 h → ∃ (r : Int32) (h2 : Hp), K_C_judge N h = some r ∧ K_M_judge N h = some (r, h2) ∧ Inv (k + 1) b0 b1 (mx lM h2 h)
def MO_tear (N : Nat) (Inv : Nat → Bool → Bool → Hp → Prop) : Prop := ∀ (k : Nat) (b0 b1 : Bool) (h : Hp), k < 64 → Inv k b0 b1 h → ∃ (r : Int32) (h1 : Hp) (h2 : Hp), K_C_tear h = some (r, h1) ∧ K_M_tear (mx lC h1 h) = some (r, h2) ∧ Inv (k + 1) b0 b1 (mx lM h2 (mx lC h1 h))
def MO_seed (N : Nat) (Inv : Nat → Bool → Bool → Hp → Prop) : Prop := ∀ (k : Nat) (b0 b1 : Bool) (h : Hp) (a0 : Int32), k < 64 → Inv k b0 b1 h → ∃ (r : Int32) (h1 : Hp) (h2 : Hp), K_C_seed a0 h = some (r, h1) ∧ K_M_seed a0 (mx lC h1 h) = some (r, h2) ∧ Inv (k + 1) b0 b1 (mx lM h2 (mx lC h1 h))
def MO_keep (N : Nat) (Inv : Nat → Bool → Bool → Hp → Prop) : Prop := ∀ (k : Nat) (b0 b1 : Bool) (h : Hp), k < 64 → Inv k b0 b1 h → (∃ (r : Int32) (h1 h2 : Hp), K_C_keep_0 h = some (r, h1) ∧ K_M_keep N 0 (mx [0, 2, 10, 11, 12, 15, 16, 17, 20, 21, 22, 25, 26, 27, 30, 35, 36, 40, 41, 42, 43, 45, 46, 47, 48, 49, 55, 56, 60, 61, 62, 63, 64, 33, 31] h1 h) = some (r, h2) ∧ Inv (k + 1) true b1 (mx lM h2 (mx [0, 2, 10, 11, 12, 15, 16, 17, 20, 21, 22, 25, 26, 27, 30, 35, 36, 40, 41, 42, 43, 45, 46, 47, 48, 49, 55, 56, 60, 61, 62, 63, 64, 33, 31] h1 h))) ∧ (∃ (r : Int32) (h1 h2 : Hp), K_C_keep_1 h = some (r, h1) ∧ K_M_keep N 1 (mx [0, 2, 10, 11, 12, 15, 16, 17, 20, 21, 22, 25, 26, 27, 30, 35, 36, 40, 41, 42, 43, 45, 46, 47, 48, 49, 55, 56, 60, 61, 62, 63, 64, 33, 32] h1 h) = some (r, h2) ∧ Inv (k + 1) b0 true (mx lM h2 (mx [0, 2, 10, 11, 12, 15, 16, 17, 20, 21, 22, 25, 26, 27, 30, 35, 36, 40, 41, 42, 43, 45, 46, 47, 48, 49, 55, 56, 60, 61, 62, 63, 64, 33, 32] h1 h))) ∧ (∀ a0 : Int32, a0 ≠ 0 → a0 ≠ 1 → ∃ (v : Int32) (h2 : Hp), K_C_isOutside a0 0 (2 - 1) = some v ∧ v ≠ 0 ∧ K_M_keep N a0 (mx lC h h) = some (-1000000001, h2) ∧ Inv (k + 1) b0 b1 (mx lM h2 (mx lC h h)))
def MO_goBack (N : Nat) (Inv : Nat → Bool → Bool → Hp → Prop) : Prop := ∀ (k : Nat) (b0 b1 : Bool) (h : Hp) (a0 : Int32), k < 64 → Inv k b0 b1 h → (b0 = false → h 33 0 = 0) ∧ (b1 = false → h 33 1 = 0) ∧ ∃ (r : Int32) (h1 : Hp) (h2 : Hp), K_C_goBack a0 h = some (r, h1) ∧ K_M_goBack N a0 (mx (lC ++ (WBo b0 b1).map (fun x => x.1)) h1 h) = some (r, h2) ∧ Inv (k + 1) b0 b1 (mx lM h2 (mx (lC ++ (WBo b0 b1).map (fun x => x.1)) h1 h))
def MO_start (N : Nat) (Inv : Nat → Bool → Bool → Hp → Prop) : Prop := ∀ h : Hp, ∃ (h1 h2 : Hp), K_C_init N (hrow h 0 (fun _ => 0)) = some h1 ∧ K_M_init N (hrow (mx lC h1 (hrow h 0 (fun _ => 0))) 100 (fun _ => 0)) = some h2 ∧ Inv 0 false false (mx lM h2 (hrow (mx lC h1 (hrow h 0 (fun _ => 0))) 100 (fun _ => 0)))
def MO_all (N : Nat) (Inv : Nat → Bool → Bool → Hp → Prop) : Prop := MO_start N Inv ∧ MO_feed N Inv ∧ MO_river N Inv ∧ MO_fault N Inv ∧ MO_told N Inv ∧ MO_square N Inv ∧ MO_habit N Inv ∧ MO_stroke N Inv ∧ MO_would N Inv ∧ MO_back N Inv ∧ MO_set N Inv ∧ MO_drift N Inv ∧ MO_fewest N Inv ∧ MO_calls N Inv ∧ MO_mute N Inv ∧ MO_round N Inv ∧ MO_off N Inv ∧ MO_best N Inv ∧ MO_still N Inv ∧ MO_surely N Inv ∧ MO_alone N Inv ∧ MO_third N Inv ∧ MO_rules N Inv ∧ MO_line N Inv ∧ MO_fits N Inv ∧ MO_gave N Inv ∧ MO_write N Inv ∧ MO_judge N Inv ∧ MO_tear N Inv ∧ MO_seed N Inv ∧ MO_keep N Inv ∧ MO_goBack N Inv
theorem d_law_0 : decode code 0 = .ok (.new 7, 3) := by decide +kernel
theorem d_law_3 : decode code 3 = .ok (.dup, 1) := by decide +kernel
theorem d_law_4 : decode code 4 = .ok (.invokespecial 9, 3) := by decide +kernel
theorem d_law_7 : decode code 7 = .ok (.astore_n 1, 1) := by decide +kernel
theorem d_law_8 : decode code 8 = .ok (.new 10, 3) := by decide +kernel
theorem d_law_11 : decode code 11 = .ok (.dup, 1) := by decide +kernel
theorem d_law_12 : decode code 12 = .ok (.invokespecial 12, 3) := by decide +kernel
theorem d_law_15 : decode code 15 = .ok (.astore_n 2, 1) := by decide +kernel
theorem d_law_16 : decode code 16 = .ok (.iconst 0, 1) := by decide +kernel
theorem d_law_17 : decode code 17 = .ok (.istore_n 3, 1) := by decide +kernel
theorem d_law_18 : decode code 18 = .ok (.iload_n 3, 1) := by decide +kernel
theorem d_law_19 : decode code 19 = .ok (.aload_n 0, 1) := by decide +kernel
theorem d_law_20 : decode code 20 = .ok (.arraylength, 1) := by decide +kernel
theorem d_law_21 : decode code 21 = .ok (.iconst 4, 1) := by decide +kernel
theorem d_law_22 : decode code 22 = .ok (.isub, 1) := by decide +kernel
theorem d_law_23 : decode code 23 = .ok (.if_icmp .gt 978, 3) := by decide +kernel
theorem d_law_26 : decode code 26 = .ok (.aload_n 0, 1) := by decide +kernel
theorem d_law_27 : decode code 27 = .ok (.iload_n 3, 1) := by decide +kernel
theorem d_law_28 : decode code 28 = .ok (.iaload, 1) := by decide +kernel
theorem d_law_29 : decode code 29 = .ok (.bipush 31, 2) := by decide +kernel
theorem d_law_31 : decode code 31 = .ok (.iand, 1) := by decide +kernel
theorem d_law_32 : decode code 32 = .ok (.tableswitch 963 0 30 #[140, 163, 176, 189, 212, 245, 278, 311, 354, 377, 420, 443, 466, 499, 542, 575, 618, 641, 664, 687, 700, 723, 746, 779, 802, 825, 868, 881, 894, 917, 940], 140) := by decide +kernel
theorem d_law_172 : decode code 172 = .ok (.aload_n 1, 1) := by decide +kernel
theorem d_law_173 : decode code 173 = .ok (.aload_n 0, 1) := by decide +kernel
theorem d_law_174 : decode code 174 = .ok (.iload_n 3, 1) := by decide +kernel
theorem d_law_175 : decode code 175 = .ok (.iconst 1, 1) := by decide +kernel
theorem d_law_176 : decode code 176 = .ok (.iadd, 1) := by decide +kernel
theorem d_law_177 : decode code 177 = .ok (.iaload, 1) := by decide +kernel
theorem d_law_178 : decode code 178 = .ok (.invokevirtual 13, 3) := by decide +kernel
theorem d_law_181 : decode code 181 = .ok (.aload_n 2, 1) := by decide +kernel
theorem d_law_182 : decode code 182 = .ok (.aload_n 0, 1) := by decide +kernel
theorem d_law_183 : decode code 183 = .ok (.iload_n 3, 1) := by decide +kernel
theorem d_law_184 : decode code 184 = .ok (.iconst 1, 1) := by decide +kernel
theorem d_law_185 : decode code 185 = .ok (.iadd, 1) := by decide +kernel
theorem d_law_186 : decode code 186 = .ok (.iaload, 1) := by decide +kernel
theorem d_law_187 : decode code 187 = .ok (.invokevirtual 17, 3) := by decide +kernel
theorem d_law_190 : decode code 190 = .ok (.if_icmp .eq 805, 3) := by decide +kernel
theorem d_law_193 : decode code 193 = .ok (.iconst 0, 1) := by decide +kernel
theorem d_law_194 : decode code 194 = .ok (.ireturn, 1) := by decide +kernel
theorem d_law_195 : decode code 195 = .ok (.aload_n 1, 1) := by decide +kernel
theorem d_law_196 : decode code 196 = .ok (.invokevirtual 18, 3) := by decide +kernel
theorem d_law_199 : decode code 199 = .ok (.aload_n 2, 1) := by decide +kernel
theorem d_law_200 : decode code 200 = .ok (.invokevirtual 22, 3) := by decide +kernel
theorem d_law_203 : decode code 203 = .ok (.if_icmp .eq 792, 3) := by decide +kernel
theorem d_law_206 : decode code 206 = .ok (.iconst 0, 1) := by decide +kernel
theorem d_law_207 : decode code 207 = .ok (.ireturn, 1) := by decide +kernel
theorem d_law_208 : decode code 208 = .ok (.aload_n 1, 1) := by decide +kernel
theorem d_law_209 : decode code 209 = .ok (.invokevirtual 23, 3) := by decide +kernel
theorem d_law_212 : decode code 212 = .ok (.aload_n 2, 1) := by decide +kernel
theorem d_law_213 : decode code 213 = .ok (.invokevirtual 26, 3) := by decide +kernel
theorem d_law_216 : decode code 216 = .ok (.if_icmp .eq 779, 3) := by decide +kernel
theorem d_law_219 : decode code 219 = .ok (.iconst 0, 1) := by decide +kernel
theorem d_law_220 : decode code 220 = .ok (.ireturn, 1) := by decide +kernel
theorem d_law_221 : decode code 221 = .ok (.aload_n 1, 1) := by decide +kernel
theorem d_law_222 : decode code 222 = .ok (.aload_n 0, 1) := by decide +kernel
theorem d_law_223 : decode code 223 = .ok (.iload_n 3, 1) := by decide +kernel
theorem d_law_224 : decode code 224 = .ok (.iconst 1, 1) := by decide +kernel
theorem d_law_225 : decode code 225 = .ok (.iadd, 1) := by decide +kernel
theorem d_law_226 : decode code 226 = .ok (.iaload, 1) := by decide +kernel
theorem d_law_227 : decode code 227 = .ok (.invokevirtual 27, 3) := by decide +kernel
theorem d_law_230 : decode code 230 = .ok (.aload_n 2, 1) := by decide +kernel
theorem d_law_231 : decode code 231 = .ok (.aload_n 0, 1) := by decide +kernel
theorem d_law_232 : decode code 232 = .ok (.iload_n 3, 1) := by decide +kernel
theorem d_law_233 : decode code 233 = .ok (.iconst 1, 1) := by decide +kernel
theorem d_law_234 : decode code 234 = .ok (.iadd, 1) := by decide +kernel
theorem d_law_235 : decode code 235 = .ok (.iaload, 1) := by decide +kernel
theorem d_law_236 : decode code 236 = .ok (.invokevirtual 30, 3) := by decide +kernel
theorem d_law_239 : decode code 239 = .ok (.if_icmp .eq 756, 3) := by decide +kernel
theorem d_law_242 : decode code 242 = .ok (.iconst 0, 1) := by decide +kernel
theorem d_law_243 : decode code 243 = .ok (.ireturn, 1) := by decide +kernel
theorem d_law_244 : decode code 244 = .ok (.aload_n 1, 1) := by decide +kernel
theorem d_law_245 : decode code 245 = .ok (.aload_n 0, 1) := by decide +kernel
theorem d_law_246 : decode code 246 = .ok (.iload_n 3, 1) := by decide +kernel
theorem d_law_247 : decode code 247 = .ok (.iconst 1, 1) := by decide +kernel
theorem d_law_248 : decode code 248 = .ok (.iadd, 1) := by decide +kernel
theorem d_law_249 : decode code 249 = .ok (.iaload, 1) := by decide +kernel
theorem d_law_250 : decode code 250 = .ok (.aload_n 0, 1) := by decide +kernel
theorem d_law_251 : decode code 251 = .ok (.iload_n 3, 1) := by decide +kernel
theorem d_law_252 : decode code 252 = .ok (.iconst 2, 1) := by decide +kernel
theorem d_law_253 : decode code 253 = .ok (.iadd, 1) := by decide +kernel
theorem d_law_254 : decode code 254 = .ok (.iaload, 1) := by decide +kernel
theorem d_law_255 : decode code 255 = .ok (.invokevirtual 31, 3) := by decide +kernel
theorem d_law_258 : decode code 258 = .ok (.aload_n 2, 1) := by decide +kernel
theorem d_law_259 : decode code 259 = .ok (.aload_n 0, 1) := by decide +kernel
theorem d_law_260 : decode code 260 = .ok (.iload_n 3, 1) := by decide +kernel
theorem d_law_261 : decode code 261 = .ok (.iconst 1, 1) := by decide +kernel
theorem d_law_262 : decode code 262 = .ok (.iadd, 1) := by decide +kernel
theorem d_law_263 : decode code 263 = .ok (.iaload, 1) := by decide +kernel
theorem d_law_264 : decode code 264 = .ok (.aload_n 0, 1) := by decide +kernel
theorem d_law_265 : decode code 265 = .ok (.iload_n 3, 1) := by decide +kernel
theorem d_law_266 : decode code 266 = .ok (.iconst 2, 1) := by decide +kernel
theorem d_law_267 : decode code 267 = .ok (.iadd, 1) := by decide +kernel
theorem d_law_268 : decode code 268 = .ok (.iaload, 1) := by decide +kernel
theorem d_law_269 : decode code 269 = .ok (.invokevirtual 35, 3) := by decide +kernel
theorem d_law_272 : decode code 272 = .ok (.if_icmp .eq 723, 3) := by decide +kernel
theorem d_law_275 : decode code 275 = .ok (.iconst 0, 1) := by decide +kernel
theorem d_law_276 : decode code 276 = .ok (.ireturn, 1) := by decide +kernel
theorem d_law_277 : decode code 277 = .ok (.aload_n 1, 1) := by decide +kernel
theorem d_law_278 : decode code 278 = .ok (.aload_n 0, 1) := by decide +kernel
theorem d_law_279 : decode code 279 = .ok (.iload_n 3, 1) := by decide +kernel
theorem d_law_280 : decode code 280 = .ok (.iconst 1, 1) := by decide +kernel
theorem d_law_281 : decode code 281 = .ok (.iadd, 1) := by decide +kernel
theorem d_law_282 : decode code 282 = .ok (.iaload, 1) := by decide +kernel
theorem d_law_283 : decode code 283 = .ok (.aload_n 0, 1) := by decide +kernel
theorem d_law_284 : decode code 284 = .ok (.iload_n 3, 1) := by decide +kernel
theorem d_law_285 : decode code 285 = .ok (.iconst 2, 1) := by decide +kernel
theorem d_law_286 : decode code 286 = .ok (.iadd, 1) := by decide +kernel
theorem d_law_287 : decode code 287 = .ok (.iaload, 1) := by decide +kernel
theorem d_law_288 : decode code 288 = .ok (.invokevirtual 36, 3) := by decide +kernel
theorem d_law_291 : decode code 291 = .ok (.aload_n 2, 1) := by decide +kernel
theorem d_law_292 : decode code 292 = .ok (.aload_n 0, 1) := by decide +kernel
theorem d_law_293 : decode code 293 = .ok (.iload_n 3, 1) := by decide +kernel
theorem d_law_294 : decode code 294 = .ok (.iconst 1, 1) := by decide +kernel
theorem d_law_295 : decode code 295 = .ok (.iadd, 1) := by decide +kernel
theorem d_law_296 : decode code 296 = .ok (.iaload, 1) := by decide +kernel
theorem d_law_297 : decode code 297 = .ok (.aload_n 0, 1) := by decide +kernel
theorem d_law_298 : decode code 298 = .ok (.iload_n 3, 1) := by decide +kernel
theorem d_law_299 : decode code 299 = .ok (.iconst 2, 1) := by decide +kernel
theorem d_law_300 : decode code 300 = .ok (.iadd, 1) := by decide +kernel
theorem d_law_301 : decode code 301 = .ok (.iaload, 1) := by decide +kernel
theorem d_law_302 : decode code 302 = .ok (.invokevirtual 39, 3) := by decide +kernel
theorem d_law_305 : decode code 305 = .ok (.if_icmp .eq 690, 3) := by decide +kernel
theorem d_law_308 : decode code 308 = .ok (.iconst 0, 1) := by decide +kernel
theorem d_law_309 : decode code 309 = .ok (.ireturn, 1) := by decide +kernel
theorem d_law_310 : decode code 310 = .ok (.aload_n 1, 1) := by decide +kernel
theorem d_law_311 : decode code 311 = .ok (.aload_n 0, 1) := by decide +kernel
theorem d_law_312 : decode code 312 = .ok (.iload_n 3, 1) := by decide +kernel
theorem d_law_313 : decode code 313 = .ok (.iconst 1, 1) := by decide +kernel
theorem d_law_314 : decode code 314 = .ok (.iadd, 1) := by decide +kernel
theorem d_law_315 : decode code 315 = .ok (.iaload, 1) := by decide +kernel
theorem d_law_316 : decode code 316 = .ok (.aload_n 0, 1) := by decide +kernel
theorem d_law_317 : decode code 317 = .ok (.iload_n 3, 1) := by decide +kernel
theorem d_law_318 : decode code 318 = .ok (.iconst 2, 1) := by decide +kernel
theorem d_law_319 : decode code 319 = .ok (.iadd, 1) := by decide +kernel
theorem d_law_320 : decode code 320 = .ok (.iaload, 1) := by decide +kernel
theorem d_law_321 : decode code 321 = .ok (.invokevirtual 40, 3) := by decide +kernel
theorem d_law_324 : decode code 324 = .ok (.aload_n 2, 1) := by decide +kernel
theorem d_law_325 : decode code 325 = .ok (.aload_n 0, 1) := by decide +kernel
theorem d_law_326 : decode code 326 = .ok (.iload_n 3, 1) := by decide +kernel
theorem d_law_327 : decode code 327 = .ok (.iconst 1, 1) := by decide +kernel
theorem d_law_328 : decode code 328 = .ok (.iadd, 1) := by decide +kernel
theorem d_law_329 : decode code 329 = .ok (.iaload, 1) := by decide +kernel
theorem d_law_330 : decode code 330 = .ok (.aload_n 0, 1) := by decide +kernel
theorem d_law_331 : decode code 331 = .ok (.iload_n 3, 1) := by decide +kernel
theorem d_law_332 : decode code 332 = .ok (.iconst 2, 1) := by decide +kernel
theorem d_law_333 : decode code 333 = .ok (.iadd, 1) := by decide +kernel
theorem d_law_334 : decode code 334 = .ok (.iaload, 1) := by decide +kernel
theorem d_law_335 : decode code 335 = .ok (.invokevirtual 43, 3) := by decide +kernel
theorem d_law_338 : decode code 338 = .ok (.if_icmp .eq 657, 3) := by decide +kernel
theorem d_law_341 : decode code 341 = .ok (.iconst 0, 1) := by decide +kernel
theorem d_law_342 : decode code 342 = .ok (.ireturn, 1) := by decide +kernel
theorem d_law_343 : decode code 343 = .ok (.aload_n 1, 1) := by decide +kernel
theorem d_law_344 : decode code 344 = .ok (.aload_n 0, 1) := by decide +kernel
theorem d_law_345 : decode code 345 = .ok (.iload_n 3, 1) := by decide +kernel
theorem d_law_346 : decode code 346 = .ok (.iconst 1, 1) := by decide +kernel
theorem d_law_347 : decode code 347 = .ok (.iadd, 1) := by decide +kernel
theorem d_law_348 : decode code 348 = .ok (.iaload, 1) := by decide +kernel
theorem d_law_349 : decode code 349 = .ok (.aload_n 0, 1) := by decide +kernel
theorem d_law_350 : decode code 350 = .ok (.iload_n 3, 1) := by decide +kernel
theorem d_law_351 : decode code 351 = .ok (.iconst 2, 1) := by decide +kernel
theorem d_law_352 : decode code 352 = .ok (.iadd, 1) := by decide +kernel
theorem d_law_353 : decode code 353 = .ok (.iaload, 1) := by decide +kernel
theorem d_law_354 : decode code 354 = .ok (.aload_n 0, 1) := by decide +kernel
theorem d_law_355 : decode code 355 = .ok (.iload_n 3, 1) := by decide +kernel
theorem d_law_356 : decode code 356 = .ok (.iconst 3, 1) := by decide +kernel
theorem d_law_357 : decode code 357 = .ok (.iadd, 1) := by decide +kernel
theorem d_law_358 : decode code 358 = .ok (.iaload, 1) := by decide +kernel
theorem d_law_359 : decode code 359 = .ok (.invokevirtual 44, 3) := by decide +kernel
theorem d_law_362 : decode code 362 = .ok (.aload_n 2, 1) := by decide +kernel
theorem d_law_363 : decode code 363 = .ok (.aload_n 0, 1) := by decide +kernel
theorem d_law_364 : decode code 364 = .ok (.iload_n 3, 1) := by decide +kernel
theorem d_law_365 : decode code 365 = .ok (.iconst 1, 1) := by decide +kernel
theorem d_law_366 : decode code 366 = .ok (.iadd, 1) := by decide +kernel
theorem d_law_367 : decode code 367 = .ok (.iaload, 1) := by decide +kernel
theorem d_law_368 : decode code 368 = .ok (.aload_n 0, 1) := by decide +kernel
theorem d_law_369 : decode code 369 = .ok (.iload_n 3, 1) := by decide +kernel
theorem d_law_370 : decode code 370 = .ok (.iconst 2, 1) := by decide +kernel
theorem d_law_371 : decode code 371 = .ok (.iadd, 1) := by decide +kernel
theorem d_law_372 : decode code 372 = .ok (.iaload, 1) := by decide +kernel
theorem d_law_373 : decode code 373 = .ok (.aload_n 0, 1) := by decide +kernel
theorem d_law_374 : decode code 374 = .ok (.iload_n 3, 1) := by decide +kernel
theorem d_law_375 : decode code 375 = .ok (.iconst 3, 1) := by decide +kernel
theorem d_law_376 : decode code 376 = .ok (.iadd, 1) := by decide +kernel
theorem d_law_377 : decode code 377 = .ok (.iaload, 1) := by decide +kernel
theorem d_law_378 : decode code 378 = .ok (.invokevirtual 48, 3) := by decide +kernel
theorem d_law_381 : decode code 381 = .ok (.if_icmp .eq 614, 3) := by decide +kernel
theorem d_law_384 : decode code 384 = .ok (.iconst 0, 1) := by decide +kernel
theorem d_law_385 : decode code 385 = .ok (.ireturn, 1) := by decide +kernel
theorem d_law_386 : decode code 386 = .ok (.aload_n 1, 1) := by decide +kernel
theorem d_law_387 : decode code 387 = .ok (.aload_n 0, 1) := by decide +kernel
theorem d_law_388 : decode code 388 = .ok (.iload_n 3, 1) := by decide +kernel
theorem d_law_389 : decode code 389 = .ok (.iconst 1, 1) := by decide +kernel
theorem d_law_390 : decode code 390 = .ok (.iadd, 1) := by decide +kernel
theorem d_law_391 : decode code 391 = .ok (.iaload, 1) := by decide +kernel
theorem d_law_392 : decode code 392 = .ok (.invokevirtual 49, 3) := by decide +kernel
theorem d_law_395 : decode code 395 = .ok (.aload_n 2, 1) := by decide +kernel
theorem d_law_396 : decode code 396 = .ok (.aload_n 0, 1) := by decide +kernel
theorem d_law_397 : decode code 397 = .ok (.iload_n 3, 1) := by decide +kernel
theorem d_law_398 : decode code 398 = .ok (.iconst 1, 1) := by decide +kernel
theorem d_law_399 : decode code 399 = .ok (.iadd, 1) := by decide +kernel
theorem d_law_400 : decode code 400 = .ok (.iaload, 1) := by decide +kernel
theorem d_law_401 : decode code 401 = .ok (.invokevirtual 52, 3) := by decide +kernel
theorem d_law_404 : decode code 404 = .ok (.if_icmp .eq 591, 3) := by decide +kernel
theorem d_law_407 : decode code 407 = .ok (.iconst 0, 1) := by decide +kernel
theorem d_law_408 : decode code 408 = .ok (.ireturn, 1) := by decide +kernel
theorem d_law_409 : decode code 409 = .ok (.aload_n 1, 1) := by decide +kernel
theorem d_law_410 : decode code 410 = .ok (.aload_n 0, 1) := by decide +kernel
theorem d_law_411 : decode code 411 = .ok (.iload_n 3, 1) := by decide +kernel
theorem d_law_412 : decode code 412 = .ok (.iconst 1, 1) := by decide +kernel
theorem d_law_413 : decode code 413 = .ok (.iadd, 1) := by decide +kernel
theorem d_law_414 : decode code 414 = .ok (.iaload, 1) := by decide +kernel
theorem d_law_415 : decode code 415 = .ok (.aload_n 0, 1) := by decide +kernel
theorem d_law_416 : decode code 416 = .ok (.iload_n 3, 1) := by decide +kernel
theorem d_law_417 : decode code 417 = .ok (.iconst 2, 1) := by decide +kernel
theorem d_law_418 : decode code 418 = .ok (.iadd, 1) := by decide +kernel
theorem d_law_419 : decode code 419 = .ok (.iaload, 1) := by decide +kernel
theorem d_law_420 : decode code 420 = .ok (.aload_n 0, 1) := by decide +kernel
theorem d_law_421 : decode code 421 = .ok (.iload_n 3, 1) := by decide +kernel
theorem d_law_422 : decode code 422 = .ok (.iconst 3, 1) := by decide +kernel
theorem d_law_423 : decode code 423 = .ok (.iadd, 1) := by decide +kernel
theorem d_law_424 : decode code 424 = .ok (.iaload, 1) := by decide +kernel
theorem d_law_425 : decode code 425 = .ok (.invokevirtual 53, 3) := by decide +kernel
theorem d_law_428 : decode code 428 = .ok (.aload_n 2, 1) := by decide +kernel
theorem d_law_429 : decode code 429 = .ok (.aload_n 0, 1) := by decide +kernel
theorem d_law_430 : decode code 430 = .ok (.iload_n 3, 1) := by decide +kernel
theorem d_law_431 : decode code 431 = .ok (.iconst 1, 1) := by decide +kernel
theorem d_law_432 : decode code 432 = .ok (.iadd, 1) := by decide +kernel
theorem d_law_433 : decode code 433 = .ok (.iaload, 1) := by decide +kernel
theorem d_law_434 : decode code 434 = .ok (.aload_n 0, 1) := by decide +kernel
theorem d_law_435 : decode code 435 = .ok (.iload_n 3, 1) := by decide +kernel
theorem d_law_436 : decode code 436 = .ok (.iconst 2, 1) := by decide +kernel
theorem d_law_437 : decode code 437 = .ok (.iadd, 1) := by decide +kernel
theorem d_law_438 : decode code 438 = .ok (.iaload, 1) := by decide +kernel
theorem d_law_439 : decode code 439 = .ok (.aload_n 0, 1) := by decide +kernel
theorem d_law_440 : decode code 440 = .ok (.iload_n 3, 1) := by decide +kernel
theorem d_law_441 : decode code 441 = .ok (.iconst 3, 1) := by decide +kernel
theorem d_law_442 : decode code 442 = .ok (.iadd, 1) := by decide +kernel
theorem d_law_443 : decode code 443 = .ok (.iaload, 1) := by decide +kernel
theorem d_law_444 : decode code 444 = .ok (.invokevirtual 56, 3) := by decide +kernel
theorem d_law_447 : decode code 447 = .ok (.if_icmp .eq 548, 3) := by decide +kernel
theorem d_law_450 : decode code 450 = .ok (.iconst 0, 1) := by decide +kernel
theorem d_law_451 : decode code 451 = .ok (.ireturn, 1) := by decide +kernel
theorem d_law_452 : decode code 452 = .ok (.aload_n 1, 1) := by decide +kernel
theorem d_law_453 : decode code 453 = .ok (.aload_n 0, 1) := by decide +kernel
theorem d_law_454 : decode code 454 = .ok (.iload_n 3, 1) := by decide +kernel
theorem d_law_455 : decode code 455 = .ok (.iconst 1, 1) := by decide +kernel
theorem d_law_456 : decode code 456 = .ok (.iadd, 1) := by decide +kernel
theorem d_law_457 : decode code 457 = .ok (.iaload, 1) := by decide +kernel
theorem d_law_458 : decode code 458 = .ok (.invokevirtual 57, 3) := by decide +kernel
theorem d_law_461 : decode code 461 = .ok (.aload_n 2, 1) := by decide +kernel
theorem d_law_462 : decode code 462 = .ok (.aload_n 0, 1) := by decide +kernel
theorem d_law_463 : decode code 463 = .ok (.iload_n 3, 1) := by decide +kernel
theorem d_law_464 : decode code 464 = .ok (.iconst 1, 1) := by decide +kernel
theorem d_law_465 : decode code 465 = .ok (.iadd, 1) := by decide +kernel
theorem d_law_466 : decode code 466 = .ok (.iaload, 1) := by decide +kernel
theorem d_law_467 : decode code 467 = .ok (.invokevirtual 60, 3) := by decide +kernel
theorem d_law_470 : decode code 470 = .ok (.if_icmp .eq 525, 3) := by decide +kernel
theorem d_law_473 : decode code 473 = .ok (.iconst 0, 1) := by decide +kernel
theorem d_law_474 : decode code 474 = .ok (.ireturn, 1) := by decide +kernel
theorem d_law_475 : decode code 475 = .ok (.aload_n 1, 1) := by decide +kernel
theorem d_law_476 : decode code 476 = .ok (.aload_n 0, 1) := by decide +kernel
theorem d_law_477 : decode code 477 = .ok (.iload_n 3, 1) := by decide +kernel
theorem d_law_478 : decode code 478 = .ok (.iconst 1, 1) := by decide +kernel
theorem d_law_479 : decode code 479 = .ok (.iadd, 1) := by decide +kernel
theorem d_law_480 : decode code 480 = .ok (.iaload, 1) := by decide +kernel
theorem d_law_481 : decode code 481 = .ok (.invokevirtual 61, 3) := by decide +kernel
theorem d_law_484 : decode code 484 = .ok (.aload_n 2, 1) := by decide +kernel
theorem d_law_485 : decode code 485 = .ok (.aload_n 0, 1) := by decide +kernel
theorem d_law_486 : decode code 486 = .ok (.iload_n 3, 1) := by decide +kernel
theorem d_law_487 : decode code 487 = .ok (.iconst 1, 1) := by decide +kernel
theorem d_law_488 : decode code 488 = .ok (.iadd, 1) := by decide +kernel
theorem d_law_489 : decode code 489 = .ok (.iaload, 1) := by decide +kernel
theorem d_law_490 : decode code 490 = .ok (.invokevirtual 64, 3) := by decide +kernel
theorem d_law_493 : decode code 493 = .ok (.if_icmp .eq 502, 3) := by decide +kernel
theorem d_law_496 : decode code 496 = .ok (.iconst 0, 1) := by decide +kernel
theorem d_law_497 : decode code 497 = .ok (.ireturn, 1) := by decide +kernel
theorem d_law_498 : decode code 498 = .ok (.aload_n 1, 1) := by decide +kernel
theorem d_law_499 : decode code 499 = .ok (.aload_n 0, 1) := by decide +kernel
theorem d_law_500 : decode code 500 = .ok (.iload_n 3, 1) := by decide +kernel
theorem d_law_501 : decode code 501 = .ok (.iconst 1, 1) := by decide +kernel
theorem d_law_502 : decode code 502 = .ok (.iadd, 1) := by decide +kernel
theorem d_law_503 : decode code 503 = .ok (.iaload, 1) := by decide +kernel
theorem d_law_504 : decode code 504 = .ok (.aload_n 0, 1) := by decide +kernel
theorem d_law_505 : decode code 505 = .ok (.iload_n 3, 1) := by decide +kernel
theorem d_law_506 : decode code 506 = .ok (.iconst 2, 1) := by decide +kernel
theorem d_law_507 : decode code 507 = .ok (.iadd, 1) := by decide +kernel
theorem d_law_508 : decode code 508 = .ok (.iaload, 1) := by decide +kernel
theorem d_law_509 : decode code 509 = .ok (.invokevirtual 65, 3) := by decide +kernel
theorem d_law_512 : decode code 512 = .ok (.aload_n 2, 1) := by decide +kernel
theorem d_law_513 : decode code 513 = .ok (.aload_n 0, 1) := by decide +kernel
theorem d_law_514 : decode code 514 = .ok (.iload_n 3, 1) := by decide +kernel
theorem d_law_515 : decode code 515 = .ok (.iconst 1, 1) := by decide +kernel
theorem d_law_516 : decode code 516 = .ok (.iadd, 1) := by decide +kernel
theorem d_law_517 : decode code 517 = .ok (.iaload, 1) := by decide +kernel
theorem d_law_518 : decode code 518 = .ok (.aload_n 0, 1) := by decide +kernel
theorem d_law_519 : decode code 519 = .ok (.iload_n 3, 1) := by decide +kernel
theorem d_law_520 : decode code 520 = .ok (.iconst 2, 1) := by decide +kernel
theorem d_law_521 : decode code 521 = .ok (.iadd, 1) := by decide +kernel
theorem d_law_522 : decode code 522 = .ok (.iaload, 1) := by decide +kernel
theorem d_law_523 : decode code 523 = .ok (.invokevirtual 68, 3) := by decide +kernel
theorem d_law_526 : decode code 526 = .ok (.if_icmp .eq 469, 3) := by decide +kernel
theorem d_law_529 : decode code 529 = .ok (.iconst 0, 1) := by decide +kernel
theorem d_law_530 : decode code 530 = .ok (.ireturn, 1) := by decide +kernel
theorem d_law_531 : decode code 531 = .ok (.aload_n 1, 1) := by decide +kernel
theorem d_law_532 : decode code 532 = .ok (.aload_n 0, 1) := by decide +kernel
theorem d_law_533 : decode code 533 = .ok (.iload_n 3, 1) := by decide +kernel
theorem d_law_534 : decode code 534 = .ok (.iconst 1, 1) := by decide +kernel
theorem d_law_535 : decode code 535 = .ok (.iadd, 1) := by decide +kernel
theorem d_law_536 : decode code 536 = .ok (.iaload, 1) := by decide +kernel
theorem d_law_537 : decode code 537 = .ok (.aload_n 0, 1) := by decide +kernel
theorem d_law_538 : decode code 538 = .ok (.iload_n 3, 1) := by decide +kernel
theorem d_law_539 : decode code 539 = .ok (.iconst 2, 1) := by decide +kernel
theorem d_law_540 : decode code 540 = .ok (.iadd, 1) := by decide +kernel
theorem d_law_541 : decode code 541 = .ok (.iaload, 1) := by decide +kernel
theorem d_law_542 : decode code 542 = .ok (.aload_n 0, 1) := by decide +kernel
theorem d_law_543 : decode code 543 = .ok (.iload_n 3, 1) := by decide +kernel
theorem d_law_544 : decode code 544 = .ok (.iconst 3, 1) := by decide +kernel
theorem d_law_545 : decode code 545 = .ok (.iadd, 1) := by decide +kernel
theorem d_law_546 : decode code 546 = .ok (.iaload, 1) := by decide +kernel
theorem d_law_547 : decode code 547 = .ok (.invokevirtual 69, 3) := by decide +kernel
theorem d_law_550 : decode code 550 = .ok (.aload_n 2, 1) := by decide +kernel
theorem d_law_551 : decode code 551 = .ok (.aload_n 0, 1) := by decide +kernel
theorem d_law_552 : decode code 552 = .ok (.iload_n 3, 1) := by decide +kernel
theorem d_law_553 : decode code 553 = .ok (.iconst 1, 1) := by decide +kernel
theorem d_law_554 : decode code 554 = .ok (.iadd, 1) := by decide +kernel
theorem d_law_555 : decode code 555 = .ok (.iaload, 1) := by decide +kernel
theorem d_law_556 : decode code 556 = .ok (.aload_n 0, 1) := by decide +kernel
theorem d_law_557 : decode code 557 = .ok (.iload_n 3, 1) := by decide +kernel
theorem d_law_558 : decode code 558 = .ok (.iconst 2, 1) := by decide +kernel
theorem d_law_559 : decode code 559 = .ok (.iadd, 1) := by decide +kernel
theorem d_law_560 : decode code 560 = .ok (.iaload, 1) := by decide +kernel
theorem d_law_561 : decode code 561 = .ok (.aload_n 0, 1) := by decide +kernel
theorem d_law_562 : decode code 562 = .ok (.iload_n 3, 1) := by decide +kernel
theorem d_law_563 : decode code 563 = .ok (.iconst 3, 1) := by decide +kernel
theorem d_law_564 : decode code 564 = .ok (.iadd, 1) := by decide +kernel
theorem d_law_565 : decode code 565 = .ok (.iaload, 1) := by decide +kernel
theorem d_law_566 : decode code 566 = .ok (.invokevirtual 72, 3) := by decide +kernel
theorem d_law_569 : decode code 569 = .ok (.if_icmp .eq 426, 3) := by decide +kernel
theorem d_law_572 : decode code 572 = .ok (.iconst 0, 1) := by decide +kernel
theorem d_law_573 : decode code 573 = .ok (.ireturn, 1) := by decide +kernel
theorem d_law_574 : decode code 574 = .ok (.aload_n 1, 1) := by decide +kernel
theorem d_law_575 : decode code 575 = .ok (.aload_n 0, 1) := by decide +kernel
theorem d_law_576 : decode code 576 = .ok (.iload_n 3, 1) := by decide +kernel
theorem d_law_577 : decode code 577 = .ok (.iconst 1, 1) := by decide +kernel
theorem d_law_578 : decode code 578 = .ok (.iadd, 1) := by decide +kernel
theorem d_law_579 : decode code 579 = .ok (.iaload, 1) := by decide +kernel
theorem d_law_580 : decode code 580 = .ok (.aload_n 0, 1) := by decide +kernel
theorem d_law_581 : decode code 581 = .ok (.iload_n 3, 1) := by decide +kernel
theorem d_law_582 : decode code 582 = .ok (.iconst 2, 1) := by decide +kernel
theorem d_law_583 : decode code 583 = .ok (.iadd, 1) := by decide +kernel
theorem d_law_584 : decode code 584 = .ok (.iaload, 1) := by decide +kernel
theorem d_law_585 : decode code 585 = .ok (.invokevirtual 73, 3) := by decide +kernel
theorem d_law_588 : decode code 588 = .ok (.aload_n 2, 1) := by decide +kernel
theorem d_law_589 : decode code 589 = .ok (.aload_n 0, 1) := by decide +kernel
theorem d_law_590 : decode code 590 = .ok (.iload_n 3, 1) := by decide +kernel
theorem d_law_591 : decode code 591 = .ok (.iconst 1, 1) := by decide +kernel
theorem d_law_592 : decode code 592 = .ok (.iadd, 1) := by decide +kernel
theorem d_law_593 : decode code 593 = .ok (.iaload, 1) := by decide +kernel
theorem d_law_594 : decode code 594 = .ok (.aload_n 0, 1) := by decide +kernel
theorem d_law_595 : decode code 595 = .ok (.iload_n 3, 1) := by decide +kernel
theorem d_law_596 : decode code 596 = .ok (.iconst 2, 1) := by decide +kernel
theorem d_law_597 : decode code 597 = .ok (.iadd, 1) := by decide +kernel
theorem d_law_598 : decode code 598 = .ok (.iaload, 1) := by decide +kernel
theorem d_law_599 : decode code 599 = .ok (.invokevirtual 76, 3) := by decide +kernel
theorem d_law_602 : decode code 602 = .ok (.if_icmp .eq 393, 3) := by decide +kernel
theorem d_law_605 : decode code 605 = .ok (.iconst 0, 1) := by decide +kernel
theorem d_law_606 : decode code 606 = .ok (.ireturn, 1) := by decide +kernel
theorem d_law_607 : decode code 607 = .ok (.aload_n 1, 1) := by decide +kernel
theorem d_law_608 : decode code 608 = .ok (.aload_n 0, 1) := by decide +kernel
theorem d_law_609 : decode code 609 = .ok (.iload_n 3, 1) := by decide +kernel
theorem d_law_610 : decode code 610 = .ok (.iconst 1, 1) := by decide +kernel
theorem d_law_611 : decode code 611 = .ok (.iadd, 1) := by decide +kernel
theorem d_law_612 : decode code 612 = .ok (.iaload, 1) := by decide +kernel
theorem d_law_613 : decode code 613 = .ok (.aload_n 0, 1) := by decide +kernel
theorem d_law_614 : decode code 614 = .ok (.iload_n 3, 1) := by decide +kernel
theorem d_law_615 : decode code 615 = .ok (.iconst 2, 1) := by decide +kernel
theorem d_law_616 : decode code 616 = .ok (.iadd, 1) := by decide +kernel
theorem d_law_617 : decode code 617 = .ok (.iaload, 1) := by decide +kernel
theorem d_law_618 : decode code 618 = .ok (.aload_n 0, 1) := by decide +kernel
theorem d_law_619 : decode code 619 = .ok (.iload_n 3, 1) := by decide +kernel
theorem d_law_620 : decode code 620 = .ok (.iconst 3, 1) := by decide +kernel
theorem d_law_621 : decode code 621 = .ok (.iadd, 1) := by decide +kernel
theorem d_law_622 : decode code 622 = .ok (.iaload, 1) := by decide +kernel
theorem d_law_623 : decode code 623 = .ok (.invokevirtual 77, 3) := by decide +kernel
theorem d_law_626 : decode code 626 = .ok (.aload_n 2, 1) := by decide +kernel
theorem d_law_627 : decode code 627 = .ok (.aload_n 0, 1) := by decide +kernel
theorem d_law_628 : decode code 628 = .ok (.iload_n 3, 1) := by decide +kernel
theorem d_law_629 : decode code 629 = .ok (.iconst 1, 1) := by decide +kernel
theorem d_law_630 : decode code 630 = .ok (.iadd, 1) := by decide +kernel
theorem d_law_631 : decode code 631 = .ok (.iaload, 1) := by decide +kernel
theorem d_law_632 : decode code 632 = .ok (.aload_n 0, 1) := by decide +kernel
theorem d_law_633 : decode code 633 = .ok (.iload_n 3, 1) := by decide +kernel
theorem d_law_634 : decode code 634 = .ok (.iconst 2, 1) := by decide +kernel
theorem d_law_635 : decode code 635 = .ok (.iadd, 1) := by decide +kernel
theorem d_law_636 : decode code 636 = .ok (.iaload, 1) := by decide +kernel
theorem d_law_637 : decode code 637 = .ok (.aload_n 0, 1) := by decide +kernel
theorem d_law_638 : decode code 638 = .ok (.iload_n 3, 1) := by decide +kernel
theorem d_law_639 : decode code 639 = .ok (.iconst 3, 1) := by decide +kernel
theorem d_law_640 : decode code 640 = .ok (.iadd, 1) := by decide +kernel
theorem d_law_641 : decode code 641 = .ok (.iaload, 1) := by decide +kernel
theorem d_law_642 : decode code 642 = .ok (.invokevirtual 80, 3) := by decide +kernel
theorem d_law_645 : decode code 645 = .ok (.if_icmp .eq 350, 3) := by decide +kernel
theorem d_law_648 : decode code 648 = .ok (.iconst 0, 1) := by decide +kernel
theorem d_law_649 : decode code 649 = .ok (.ireturn, 1) := by decide +kernel
theorem d_law_650 : decode code 650 = .ok (.aload_n 1, 1) := by decide +kernel
theorem d_law_651 : decode code 651 = .ok (.aload_n 0, 1) := by decide +kernel
theorem d_law_652 : decode code 652 = .ok (.iload_n 3, 1) := by decide +kernel
theorem d_law_653 : decode code 653 = .ok (.iconst 1, 1) := by decide +kernel
theorem d_law_654 : decode code 654 = .ok (.iadd, 1) := by decide +kernel
theorem d_law_655 : decode code 655 = .ok (.iaload, 1) := by decide +kernel
theorem d_law_656 : decode code 656 = .ok (.invokevirtual 81, 3) := by decide +kernel
theorem d_law_659 : decode code 659 = .ok (.aload_n 2, 1) := by decide +kernel
theorem d_law_660 : decode code 660 = .ok (.aload_n 0, 1) := by decide +kernel
theorem d_law_661 : decode code 661 = .ok (.iload_n 3, 1) := by decide +kernel
theorem d_law_662 : decode code 662 = .ok (.iconst 1, 1) := by decide +kernel
theorem d_law_663 : decode code 663 = .ok (.iadd, 1) := by decide +kernel
theorem d_law_664 : decode code 664 = .ok (.iaload, 1) := by decide +kernel
theorem d_law_665 : decode code 665 = .ok (.invokevirtual 84, 3) := by decide +kernel
theorem d_law_668 : decode code 668 = .ok (.if_icmp .eq 327, 3) := by decide +kernel
theorem d_law_671 : decode code 671 = .ok (.iconst 0, 1) := by decide +kernel
theorem d_law_672 : decode code 672 = .ok (.ireturn, 1) := by decide +kernel
theorem d_law_673 : decode code 673 = .ok (.aload_n 1, 1) := by decide +kernel
theorem d_law_674 : decode code 674 = .ok (.aload_n 0, 1) := by decide +kernel
theorem d_law_675 : decode code 675 = .ok (.iload_n 3, 1) := by decide +kernel
theorem d_law_676 : decode code 676 = .ok (.iconst 1, 1) := by decide +kernel
theorem d_law_677 : decode code 677 = .ok (.iadd, 1) := by decide +kernel
theorem d_law_678 : decode code 678 = .ok (.iaload, 1) := by decide +kernel
theorem d_law_679 : decode code 679 = .ok (.invokevirtual 85, 3) := by decide +kernel
theorem d_law_682 : decode code 682 = .ok (.aload_n 2, 1) := by decide +kernel
theorem d_law_683 : decode code 683 = .ok (.aload_n 0, 1) := by decide +kernel
theorem d_law_684 : decode code 684 = .ok (.iload_n 3, 1) := by decide +kernel
theorem d_law_685 : decode code 685 = .ok (.iconst 1, 1) := by decide +kernel
theorem d_law_686 : decode code 686 = .ok (.iadd, 1) := by decide +kernel
theorem d_law_687 : decode code 687 = .ok (.iaload, 1) := by decide +kernel
theorem d_law_688 : decode code 688 = .ok (.invokevirtual 88, 3) := by decide +kernel
theorem d_law_691 : decode code 691 = .ok (.if_icmp .eq 304, 3) := by decide +kernel
theorem d_law_694 : decode code 694 = .ok (.iconst 0, 1) := by decide +kernel
theorem d_law_695 : decode code 695 = .ok (.ireturn, 1) := by decide +kernel
theorem d_law_696 : decode code 696 = .ok (.aload_n 1, 1) := by decide +kernel
theorem d_law_697 : decode code 697 = .ok (.aload_n 0, 1) := by decide +kernel
theorem d_law_698 : decode code 698 = .ok (.iload_n 3, 1) := by decide +kernel
theorem d_law_699 : decode code 699 = .ok (.iconst 1, 1) := by decide +kernel
theorem d_law_700 : decode code 700 = .ok (.iadd, 1) := by decide +kernel
theorem d_law_701 : decode code 701 = .ok (.iaload, 1) := by decide +kernel
theorem d_law_702 : decode code 702 = .ok (.invokevirtual 89, 3) := by decide +kernel
theorem d_law_705 : decode code 705 = .ok (.aload_n 2, 1) := by decide +kernel
theorem d_law_706 : decode code 706 = .ok (.aload_n 0, 1) := by decide +kernel
theorem d_law_707 : decode code 707 = .ok (.iload_n 3, 1) := by decide +kernel
theorem d_law_708 : decode code 708 = .ok (.iconst 1, 1) := by decide +kernel
theorem d_law_709 : decode code 709 = .ok (.iadd, 1) := by decide +kernel
theorem d_law_710 : decode code 710 = .ok (.iaload, 1) := by decide +kernel
theorem d_law_711 : decode code 711 = .ok (.invokevirtual 92, 3) := by decide +kernel
theorem d_law_714 : decode code 714 = .ok (.if_icmp .eq 281, 3) := by decide +kernel
theorem d_law_717 : decode code 717 = .ok (.iconst 0, 1) := by decide +kernel
theorem d_law_718 : decode code 718 = .ok (.ireturn, 1) := by decide +kernel
theorem d_law_719 : decode code 719 = .ok (.aload_n 1, 1) := by decide +kernel
theorem d_law_720 : decode code 720 = .ok (.invokevirtual 93, 3) := by decide +kernel
theorem d_law_723 : decode code 723 = .ok (.aload_n 2, 1) := by decide +kernel
theorem d_law_724 : decode code 724 = .ok (.invokevirtual 96, 3) := by decide +kernel
theorem d_law_727 : decode code 727 = .ok (.if_icmp .eq 268, 3) := by decide +kernel
theorem d_law_730 : decode code 730 = .ok (.iconst 0, 1) := by decide +kernel
theorem d_law_731 : decode code 731 = .ok (.ireturn, 1) := by decide +kernel
theorem d_law_732 : decode code 732 = .ok (.aload_n 1, 1) := by decide +kernel
theorem d_law_733 : decode code 733 = .ok (.aload_n 0, 1) := by decide +kernel
theorem d_law_734 : decode code 734 = .ok (.iload_n 3, 1) := by decide +kernel
theorem d_law_735 : decode code 735 = .ok (.iconst 1, 1) := by decide +kernel
theorem d_law_736 : decode code 736 = .ok (.iadd, 1) := by decide +kernel
theorem d_law_737 : decode code 737 = .ok (.iaload, 1) := by decide +kernel
theorem d_law_738 : decode code 738 = .ok (.invokevirtual 97, 3) := by decide +kernel
theorem d_law_741 : decode code 741 = .ok (.aload_n 2, 1) := by decide +kernel
theorem d_law_742 : decode code 742 = .ok (.aload_n 0, 1) := by decide +kernel
theorem d_law_743 : decode code 743 = .ok (.iload_n 3, 1) := by decide +kernel
theorem d_law_744 : decode code 744 = .ok (.iconst 1, 1) := by decide +kernel
theorem d_law_745 : decode code 745 = .ok (.iadd, 1) := by decide +kernel
theorem d_law_746 : decode code 746 = .ok (.iaload, 1) := by decide +kernel
theorem d_law_747 : decode code 747 = .ok (.invokevirtual 100, 3) := by decide +kernel
theorem d_law_750 : decode code 750 = .ok (.if_icmp .eq 245, 3) := by decide +kernel
theorem d_law_753 : decode code 753 = .ok (.iconst 0, 1) := by decide +kernel
theorem d_law_754 : decode code 754 = .ok (.ireturn, 1) := by decide +kernel
theorem d_law_755 : decode code 755 = .ok (.aload_n 1, 1) := by decide +kernel
theorem d_law_756 : decode code 756 = .ok (.aload_n 0, 1) := by decide +kernel
theorem d_law_757 : decode code 757 = .ok (.iload_n 3, 1) := by decide +kernel
theorem d_law_758 : decode code 758 = .ok (.iconst 1, 1) := by decide +kernel
theorem d_law_759 : decode code 759 = .ok (.iadd, 1) := by decide +kernel
theorem d_law_760 : decode code 760 = .ok (.iaload, 1) := by decide +kernel
theorem d_law_761 : decode code 761 = .ok (.invokevirtual 101, 3) := by decide +kernel
theorem d_law_764 : decode code 764 = .ok (.aload_n 2, 1) := by decide +kernel
theorem d_law_765 : decode code 765 = .ok (.aload_n 0, 1) := by decide +kernel
theorem d_law_766 : decode code 766 = .ok (.iload_n 3, 1) := by decide +kernel
theorem d_law_767 : decode code 767 = .ok (.iconst 1, 1) := by decide +kernel
theorem d_law_768 : decode code 768 = .ok (.iadd, 1) := by decide +kernel
theorem d_law_769 : decode code 769 = .ok (.iaload, 1) := by decide +kernel
theorem d_law_770 : decode code 770 = .ok (.invokevirtual 104, 3) := by decide +kernel
theorem d_law_773 : decode code 773 = .ok (.if_icmp .eq 222, 3) := by decide +kernel
theorem d_law_776 : decode code 776 = .ok (.iconst 0, 1) := by decide +kernel
theorem d_law_777 : decode code 777 = .ok (.ireturn, 1) := by decide +kernel
theorem d_law_778 : decode code 778 = .ok (.aload_n 1, 1) := by decide +kernel
theorem d_law_779 : decode code 779 = .ok (.aload_n 0, 1) := by decide +kernel
theorem d_law_780 : decode code 780 = .ok (.iload_n 3, 1) := by decide +kernel
theorem d_law_781 : decode code 781 = .ok (.iconst 1, 1) := by decide +kernel
theorem d_law_782 : decode code 782 = .ok (.iadd, 1) := by decide +kernel
theorem d_law_783 : decode code 783 = .ok (.iaload, 1) := by decide +kernel
theorem d_law_784 : decode code 784 = .ok (.aload_n 0, 1) := by decide +kernel
theorem d_law_785 : decode code 785 = .ok (.iload_n 3, 1) := by decide +kernel
theorem d_law_786 : decode code 786 = .ok (.iconst 2, 1) := by decide +kernel
theorem d_law_787 : decode code 787 = .ok (.iadd, 1) := by decide +kernel
theorem d_law_788 : decode code 788 = .ok (.iaload, 1) := by decide +kernel
theorem d_law_789 : decode code 789 = .ok (.invokevirtual 105, 3) := by decide +kernel
theorem d_law_792 : decode code 792 = .ok (.aload_n 2, 1) := by decide +kernel
theorem d_law_793 : decode code 793 = .ok (.aload_n 0, 1) := by decide +kernel
theorem d_law_794 : decode code 794 = .ok (.iload_n 3, 1) := by decide +kernel
theorem d_law_795 : decode code 795 = .ok (.iconst 1, 1) := by decide +kernel
theorem d_law_796 : decode code 796 = .ok (.iadd, 1) := by decide +kernel
theorem d_law_797 : decode code 797 = .ok (.iaload, 1) := by decide +kernel
theorem d_law_798 : decode code 798 = .ok (.aload_n 0, 1) := by decide +kernel
theorem d_law_799 : decode code 799 = .ok (.iload_n 3, 1) := by decide +kernel
theorem d_law_800 : decode code 800 = .ok (.iconst 2, 1) := by decide +kernel
theorem d_law_801 : decode code 801 = .ok (.iadd, 1) := by decide +kernel
theorem d_law_802 : decode code 802 = .ok (.iaload, 1) := by decide +kernel
theorem d_law_803 : decode code 803 = .ok (.invokevirtual 108, 3) := by decide +kernel
theorem d_law_806 : decode code 806 = .ok (.if_icmp .eq 189, 3) := by decide +kernel
theorem d_law_809 : decode code 809 = .ok (.iconst 0, 1) := by decide +kernel
theorem d_law_810 : decode code 810 = .ok (.ireturn, 1) := by decide +kernel
theorem d_law_811 : decode code 811 = .ok (.aload_n 1, 1) := by decide +kernel
theorem d_law_812 : decode code 812 = .ok (.aload_n 0, 1) := by decide +kernel
theorem d_law_813 : decode code 813 = .ok (.iload_n 3, 1) := by decide +kernel
theorem d_law_814 : decode code 814 = .ok (.iconst 1, 1) := by decide +kernel
theorem d_law_815 : decode code 815 = .ok (.iadd, 1) := by decide +kernel
theorem d_law_816 : decode code 816 = .ok (.iaload, 1) := by decide +kernel
theorem d_law_817 : decode code 817 = .ok (.invokevirtual 109, 3) := by decide +kernel
theorem d_law_820 : decode code 820 = .ok (.aload_n 2, 1) := by decide +kernel
theorem d_law_821 : decode code 821 = .ok (.aload_n 0, 1) := by decide +kernel
theorem d_law_822 : decode code 822 = .ok (.iload_n 3, 1) := by decide +kernel
theorem d_law_823 : decode code 823 = .ok (.iconst 1, 1) := by decide +kernel
theorem d_law_824 : decode code 824 = .ok (.iadd, 1) := by decide +kernel
theorem d_law_825 : decode code 825 = .ok (.iaload, 1) := by decide +kernel
theorem d_law_826 : decode code 826 = .ok (.invokevirtual 112, 3) := by decide +kernel
theorem d_law_829 : decode code 829 = .ok (.if_icmp .eq 166, 3) := by decide +kernel
theorem d_law_832 : decode code 832 = .ok (.iconst 0, 1) := by decide +kernel
theorem d_law_833 : decode code 833 = .ok (.ireturn, 1) := by decide +kernel
theorem d_law_834 : decode code 834 = .ok (.aload_n 1, 1) := by decide +kernel
theorem d_law_835 : decode code 835 = .ok (.aload_n 0, 1) := by decide +kernel
theorem d_law_836 : decode code 836 = .ok (.iload_n 3, 1) := by decide +kernel
theorem d_law_837 : decode code 837 = .ok (.iconst 1, 1) := by decide +kernel
theorem d_law_838 : decode code 838 = .ok (.iadd, 1) := by decide +kernel
theorem d_law_839 : decode code 839 = .ok (.iaload, 1) := by decide +kernel
theorem d_law_840 : decode code 840 = .ok (.invokevirtual 113, 3) := by decide +kernel
theorem d_law_843 : decode code 843 = .ok (.aload_n 2, 1) := by decide +kernel
theorem d_law_844 : decode code 844 = .ok (.aload_n 0, 1) := by decide +kernel
theorem d_law_845 : decode code 845 = .ok (.iload_n 3, 1) := by decide +kernel
theorem d_law_846 : decode code 846 = .ok (.iconst 1, 1) := by decide +kernel
theorem d_law_847 : decode code 847 = .ok (.iadd, 1) := by decide +kernel
theorem d_law_848 : decode code 848 = .ok (.iaload, 1) := by decide +kernel
theorem d_law_849 : decode code 849 = .ok (.invokevirtual 116, 3) := by decide +kernel
theorem d_law_852 : decode code 852 = .ok (.if_icmp .eq 143, 3) := by decide +kernel
theorem d_law_855 : decode code 855 = .ok (.iconst 0, 1) := by decide +kernel
theorem d_law_856 : decode code 856 = .ok (.ireturn, 1) := by decide +kernel
theorem d_law_857 : decode code 857 = .ok (.aload_n 1, 1) := by decide +kernel
theorem d_law_858 : decode code 858 = .ok (.aload_n 0, 1) := by decide +kernel
theorem d_law_859 : decode code 859 = .ok (.iload_n 3, 1) := by decide +kernel
theorem d_law_860 : decode code 860 = .ok (.iconst 1, 1) := by decide +kernel
theorem d_law_861 : decode code 861 = .ok (.iadd, 1) := by decide +kernel
theorem d_law_862 : decode code 862 = .ok (.iaload, 1) := by decide +kernel
theorem d_law_863 : decode code 863 = .ok (.aload_n 0, 1) := by decide +kernel
theorem d_law_864 : decode code 864 = .ok (.iload_n 3, 1) := by decide +kernel
theorem d_law_865 : decode code 865 = .ok (.iconst 2, 1) := by decide +kernel
theorem d_law_866 : decode code 866 = .ok (.iadd, 1) := by decide +kernel
theorem d_law_867 : decode code 867 = .ok (.iaload, 1) := by decide +kernel
theorem d_law_868 : decode code 868 = .ok (.aload_n 0, 1) := by decide +kernel
theorem d_law_869 : decode code 869 = .ok (.iload_n 3, 1) := by decide +kernel
theorem d_law_870 : decode code 870 = .ok (.iconst 3, 1) := by decide +kernel
theorem d_law_871 : decode code 871 = .ok (.iadd, 1) := by decide +kernel
theorem d_law_872 : decode code 872 = .ok (.iaload, 1) := by decide +kernel
theorem d_law_873 : decode code 873 = .ok (.invokevirtual 117, 3) := by decide +kernel
theorem d_law_876 : decode code 876 = .ok (.aload_n 2, 1) := by decide +kernel
theorem d_law_877 : decode code 877 = .ok (.aload_n 0, 1) := by decide +kernel
theorem d_law_878 : decode code 878 = .ok (.iload_n 3, 1) := by decide +kernel
theorem d_law_879 : decode code 879 = .ok (.iconst 1, 1) := by decide +kernel
theorem d_law_880 : decode code 880 = .ok (.iadd, 1) := by decide +kernel
theorem d_law_881 : decode code 881 = .ok (.iaload, 1) := by decide +kernel
theorem d_law_882 : decode code 882 = .ok (.aload_n 0, 1) := by decide +kernel
theorem d_law_883 : decode code 883 = .ok (.iload_n 3, 1) := by decide +kernel
theorem d_law_884 : decode code 884 = .ok (.iconst 2, 1) := by decide +kernel
theorem d_law_885 : decode code 885 = .ok (.iadd, 1) := by decide +kernel
theorem d_law_886 : decode code 886 = .ok (.iaload, 1) := by decide +kernel
theorem d_law_887 : decode code 887 = .ok (.aload_n 0, 1) := by decide +kernel
theorem d_law_888 : decode code 888 = .ok (.iload_n 3, 1) := by decide +kernel
theorem d_law_889 : decode code 889 = .ok (.iconst 3, 1) := by decide +kernel
theorem d_law_890 : decode code 890 = .ok (.iadd, 1) := by decide +kernel
theorem d_law_891 : decode code 891 = .ok (.iaload, 1) := by decide +kernel
theorem d_law_892 : decode code 892 = .ok (.invokevirtual 120, 3) := by decide +kernel
theorem d_law_895 : decode code 895 = .ok (.if_icmp .eq 100, 3) := by decide +kernel
theorem d_law_898 : decode code 898 = .ok (.iconst 0, 1) := by decide +kernel
theorem d_law_899 : decode code 899 = .ok (.ireturn, 1) := by decide +kernel
theorem d_law_900 : decode code 900 = .ok (.aload_n 1, 1) := by decide +kernel
theorem d_law_901 : decode code 901 = .ok (.invokevirtual 121, 3) := by decide +kernel
theorem d_law_904 : decode code 904 = .ok (.aload_n 2, 1) := by decide +kernel
theorem d_law_905 : decode code 905 = .ok (.invokevirtual 124, 3) := by decide +kernel
theorem d_law_908 : decode code 908 = .ok (.if_icmp .eq 87, 3) := by decide +kernel
theorem d_law_911 : decode code 911 = .ok (.iconst 0, 1) := by decide +kernel
theorem d_law_912 : decode code 912 = .ok (.ireturn, 1) := by decide +kernel
theorem d_law_913 : decode code 913 = .ok (.aload_n 1, 1) := by decide +kernel
theorem d_law_914 : decode code 914 = .ok (.invokevirtual 125, 3) := by decide +kernel
theorem d_law_917 : decode code 917 = .ok (.aload_n 2, 1) := by decide +kernel
theorem d_law_918 : decode code 918 = .ok (.invokevirtual 128, 3) := by decide +kernel
theorem d_law_921 : decode code 921 = .ok (.if_icmp .eq 74, 3) := by decide +kernel
theorem d_law_924 : decode code 924 = .ok (.iconst 0, 1) := by decide +kernel
theorem d_law_925 : decode code 925 = .ok (.ireturn, 1) := by decide +kernel
theorem d_law_926 : decode code 926 = .ok (.aload_n 1, 1) := by decide +kernel
theorem d_law_927 : decode code 927 = .ok (.aload_n 0, 1) := by decide +kernel
theorem d_law_928 : decode code 928 = .ok (.iload_n 3, 1) := by decide +kernel
theorem d_law_929 : decode code 929 = .ok (.iconst 1, 1) := by decide +kernel
theorem d_law_930 : decode code 930 = .ok (.iadd, 1) := by decide +kernel
theorem d_law_931 : decode code 931 = .ok (.iaload, 1) := by decide +kernel
theorem d_law_932 : decode code 932 = .ok (.invokevirtual 129, 3) := by decide +kernel
theorem d_law_935 : decode code 935 = .ok (.aload_n 2, 1) := by decide +kernel
theorem d_law_936 : decode code 936 = .ok (.aload_n 0, 1) := by decide +kernel
theorem d_law_937 : decode code 937 = .ok (.iload_n 3, 1) := by decide +kernel
theorem d_law_938 : decode code 938 = .ok (.iconst 1, 1) := by decide +kernel
theorem d_law_939 : decode code 939 = .ok (.iadd, 1) := by decide +kernel
theorem d_law_940 : decode code 940 = .ok (.iaload, 1) := by decide +kernel
theorem d_law_941 : decode code 941 = .ok (.invokevirtual 132, 3) := by decide +kernel
theorem d_law_944 : decode code 944 = .ok (.if_icmp .eq 51, 3) := by decide +kernel
theorem d_law_947 : decode code 947 = .ok (.iconst 0, 1) := by decide +kernel
theorem d_law_948 : decode code 948 = .ok (.ireturn, 1) := by decide +kernel
theorem d_law_949 : decode code 949 = .ok (.aload_n 1, 1) := by decide +kernel
theorem d_law_950 : decode code 950 = .ok (.aload_n 0, 1) := by decide +kernel
theorem d_law_951 : decode code 951 = .ok (.iload_n 3, 1) := by decide +kernel
theorem d_law_952 : decode code 952 = .ok (.iconst 1, 1) := by decide +kernel
theorem d_law_953 : decode code 953 = .ok (.iadd, 1) := by decide +kernel
theorem d_law_954 : decode code 954 = .ok (.iaload, 1) := by decide +kernel
theorem d_law_955 : decode code 955 = .ok (.invokevirtual 133, 3) := by decide +kernel
theorem d_law_958 : decode code 958 = .ok (.aload_n 2, 1) := by decide +kernel
theorem d_law_959 : decode code 959 = .ok (.aload_n 0, 1) := by decide +kernel
theorem d_law_960 : decode code 960 = .ok (.iload_n 3, 1) := by decide +kernel
theorem d_law_961 : decode code 961 = .ok (.iconst 1, 1) := by decide +kernel
theorem d_law_962 : decode code 962 = .ok (.iadd, 1) := by decide +kernel
theorem d_law_963 : decode code 963 = .ok (.iaload, 1) := by decide +kernel
theorem d_law_964 : decode code 964 = .ok (.invokevirtual 136, 3) := by decide +kernel
theorem d_law_967 : decode code 967 = .ok (.if_icmp .eq 28, 3) := by decide +kernel
theorem d_law_970 : decode code 970 = .ok (.iconst 0, 1) := by decide +kernel
theorem d_law_971 : decode code 971 = .ok (.ireturn, 1) := by decide +kernel
theorem d_law_972 : decode code 972 = .ok (.aload_n 1, 1) := by decide +kernel
theorem d_law_973 : decode code 973 = .ok (.aload_n 0, 1) := by decide +kernel
theorem d_law_974 : decode code 974 = .ok (.iload_n 3, 1) := by decide +kernel
theorem d_law_975 : decode code 975 = .ok (.iconst 1, 1) := by decide +kernel
theorem d_law_976 : decode code 976 = .ok (.iadd, 1) := by decide +kernel
theorem d_law_977 : decode code 977 = .ok (.iaload, 1) := by decide +kernel
theorem d_law_978 : decode code 978 = .ok (.invokevirtual 137, 3) := by decide +kernel
theorem d_law_981 : decode code 981 = .ok (.aload_n 2, 1) := by decide +kernel
theorem d_law_982 : decode code 982 = .ok (.aload_n 0, 1) := by decide +kernel
theorem d_law_983 : decode code 983 = .ok (.iload_n 3, 1) := by decide +kernel
theorem d_law_984 : decode code 984 = .ok (.iconst 1, 1) := by decide +kernel
theorem d_law_985 : decode code 985 = .ok (.iadd, 1) := by decide +kernel
theorem d_law_986 : decode code 986 = .ok (.iaload, 1) := by decide +kernel
theorem d_law_987 : decode code 987 = .ok (.invokevirtual 140, 3) := by decide +kernel
theorem d_law_990 : decode code 990 = .ok (.if_icmp .eq 5, 3) := by decide +kernel
theorem d_law_993 : decode code 993 = .ok (.iconst 0, 1) := by decide +kernel
theorem d_law_994 : decode code 994 = .ok (.ireturn, 1) := by decide +kernel
theorem d_law_995 : decode code 995 = .ok (.iinc 3 4, 3) := by decide +kernel
theorem d_law_998 : decode code 998 = .ok (.goto (-980), 3) := by decide +kernel
theorem d_law_1001 : decode code 1001 = .ok (.iconst 1, 1) := by decide +kernel
theorem d_law_1002 : decode code 1002 = .ok (.ireturn, 1) := by decide +kernel
theorem law_feed {p : Program} {l : Launch} {e : Env} {s : State} {m : MethodId} {below : List Frame} {meth : Method} {c : Code} {K : KT} {b Ln : Nat} {xs : Nat → Int32} (C0 : Cx p s m #[Value.ref b] meth c code R_law 4 K (fun q : Nat => s.heap.size ≤ q)) (hX : va_X b Ln xs s s.heap) (hbl : b < s.heap.size) (hL : Ln ≤ 256) {N : Nat} {Inv : Nat → Bool → Bool → Hp → Prop} (HM : MO_feed N Inv) (i k : Nat) (hi : i + 4 ≤ Ln) (hk : k < 64) (b0 b1 : Bool) (ad : Nat → Nat) (h : Hp) (hI : Inv k b0 b1 h) {cells slots : Nat} (hc : cells + 4 ≤ room_1.cells) (hs : slots + 77 ≤ room_1.slots)
    (nx : ∀ (d0 d1 : Bool) (ad' : Nat → Nat) (h' : Hp), Inv (k + 1) d0 d1 h' → G p l e room_1 s m #[Value.ref b] below meth c K (fun q : Nat => s.heap.size ≤ q) (WLw d0 d1) 4 (cells + 4) (slots + 77) (lw_Z below #[Value.ref b] s) 995 [(0, .ref b), (1, .ref (ad' 0)), (2, .ref (ad' 100)), (3, .int (nI i))] [] ad' h') :
    G p l e room_1 s m #[Value.ref b] below meth c K (fun q : Nat => s.heap.size ≤ q) (WLw b0 b1) 4 cells slots (lw_Z below #[Value.ref b] s) 172 [(0, .ref b), (1, .ref (ad 0)), (2, .ref (ad 100)), (3, .int (nI i))] [] ad h := by
  have hc0 : cells ≤ room_1.cells := by omega
  have hs0 : slots ≤ room_1.slots := by omega
  obtain ⟨r, h1, h2, z1, z2, hI2⟩ := HM k b0 b1 h (xs (i + 1)) hk hI
  refine g_aload_n C0 1 d_law_172 rfl rfl ?_
  refine g_aload_n C0 0 d_law_173 rfl rfl ?_
  refine g_iload_n C0 3 d_law_174 rfl rfl ?_
  refine g_iconst C0 (v := nI 1) d_law_175 (by decide) ?_
  refine g_iadd C0 d_law_176 ?_
  refine g_sld C0 hX hbl (Nat.not_le.mpr hbl) (i + 1) (by omega) (by omega) (nI_add i 1) d_law_177 ?_
  refine g_calli C0 (nd_WLw b0 b1) lC rfl (sub_WLw_C b0 b1) (runV C0 (m_C_feed l K ad h (xs (i + 1)) z1) 1 rfl ⟨t_495, t_496, t_497, t_85, t_498⟩ cd_C_feed ⟨Nat.le_of_ble_eq_true rfl, Nat.le_of_ble_eq_true rfl, rfl, rfl, hc0, hs0⟩ 0 rfl rfl (sub_WLw_C b0 b1) nd_C rfl rfl (Nat.le_of_ble_eq_true rfl) d_law_178) ?_
  refine g_aload_n C0 2 d_law_181 rfl rfl ?_
  refine g_aload_n C0 0 d_law_182 rfl rfl ?_
  refine g_iload_n C0 3 d_law_183 rfl rfl ?_
  refine g_iconst C0 (v := nI 1) d_law_184 (by decide) ?_
  refine g_iadd C0 d_law_185 ?_
  refine g_sld C0 hX hbl (Nat.not_le.mpr hbl) (i + 1) (by omega) (by omega) (nI_add i 1) d_law_186 ?_
  refine g_calli C0 (nd_WLw b0 b1) lM rfl (sub_WLw_M b0 b1) (runV C0 (m_M_feed l K ad (mx lC h1 h) (xs (i + 1)) z2) 1 rfl ⟨t_1191, t_1192, t_1193, t_97, t_1194⟩ cd_M_feed ⟨Nat.le_of_ble_eq_true rfl, Nat.le_of_ble_eq_true rfl, rfl, rfl, hc0, hs0⟩ 34 rfl rfl (sub_WLw_M b0 b1) nd_M rfl rfl (Nat.le_of_ble_eq_true rfl) d_law_187) ?_
  refine g_icmp_eq C0 (tgt := 995) d_law_190 (by decide) (fun _ => ?_) (fun z => absurd rfl z)
  refine g_widen (k := cells + 4) (n := slots + 77) (by omega) (by omega) ?_
  exact nx b0 b1 ad _ hI2
theorem law_river {p : Program} {l : Launch} {e : Env} {s : State} {m : MethodId} {below : List Frame} {meth : Method} {c : Code} {K : KT} {b Ln : Nat} {xs : Nat → Int32} (C0 : Cx p s m #[Value.ref b] meth c code R_law 4 K (fun q : Nat => s.heap.size ≤ q)) (hX : va_X b Ln xs s s.heap) (hbl : b < s.heap.size) (hL : Ln ≤ 256) {N : Nat} {Inv : Nat → Bool → Bool → Hp → Prop} (HM : MO_river N Inv) (i k : Nat) (hi : i + 4 ≤ Ln) (hk : k < 64) (b0 b1 : Bool) (ad : Nat → Nat) (h : Hp) (hI : Inv k b0 b1 h) {cells slots : Nat} (hc : cells + 4 ≤ room_1.cells) (hs : slots + 77 ≤ room_1.slots)
    (nx : ∀ (d0 d1 : Bool) (ad' : Nat → Nat) (h' : Hp), Inv (k + 1) d0 d1 h' → G p l e room_1 s m #[Value.ref b] below meth c K (fun q : Nat => s.heap.size ≤ q) (WLw d0 d1) 4 (cells + 4) (slots + 77) (lw_Z below #[Value.ref b] s) 995 [(0, .ref b), (1, .ref (ad' 0)), (2, .ref (ad' 100)), (3, .int (nI i))] [] ad' h') :
    G p l e room_1 s m #[Value.ref b] below meth c K (fun q : Nat => s.heap.size ≤ q) (WLw b0 b1) 4 cells slots (lw_Z below #[Value.ref b] s) 195 [(0, .ref b), (1, .ref (ad 0)), (2, .ref (ad 100)), (3, .int (nI i))] [] ad h := by
  have hc0 : cells ≤ room_1.cells := by omega
  have hs0 : slots ≤ room_1.slots := by omega
  obtain ⟨r, h1, h2, d0, d1, z1, z2, i0, i1, hI2⟩ := HM k b0 b1 h hk hI
  refine g_aload_n C0 1 d_law_195 rfl rfl ?_
  refine g_callNI C0 (WM ++ WBo b0 b1) [10, 11, 12] [0, 2, 15, 16, 17, 20, 21, 22, 25, 26, 27, 30, 33, 35, 36, 40, 41, 42, 43, 45, 46, 47, 48, 49, 55, 56, 60, 61, 62, 63, 64, 31, 32] lC (m_C_river l K ad h N z1) 0 rfl ⟨t_504, t_505, t_506, t_85, t_507⟩ cd_C_river ⟨Nat.le_of_ble_eq_true rfl, Nat.le_of_ble_eq_true rfl, rfl, rfl, hc, hs⟩ 0 rfl rfl (sub_WLw_C b0 b1) nd_C (nd_WLw b0 b1) (by cases b0 <;> cases b1 <;> decide +kernel) (by cases b0 <;> cases b1 <;> decide +kernel) (by cases b0 <;> cases b1 <;> decide +kernel) rfl (by cases b0 <;> cases b1 <;> decide +kernel) (by cases b0 <;> cases b1 <;> decide +kernel) (by decide +kernel) (by decide +kernel) rfl rfl (Nat.le_of_ble_eq_true rfl) d_law_196 (fun ad1 hag => ?_)
  rw [← hag 0 (by decide), ← hag 100 (by decide)]
  refine g_part (rs' := WLw d0 d1) (by cases d0 <;> cases d1 <;> cases b0 <;> cases b1 <;> first | decide +kernel | exact absurd (i0 rfl) (by decide) | exact absurd (i1 rfl) (by decide)) (nd_WLw d0 d1) ?_
  refine g_aload_n C0 2 d_law_199 rfl rfl ?_
  refine g_calli C0 (nd_WLw d0 d1) lM rfl (sub_WLw_M d0 d1) (runV C0 (m_M_river l K ad1 (mx lC h1 h) N z2) 0 rfl ⟨t_1201, t_1202, t_1203, t_97, t_1204⟩ cd_M_river ⟨Nat.le_of_ble_eq_true rfl, Nat.le_of_ble_eq_true rfl, rfl, rfl, hc, hs⟩ 34 rfl rfl (sub_WLw_M d0 d1) nd_M rfl rfl (Nat.le_of_ble_eq_true rfl) d_law_200) ?_
  refine g_icmp_eq C0 (tgt := 995) d_law_203 (by decide) (fun _ => ?_) (fun z => absurd rfl z)
  exact nx d0 d1 ad1 _ hI2
theorem law_fault {p : Program} {l : Launch} {e : Env} {s : State} {m : MethodId} {below : List Frame} {meth : Method} {c : Code} {K : KT} {b Ln : Nat} {xs : Nat → Int32} (C0 : Cx p s m #[Value.ref b] meth c code R_law 4 K (fun q : Nat => s.heap.size ≤ q)) (hX : va_X b Ln xs s s.heap) (hbl : b < s.heap.size) (hL : Ln ≤ 256) {N : Nat} {Inv : Nat → Bool → Bool → Hp → Prop} (HM : MO_fault N Inv) (i k : Nat) (hi : i + 4 ≤ Ln) (hk : k < 64) (b0 b1 : Bool) (ad : Nat → Nat) (h : Hp) (hI : Inv k b0 b1 h) {cells slots : Nat} (hc : cells + 4 ≤ room_1.cells) (hs : slots + 77 ≤ room_1.slots)
    (nx : ∀ (d0 d1 : Bool) (ad' : Nat → Nat) (h' : Hp), Inv (k + 1) d0 d1 h' → G p l e room_1 s m #[Value.ref b] below meth c K (fun q : Nat => s.heap.size ≤ q) (WLw d0 d1) 4 (cells + 4) (slots + 77) (lw_Z below #[Value.ref b] s) 995 [(0, .ref b), (1, .ref (ad' 0)), (2, .ref (ad' 100)), (3, .int (nI i))] [] ad' h') :
    G p l e room_1 s m #[Value.ref b] below meth c K (fun q : Nat => s.heap.size ≤ q) (WLw b0 b1) 4 cells slots (lw_Z below #[Value.ref b] s) 208 [(0, .ref b), (1, .ref (ad 0)), (2, .ref (ad 100)), (3, .int (nI i))] [] ad h := by
  have hc0 : cells ≤ room_1.cells := by omega
  have hs0 : slots ≤ room_1.slots := by omega
  obtain ⟨r, z1, z2, hI2⟩ := HM k b0 b1 h hk hI
  refine g_aload_n C0 1 d_law_208 rfl rfl ?_
  refine g_calliP C0 (nd_WLw b0 b1) lC rfl (sub_WLw_C b0 b1) (runV C0 (m_C_fault l K ad h z1) 0 rfl ⟨t_703, t_704, t_705, t_85, t_706⟩ cd_C_fault ⟨Nat.le_of_ble_eq_true rfl, Nat.le_of_ble_eq_true rfl, rfl, rfl, hc0, hs0⟩ 0 rfl rfl (sub_WLw_C b0 b1) nd_C rfl rfl (Nat.le_of_ble_eq_true rfl) d_law_209) ?_
  refine g_aload_n C0 2 d_law_212 rfl rfl ?_
  refine g_calliP C0 (nd_WLw b0 b1) lM rfl (sub_WLw_M b0 b1) (runV C0 (m_M_fault l K ad h z2) 0 rfl ⟨t_1252, t_1253, t_1254, t_97, t_1255⟩ cd_M_fault ⟨Nat.le_of_ble_eq_true rfl, Nat.le_of_ble_eq_true rfl, rfl, rfl, hc0, hs0⟩ 34 rfl rfl (sub_WLw_M b0 b1) nd_M rfl rfl (Nat.le_of_ble_eq_true rfl) d_law_213) ?_
  refine g_icmp_eq C0 (tgt := 995) d_law_216 (by decide) (fun _ => ?_) (fun z => absurd rfl z)
  refine g_widen (k := cells + 4) (n := slots + 77) (by omega) (by omega) ?_
  exact nx b0 b1 ad _ hI2
theorem law_told {p : Program} {l : Launch} {e : Env} {s : State} {m : MethodId} {below : List Frame} {meth : Method} {c : Code} {K : KT} {b Ln : Nat} {xs : Nat → Int32} (C0 : Cx p s m #[Value.ref b] meth c code R_law 4 K (fun q : Nat => s.heap.size ≤ q)) (hX : va_X b Ln xs s s.heap) (hbl : b < s.heap.size) (hL : Ln ≤ 256) {N : Nat} {Inv : Nat → Bool → Bool → Hp → Prop} (HM : MO_told N Inv) (i k : Nat) (hi : i + 4 ≤ Ln) (hk : k < 64) (b0 b1 : Bool) (ad : Nat → Nat) (h : Hp) (hI : Inv k b0 b1 h) {cells slots : Nat} (hc : cells + 4 ≤ room_1.cells) (hs : slots + 77 ≤ room_1.slots)
    (nx : ∀ (d0 d1 : Bool) (ad' : Nat → Nat) (h' : Hp), Inv (k + 1) d0 d1 h' → G p l e room_1 s m #[Value.ref b] below meth c K (fun q : Nat => s.heap.size ≤ q) (WLw d0 d1) 4 (cells + 4) (slots + 77) (lw_Z below #[Value.ref b] s) 995 [(0, .ref b), (1, .ref (ad' 0)), (2, .ref (ad' 100)), (3, .int (nI i))] [] ad' h') :
    G p l e room_1 s m #[Value.ref b] below meth c K (fun q : Nat => s.heap.size ≤ q) (WLw b0 b1) 4 cells slots (lw_Z below #[Value.ref b] s) 221 [(0, .ref b), (1, .ref (ad 0)), (2, .ref (ad 100)), (3, .int (nI i))] [] ad h := by
  have hc0 : cells ≤ room_1.cells := by omega
  have hs0 : slots ≤ room_1.slots := by omega
  obtain ⟨r, z1, z2, hI2⟩ := HM k b0 b1 h (xs (i + 1)) hk hI
  refine g_aload_n C0 1 d_law_221 rfl rfl ?_
  refine g_aload_n C0 0 d_law_222 rfl rfl ?_
  refine g_iload_n C0 3 d_law_223 rfl rfl ?_
  refine g_iconst C0 (v := nI 1) d_law_224 (by decide) ?_
  refine g_iadd C0 d_law_225 ?_
  refine g_sld C0 hX hbl (Nat.not_le.mpr hbl) (i + 1) (by omega) (by omega) (nI_add i 1) d_law_226 ?_
  refine g_calliP C0 (nd_WLw b0 b1) lC rfl (sub_WLw_C b0 b1) (runV C0 (m_C_told l K ad h (xs (i + 1)) z1) 1 rfl ⟨t_707, t_708, t_709, t_85, t_710⟩ cd_C_told ⟨Nat.le_of_ble_eq_true rfl, Nat.le_of_ble_eq_true rfl, rfl, rfl, hc0, hs0⟩ 0 rfl rfl (sub_WLw_C b0 b1) nd_C rfl rfl (Nat.le_of_ble_eq_true rfl) d_law_227) ?_
  refine g_aload_n C0 2 d_law_230 rfl rfl ?_
  refine g_aload_n C0 0 d_law_231 rfl rfl ?_
  refine g_iload_n C0 3 d_law_232 rfl rfl ?_
  refine g_iconst C0 (v := nI 1) d_law_233 (by decide) ?_
  refine g_iadd C0 d_law_234 ?_
  refine g_sld C0 hX hbl (Nat.not_le.mpr hbl) (i + 1) (by omega) (by omega) (nI_add i 1) d_law_235 ?_
  refine g_calliP C0 (nd_WLw b0 b1) lM rfl (sub_WLw_M b0 b1) (runV C0 (m_M_told l K ad h (xs (i + 1)) z2) 1 rfl ⟨t_1256, t_1257, t_1258, t_97, t_1259⟩ cd_M_told ⟨Nat.le_of_ble_eq_true rfl, Nat.le_of_ble_eq_true rfl, rfl, rfl, hc0, hs0⟩ 34 rfl rfl (sub_WLw_M b0 b1) nd_M rfl rfl (Nat.le_of_ble_eq_true rfl) d_law_236) ?_
  refine g_icmp_eq C0 (tgt := 995) d_law_239 (by decide) (fun _ => ?_) (fun z => absurd rfl z)
  refine g_widen (k := cells + 4) (n := slots + 77) (by omega) (by omega) ?_
  exact nx b0 b1 ad _ hI2
theorem law_square {p : Program} {l : Launch} {e : Env} {s : State} {m : MethodId} {below : List Frame} {meth : Method} {c : Code} {K : KT} {b Ln : Nat} {xs : Nat → Int32} (C0 : Cx p s m #[Value.ref b] meth c code R_law 4 K (fun q : Nat => s.heap.size ≤ q)) (hX : va_X b Ln xs s s.heap) (hbl : b < s.heap.size) (hL : Ln ≤ 256) {N : Nat} {Inv : Nat → Bool → Bool → Hp → Prop} (HM : MO_square N Inv) (i k : Nat) (hi : i + 4 ≤ Ln) (hk : k < 64) (b0 b1 : Bool) (ad : Nat → Nat) (h : Hp) (hI : Inv k b0 b1 h) {cells slots : Nat} (hc : cells + 4 ≤ room_1.cells) (hs : slots + 77 ≤ room_1.slots)
    (nx : ∀ (d0 d1 : Bool) (ad' : Nat → Nat) (h' : Hp), Inv (k + 1) d0 d1 h' → G p l e room_1 s m #[Value.ref b] below meth c K (fun q : Nat => s.heap.size ≤ q) (WLw d0 d1) 4 (cells + 4) (slots + 77) (lw_Z below #[Value.ref b] s) 995 [(0, .ref b), (1, .ref (ad' 0)), (2, .ref (ad' 100)), (3, .int (nI i))] [] ad' h') :
    G p l e room_1 s m #[Value.ref b] below meth c K (fun q : Nat => s.heap.size ≤ q) (WLw b0 b1) 4 cells slots (lw_Z below #[Value.ref b] s) 244 [(0, .ref b), (1, .ref (ad 0)), (2, .ref (ad 100)), (3, .int (nI i))] [] ad h := by
  have hc0 : cells ≤ room_1.cells := by omega
  have hs0 : slots ≤ room_1.slots := by omega
  obtain ⟨r, z1, z2, hI2⟩ := HM k b0 b1 h (xs (i + 1)) (xs (i + 2)) hk hI
  refine g_aload_n C0 1 d_law_244 rfl rfl ?_
  refine g_aload_n C0 0 d_law_245 rfl rfl ?_
  refine g_iload_n C0 3 d_law_246 rfl rfl ?_
  refine g_iconst C0 (v := nI 1) d_law_247 (by decide) ?_
  refine g_iadd C0 d_law_248 ?_
  refine g_sld C0 hX hbl (Nat.not_le.mpr hbl) (i + 1) (by omega) (by omega) (nI_add i 1) d_law_249 ?_
  refine g_aload_n C0 0 d_law_250 rfl rfl ?_
  refine g_iload_n C0 3 d_law_251 rfl rfl ?_
  refine g_iconst C0 (v := nI 2) d_law_252 (by decide) ?_
  refine g_iadd C0 d_law_253 ?_
  refine g_sld C0 hX hbl (Nat.not_le.mpr hbl) (i + 2) (by omega) (by omega) (nI_add i 2) d_law_254 ?_
  refine g_calliP C0 (nd_WLw b0 b1) lC rfl (sub_WLw_C b0 b1) (runV C0 (m_C_square l K ad h (xs (i + 1)) (xs (i + 2)) z1) 2 rfl ⟨t_733, t_734, t_735, t_85, t_736⟩ cd_C_square ⟨Nat.le_of_ble_eq_true rfl, Nat.le_of_ble_eq_true rfl, rfl, rfl, hc0, hs0⟩ 0 rfl rfl (sub_WLw_C b0 b1) nd_C rfl rfl (Nat.le_of_ble_eq_true rfl) d_law_255) ?_
  refine g_aload_n C0 2 d_law_258 rfl rfl ?_
  refine g_aload_n C0 0 d_law_259 rfl rfl ?_
  refine g_iload_n C0 3 d_law_260 rfl rfl ?_
  refine g_iconst C0 (v := nI 1) d_law_261 (by decide) ?_
  refine g_iadd C0 d_law_262 ?_
  refine g_sld C0 hX hbl (Nat.not_le.mpr hbl) (i + 1) (by omega) (by omega) (nI_add i 1) d_law_263 ?_
  refine g_aload_n C0 0 d_law_264 rfl rfl ?_
  refine g_iload_n C0 3 d_law_265 rfl rfl ?_
  refine g_iconst C0 (v := nI 2) d_law_266 (by decide) ?_
  refine g_iadd C0 d_law_267 ?_
  refine g_sld C0 hX hbl (Nat.not_le.mpr hbl) (i + 2) (by omega) (by omega) (nI_add i 2) d_law_268 ?_
  refine g_calliP C0 (nd_WLw b0 b1) lM rfl (sub_WLw_M b0 b1) (runV C0 (m_M_square l K ad h (xs (i + 1)) (xs (i + 2)) z2) 2 rfl ⟨t_1275, t_1276, t_1277, t_97, t_1278⟩ cd_M_square ⟨Nat.le_of_ble_eq_true rfl, Nat.le_of_ble_eq_true rfl, rfl, rfl, hc0, hs0⟩ 34 rfl rfl (sub_WLw_M b0 b1) nd_M rfl rfl (Nat.le_of_ble_eq_true rfl) d_law_269) ?_
  refine g_icmp_eq C0 (tgt := 995) d_law_272 (by decide) (fun _ => ?_) (fun z => absurd rfl z)
  refine g_widen (k := cells + 4) (n := slots + 77) (by omega) (by omega) ?_
  exact nx b0 b1 ad _ hI2
theorem law_habit {p : Program} {l : Launch} {e : Env} {s : State} {m : MethodId} {below : List Frame} {meth : Method} {c : Code} {K : KT} {b Ln : Nat} {xs : Nat → Int32} (C0 : Cx p s m #[Value.ref b] meth c code R_law 4 K (fun q : Nat => s.heap.size ≤ q)) (hX : va_X b Ln xs s s.heap) (hbl : b < s.heap.size) (hL : Ln ≤ 256) {N : Nat} {Inv : Nat → Bool → Bool → Hp → Prop} (HM : MO_habit N Inv) (i k : Nat) (hi : i + 4 ≤ Ln) (hk : k < 64) (b0 b1 : Bool) (ad : Nat → Nat) (h : Hp) (hI : Inv k b0 b1 h) {cells slots : Nat} (hc : cells + 4 ≤ room_1.cells) (hs : slots + 77 ≤ room_1.slots)
    (nx : ∀ (d0 d1 : Bool) (ad' : Nat → Nat) (h' : Hp), Inv (k + 1) d0 d1 h' → G p l e room_1 s m #[Value.ref b] below meth c K (fun q : Nat => s.heap.size ≤ q) (WLw d0 d1) 4 (cells + 4) (slots + 77) (lw_Z below #[Value.ref b] s) 995 [(0, .ref b), (1, .ref (ad' 0)), (2, .ref (ad' 100)), (3, .int (nI i))] [] ad' h') :
    G p l e room_1 s m #[Value.ref b] below meth c K (fun q : Nat => s.heap.size ≤ q) (WLw b0 b1) 4 cells slots (lw_Z below #[Value.ref b] s) 277 [(0, .ref b), (1, .ref (ad 0)), (2, .ref (ad 100)), (3, .int (nI i))] [] ad h := by
  have hc0 : cells ≤ room_1.cells := by omega
  have hs0 : slots ≤ room_1.slots := by omega
  obtain ⟨r, z1, z2, hI2⟩ := HM k b0 b1 h (xs (i + 1)) (xs (i + 2)) hk hI
  refine g_aload_n C0 1 d_law_277 rfl rfl ?_
  refine g_aload_n C0 0 d_law_278 rfl rfl ?_
  refine g_iload_n C0 3 d_law_279 rfl rfl ?_
  refine g_iconst C0 (v := nI 1) d_law_280 (by decide) ?_
  refine g_iadd C0 d_law_281 ?_
  refine g_sld C0 hX hbl (Nat.not_le.mpr hbl) (i + 1) (by omega) (by omega) (nI_add i 1) d_law_282 ?_
  refine g_aload_n C0 0 d_law_283 rfl rfl ?_
  refine g_iload_n C0 3 d_law_284 rfl rfl ?_
  refine g_iconst C0 (v := nI 2) d_law_285 (by decide) ?_
  refine g_iadd C0 d_law_286 ?_
  refine g_sld C0 hX hbl (Nat.not_le.mpr hbl) (i + 2) (by omega) (by omega) (nI_add i 2) d_law_287 ?_
  refine g_calliP C0 (nd_WLw b0 b1) lC rfl (sub_WLw_C b0 b1) (runV C0 (m_C_habit l K ad h (xs (i + 1)) (xs (i + 2)) z1) 2 rfl ⟨t_743, t_744, t_745, t_85, t_746⟩ cd_C_habit ⟨Nat.le_of_ble_eq_true rfl, Nat.le_of_ble_eq_true rfl, rfl, rfl, hc0, hs0⟩ 0 rfl rfl (sub_WLw_C b0 b1) nd_C rfl rfl (Nat.le_of_ble_eq_true rfl) d_law_288) ?_
  refine g_aload_n C0 2 d_law_291 rfl rfl ?_
  refine g_aload_n C0 0 d_law_292 rfl rfl ?_
  refine g_iload_n C0 3 d_law_293 rfl rfl ?_
  refine g_iconst C0 (v := nI 1) d_law_294 (by decide) ?_
  refine g_iadd C0 d_law_295 ?_
  refine g_sld C0 hX hbl (Nat.not_le.mpr hbl) (i + 1) (by omega) (by omega) (nI_add i 1) d_law_296 ?_
  refine g_aload_n C0 0 d_law_297 rfl rfl ?_
  refine g_iload_n C0 3 d_law_298 rfl rfl ?_
  refine g_iconst C0 (v := nI 2) d_law_299 (by decide) ?_
  refine g_iadd C0 d_law_300 ?_
  refine g_sld C0 hX hbl (Nat.not_le.mpr hbl) (i + 2) (by omega) (by omega) (nI_add i 2) d_law_301 ?_
  refine g_calliP C0 (nd_WLw b0 b1) lM rfl (sub_WLw_M b0 b1) (runV C0 (m_M_habit l K ad h (xs (i + 1)) (xs (i + 2)) z2) 2 rfl ⟨t_1284, t_1285, t_1286, t_97, t_1287⟩ cd_M_habit ⟨Nat.le_of_ble_eq_true rfl, Nat.le_of_ble_eq_true rfl, rfl, rfl, hc0, hs0⟩ 34 rfl rfl (sub_WLw_M b0 b1) nd_M rfl rfl (Nat.le_of_ble_eq_true rfl) d_law_302) ?_
  refine g_icmp_eq C0 (tgt := 995) d_law_305 (by decide) (fun _ => ?_) (fun z => absurd rfl z)
  refine g_widen (k := cells + 4) (n := slots + 77) (by omega) (by omega) ?_
  exact nx b0 b1 ad _ hI2
theorem law_stroke {p : Program} {l : Launch} {e : Env} {s : State} {m : MethodId} {below : List Frame} {meth : Method} {c : Code} {K : KT} {b Ln : Nat} {xs : Nat → Int32} (C0 : Cx p s m #[Value.ref b] meth c code R_law 4 K (fun q : Nat => s.heap.size ≤ q)) (hX : va_X b Ln xs s s.heap) (hbl : b < s.heap.size) (hL : Ln ≤ 256) {N : Nat} {Inv : Nat → Bool → Bool → Hp → Prop} (HM : MO_stroke N Inv) (i k : Nat) (hi : i + 4 ≤ Ln) (hk : k < 64) (b0 b1 : Bool) (ad : Nat → Nat) (h : Hp) (hI : Inv k b0 b1 h) {cells slots : Nat} (hc : cells + 4 ≤ room_1.cells) (hs : slots + 77 ≤ room_1.slots)
    (nx : ∀ (d0 d1 : Bool) (ad' : Nat → Nat) (h' : Hp), Inv (k + 1) d0 d1 h' → G p l e room_1 s m #[Value.ref b] below meth c K (fun q : Nat => s.heap.size ≤ q) (WLw d0 d1) 4 (cells + 4) (slots + 77) (lw_Z below #[Value.ref b] s) 995 [(0, .ref b), (1, .ref (ad' 0)), (2, .ref (ad' 100)), (3, .int (nI i))] [] ad' h') :
    G p l e room_1 s m #[Value.ref b] below meth c K (fun q : Nat => s.heap.size ≤ q) (WLw b0 b1) 4 cells slots (lw_Z below #[Value.ref b] s) 310 [(0, .ref b), (1, .ref (ad 0)), (2, .ref (ad 100)), (3, .int (nI i))] [] ad h := by
  have hc0 : cells ≤ room_1.cells := by omega
  have hs0 : slots ≤ room_1.slots := by omega
  obtain ⟨r, h1, h2, z1, z2, hI2⟩ := HM k b0 b1 h (xs (i + 1)) (xs (i + 2)) hk hI
  refine g_aload_n C0 1 d_law_310 rfl rfl ?_
  refine g_aload_n C0 0 d_law_311 rfl rfl ?_
  refine g_iload_n C0 3 d_law_312 rfl rfl ?_
  refine g_iconst C0 (v := nI 1) d_law_313 (by decide) ?_
  refine g_iadd C0 d_law_314 ?_
  refine g_sld C0 hX hbl (Nat.not_le.mpr hbl) (i + 1) (by omega) (by omega) (nI_add i 1) d_law_315 ?_
  refine g_aload_n C0 0 d_law_316 rfl rfl ?_
  refine g_iload_n C0 3 d_law_317 rfl rfl ?_
  refine g_iconst C0 (v := nI 2) d_law_318 (by decide) ?_
  refine g_iadd C0 d_law_319 ?_
  refine g_sld C0 hX hbl (Nat.not_le.mpr hbl) (i + 2) (by omega) (by omega) (nI_add i 2) d_law_320 ?_
  refine g_calli C0 (nd_WLw b0 b1) lC rfl (sub_WLw_C b0 b1) (runV C0 (m_C_stroke l K ad h (xs (i + 1)) (xs (i + 2)) z1) 2 rfl ⟨t_751, t_752, t_753, t_85, t_754⟩ cd_C_stroke ⟨Nat.le_of_ble_eq_true rfl, Nat.le_of_ble_eq_true rfl, rfl, rfl, hc0, hs0⟩ 0 rfl rfl (sub_WLw_C b0 b1) nd_C rfl rfl (Nat.le_of_ble_eq_true rfl) d_law_321) ?_
  refine g_aload_n C0 2 d_law_324 rfl rfl ?_
  refine g_aload_n C0 0 d_law_325 rfl rfl ?_
  refine g_iload_n C0 3 d_law_326 rfl rfl ?_
  refine g_iconst C0 (v := nI 1) d_law_327 (by decide) ?_
  refine g_iadd C0 d_law_328 ?_
  refine g_sld C0 hX hbl (Nat.not_le.mpr hbl) (i + 1) (by omega) (by omega) (nI_add i 1) d_law_329 ?_
  refine g_aload_n C0 0 d_law_330 rfl rfl ?_
  refine g_iload_n C0 3 d_law_331 rfl rfl ?_
  refine g_iconst C0 (v := nI 2) d_law_332 (by decide) ?_
  refine g_iadd C0 d_law_333 ?_
  refine g_sld C0 hX hbl (Nat.not_le.mpr hbl) (i + 2) (by omega) (by omega) (nI_add i 2) d_law_334 ?_
  refine g_calli C0 (nd_WLw b0 b1) lM rfl (sub_WLw_M b0 b1) (runV C0 (m_M_stroke l K ad (mx lC h1 h) N (xs (i + 1)) (xs (i + 2)) z2) 2 rfl ⟨t_1289, t_1290, t_1291, t_97, t_1292⟩ cd_M_stroke ⟨Nat.le_of_ble_eq_true rfl, Nat.le_of_ble_eq_true rfl, rfl, rfl, hc0, hs0⟩ 34 rfl rfl (sub_WLw_M b0 b1) nd_M rfl rfl (Nat.le_of_ble_eq_true rfl) d_law_335) ?_
  refine g_icmp_eq C0 (tgt := 995) d_law_338 (by decide) (fun _ => ?_) (fun z => absurd rfl z)
  refine g_widen (k := cells + 4) (n := slots + 77) (by omega) (by omega) ?_
  exact nx b0 b1 ad _ hI2
theorem law_would {p : Program} {l : Launch} {e : Env} {s : State} {m : MethodId} {below : List Frame} {meth : Method} {c : Code} {K : KT} {b Ln : Nat} {xs : Nat → Int32} (C0 : Cx p s m #[Value.ref b] meth c code R_law 4 K (fun q : Nat => s.heap.size ≤ q)) (hX : va_X b Ln xs s s.heap) (hbl : b < s.heap.size) (hL : Ln ≤ 256) {N : Nat} {Inv : Nat → Bool → Bool → Hp → Prop} (HM : MO_would N Inv) (i k : Nat) (hi : i + 4 ≤ Ln) (hk : k < 64) (b0 b1 : Bool) (ad : Nat → Nat) (h : Hp) (hI : Inv k b0 b1 h) {cells slots : Nat} (hc : cells + 4 ≤ room_1.cells) (hs : slots + 77 ≤ room_1.slots)
    (nx : ∀ (d0 d1 : Bool) (ad' : Nat → Nat) (h' : Hp), Inv (k + 1) d0 d1 h' → G p l e room_1 s m #[Value.ref b] below meth c K (fun q : Nat => s.heap.size ≤ q) (WLw d0 d1) 4 (cells + 4) (slots + 77) (lw_Z below #[Value.ref b] s) 995 [(0, .ref b), (1, .ref (ad' 0)), (2, .ref (ad' 100)), (3, .int (nI i))] [] ad' h') :
    G p l e room_1 s m #[Value.ref b] below meth c K (fun q : Nat => s.heap.size ≤ q) (WLw b0 b1) 4 cells slots (lw_Z below #[Value.ref b] s) 343 [(0, .ref b), (1, .ref (ad 0)), (2, .ref (ad 100)), (3, .int (nI i))] [] ad h := by
  have hc0 : cells ≤ room_1.cells := by omega
  have hs0 : slots ≤ room_1.slots := by omega
  obtain ⟨r, h2, z1, z2, hI2⟩ := HM k b0 b1 h (xs (i + 1)) (xs (i + 2)) (xs (i + 3)) hk hI
  refine g_aload_n C0 1 d_law_343 rfl rfl ?_
  refine g_aload_n C0 0 d_law_344 rfl rfl ?_
  refine g_iload_n C0 3 d_law_345 rfl rfl ?_
  refine g_iconst C0 (v := nI 1) d_law_346 (by decide) ?_
  refine g_iadd C0 d_law_347 ?_
  refine g_sld C0 hX hbl (Nat.not_le.mpr hbl) (i + 1) (by omega) (by omega) (nI_add i 1) d_law_348 ?_
  refine g_aload_n C0 0 d_law_349 rfl rfl ?_
  refine g_iload_n C0 3 d_law_350 rfl rfl ?_
  refine g_iconst C0 (v := nI 2) d_law_351 (by decide) ?_
  refine g_iadd C0 d_law_352 ?_
  refine g_sld C0 hX hbl (Nat.not_le.mpr hbl) (i + 2) (by omega) (by omega) (nI_add i 2) d_law_353 ?_
  refine g_aload_n C0 0 d_law_354 rfl rfl ?_
  refine g_iload_n C0 3 d_law_355 rfl rfl ?_
  refine g_iconst C0 (v := nI 3) d_law_356 (by decide) ?_
  refine g_iadd C0 d_law_357 ?_
  refine g_sld C0 hX hbl (Nat.not_le.mpr hbl) (i + 3) (by omega) (by omega) (nI_add i 3) d_law_358 ?_
  refine g_calliP C0 (nd_WLw b0 b1) lC rfl (sub_WLw_C b0 b1) (runV C0 (m_C_would l K ad h (xs (i + 1)) (xs (i + 2)) (xs (i + 3)) z1) 3 rfl ⟨t_801, t_802, t_803, t_85, t_804⟩ cd_C_would ⟨Nat.le_of_ble_eq_true rfl, Nat.le_of_ble_eq_true rfl, rfl, rfl, hc0, hs0⟩ 0 rfl rfl (sub_WLw_C b0 b1) nd_C rfl rfl (Nat.le_of_ble_eq_true rfl) d_law_359) ?_
  refine g_aload_n C0 2 d_law_362 rfl rfl ?_
  refine g_aload_n C0 0 d_law_363 rfl rfl ?_
  refine g_iload_n C0 3 d_law_364 rfl rfl ?_
  refine g_iconst C0 (v := nI 1) d_law_365 (by decide) ?_
  refine g_iadd C0 d_law_366 ?_
  refine g_sld C0 hX hbl (Nat.not_le.mpr hbl) (i + 1) (by omega) (by omega) (nI_add i 1) d_law_367 ?_
  refine g_aload_n C0 0 d_law_368 rfl rfl ?_
  refine g_iload_n C0 3 d_law_369 rfl rfl ?_
  refine g_iconst C0 (v := nI 2) d_law_370 (by decide) ?_
  refine g_iadd C0 d_law_371 ?_
  refine g_sld C0 hX hbl (Nat.not_le.mpr hbl) (i + 2) (by omega) (by omega) (nI_add i 2) d_law_372 ?_
  refine g_aload_n C0 0 d_law_373 rfl rfl ?_
  refine g_iload_n C0 3 d_law_374 rfl rfl ?_
  refine g_iconst C0 (v := nI 3) d_law_375 (by decide) ?_
  refine g_iadd C0 d_law_376 ?_
  refine g_sld C0 hX hbl (Nat.not_le.mpr hbl) (i + 3) (by omega) (by omega) (nI_add i 3) d_law_377 ?_
  refine g_calli C0 (nd_WLw b0 b1) lM rfl (sub_WLw_M b0 b1) (runV C0 (m_M_would l K ad h N (xs (i + 1)) (xs (i + 2)) (xs (i + 3)) z2) 3 rfl ⟨t_1343, t_1344, t_1345, t_97, t_1346⟩ cd_M_would ⟨Nat.le_of_ble_eq_true rfl, Nat.le_of_ble_eq_true rfl, rfl, rfl, hc0, hs0⟩ 34 rfl rfl (sub_WLw_M b0 b1) nd_M rfl rfl (Nat.le_of_ble_eq_true rfl) d_law_378) ?_
  refine g_icmp_eq C0 (tgt := 995) d_law_381 (by decide) (fun _ => ?_) (fun z => absurd rfl z)
  refine g_widen (k := cells + 4) (n := slots + 77) (by omega) (by omega) ?_
  exact nx b0 b1 ad _ hI2
theorem law_back {p : Program} {l : Launch} {e : Env} {s : State} {m : MethodId} {below : List Frame} {meth : Method} {c : Code} {K : KT} {b Ln : Nat} {xs : Nat → Int32} (C0 : Cx p s m #[Value.ref b] meth c code R_law 4 K (fun q : Nat => s.heap.size ≤ q)) (hX : va_X b Ln xs s s.heap) (hbl : b < s.heap.size) (hL : Ln ≤ 256) {N : Nat} {Inv : Nat → Bool → Bool → Hp → Prop} (HM : MO_back N Inv) (i k : Nat) (hi : i + 4 ≤ Ln) (hk : k < 64) (b0 b1 : Bool) (ad : Nat → Nat) (h : Hp) (hI : Inv k b0 b1 h) {cells slots : Nat} (hc : cells + 4 ≤ room_1.cells) (hs : slots + 77 ≤ room_1.slots)
    (nx : ∀ (d0 d1 : Bool) (ad' : Nat → Nat) (h' : Hp), Inv (k + 1) d0 d1 h' → G p l e room_1 s m #[Value.ref b] below meth c K (fun q : Nat => s.heap.size ≤ q) (WLw d0 d1) 4 (cells + 4) (slots + 77) (lw_Z below #[Value.ref b] s) 995 [(0, .ref b), (1, .ref (ad' 0)), (2, .ref (ad' 100)), (3, .int (nI i))] [] ad' h') :
    G p l e room_1 s m #[Value.ref b] below meth c K (fun q : Nat => s.heap.size ≤ q) (WLw b0 b1) 4 cells slots (lw_Z below #[Value.ref b] s) 386 [(0, .ref b), (1, .ref (ad 0)), (2, .ref (ad 100)), (3, .int (nI i))] [] ad h := by
  have hc0 : cells ≤ room_1.cells := by omega
  have hs0 : slots ≤ room_1.slots := by omega
  obtain ⟨r, h1, h2, z1, z2, hI2⟩ := HM k b0 b1 h (xs (i + 1)) hk hI
  refine g_aload_n C0 1 d_law_386 rfl rfl ?_
  refine g_aload_n C0 0 d_law_387 rfl rfl ?_
  refine g_iload_n C0 3 d_law_388 rfl rfl ?_
  refine g_iconst C0 (v := nI 1) d_law_389 (by decide) ?_
  refine g_iadd C0 d_law_390 ?_
  refine g_sld C0 hX hbl (Nat.not_le.mpr hbl) (i + 1) (by omega) (by omega) (nI_add i 1) d_law_391 ?_
  refine g_calli C0 (nd_WLw b0 b1) lC rfl (sub_WLw_C b0 b1) (runV C0 (m_C_back l K ad h (xs (i + 1)) z1) 1 rfl ⟨t_810, t_811, t_812, t_85, t_813⟩ cd_C_back ⟨Nat.le_of_ble_eq_true rfl, Nat.le_of_ble_eq_true rfl, rfl, rfl, hc0, hs0⟩ 0 rfl rfl (sub_WLw_C b0 b1) nd_C rfl rfl (Nat.le_of_ble_eq_true rfl) d_law_392) ?_
  refine g_aload_n C0 2 d_law_395 rfl rfl ?_
  refine g_aload_n C0 0 d_law_396 rfl rfl ?_
  refine g_iload_n C0 3 d_law_397 rfl rfl ?_
  refine g_iconst C0 (v := nI 1) d_law_398 (by decide) ?_
  refine g_iadd C0 d_law_399 ?_
  refine g_sld C0 hX hbl (Nat.not_le.mpr hbl) (i + 1) (by omega) (by omega) (nI_add i 1) d_law_400 ?_
  refine g_calli C0 (nd_WLw b0 b1) lM rfl (sub_WLw_M b0 b1) (runV C0 (m_M_back l K ad (mx lC h1 h) N (xs (i + 1)) z2) 1 rfl ⟨t_1347, t_1348, t_1349, t_97, t_1350⟩ cd_M_back ⟨Nat.le_of_ble_eq_true rfl, Nat.le_of_ble_eq_true rfl, rfl, rfl, hc0, hs0⟩ 34 rfl rfl (sub_WLw_M b0 b1) nd_M rfl rfl (Nat.le_of_ble_eq_true rfl) d_law_401) ?_
  refine g_icmp_eq C0 (tgt := 995) d_law_404 (by decide) (fun _ => ?_) (fun z => absurd rfl z)
  refine g_widen (k := cells + 4) (n := slots + 77) (by omega) (by omega) ?_
  exact nx b0 b1 ad _ hI2
theorem law_set {p : Program} {l : Launch} {e : Env} {s : State} {m : MethodId} {below : List Frame} {meth : Method} {c : Code} {K : KT} {b Ln : Nat} {xs : Nat → Int32} (C0 : Cx p s m #[Value.ref b] meth c code R_law 4 K (fun q : Nat => s.heap.size ≤ q)) (hX : va_X b Ln xs s s.heap) (hbl : b < s.heap.size) (hL : Ln ≤ 256) {N : Nat} {Inv : Nat → Bool → Bool → Hp → Prop} (HM : MO_set N Inv) (i k : Nat) (hi : i + 4 ≤ Ln) (hk : k < 64) (b0 b1 : Bool) (ad : Nat → Nat) (h : Hp) (hI : Inv k b0 b1 h) {cells slots : Nat} (hc : cells + 4 ≤ room_1.cells) (hs : slots + 77 ≤ room_1.slots)
    (nx : ∀ (d0 d1 : Bool) (ad' : Nat → Nat) (h' : Hp), Inv (k + 1) d0 d1 h' → G p l e room_1 s m #[Value.ref b] below meth c K (fun q : Nat => s.heap.size ≤ q) (WLw d0 d1) 4 (cells + 4) (slots + 77) (lw_Z below #[Value.ref b] s) 995 [(0, .ref b), (1, .ref (ad' 0)), (2, .ref (ad' 100)), (3, .int (nI i))] [] ad' h') :
    G p l e room_1 s m #[Value.ref b] below meth c K (fun q : Nat => s.heap.size ≤ q) (WLw b0 b1) 4 cells slots (lw_Z below #[Value.ref b] s) 409 [(0, .ref b), (1, .ref (ad 0)), (2, .ref (ad 100)), (3, .int (nI i))] [] ad h := by
  have hc0 : cells ≤ room_1.cells := by omega
  have hs0 : slots ≤ room_1.slots := by omega
  obtain ⟨r, h1, h2, z1, z2, hI2⟩ := HM k b0 b1 h (xs (i + 1)) (xs (i + 2)) (xs (i + 3)) hk hI
  refine g_aload_n C0 1 d_law_409 rfl rfl ?_
  refine g_aload_n C0 0 d_law_410 rfl rfl ?_
  refine g_iload_n C0 3 d_law_411 rfl rfl ?_
  refine g_iconst C0 (v := nI 1) d_law_412 (by decide) ?_
  refine g_iadd C0 d_law_413 ?_
  refine g_sld C0 hX hbl (Nat.not_le.mpr hbl) (i + 1) (by omega) (by omega) (nI_add i 1) d_law_414 ?_
  refine g_aload_n C0 0 d_law_415 rfl rfl ?_
  refine g_iload_n C0 3 d_law_416 rfl rfl ?_
  refine g_iconst C0 (v := nI 2) d_law_417 (by decide) ?_
  refine g_iadd C0 d_law_418 ?_
  refine g_sld C0 hX hbl (Nat.not_le.mpr hbl) (i + 2) (by omega) (by omega) (nI_add i 2) d_law_419 ?_
  refine g_aload_n C0 0 d_law_420 rfl rfl ?_
  refine g_iload_n C0 3 d_law_421 rfl rfl ?_
  refine g_iconst C0 (v := nI 3) d_law_422 (by decide) ?_
  refine g_iadd C0 d_law_423 ?_
  refine g_sld C0 hX hbl (Nat.not_le.mpr hbl) (i + 3) (by omega) (by omega) (nI_add i 3) d_law_424 ?_
  refine g_calli C0 (nd_WLw b0 b1) lC rfl (sub_WLw_C b0 b1) (runV C0 (m_C_set l K ad h (xs (i + 1)) (xs (i + 2)) (xs (i + 3)) z1) 3 rfl ⟨t_821, t_822, t_823, t_85, t_824⟩ cd_C_set ⟨Nat.le_of_ble_eq_true rfl, Nat.le_of_ble_eq_true rfl, rfl, rfl, hc0, hs0⟩ 0 rfl rfl (sub_WLw_C b0 b1) nd_C rfl rfl (Nat.le_of_ble_eq_true rfl) d_law_425) ?_
  refine g_aload_n C0 2 d_law_428 rfl rfl ?_
  refine g_aload_n C0 0 d_law_429 rfl rfl ?_
  refine g_iload_n C0 3 d_law_430 rfl rfl ?_
  refine g_iconst C0 (v := nI 1) d_law_431 (by decide) ?_
  refine g_iadd C0 d_law_432 ?_
  refine g_sld C0 hX hbl (Nat.not_le.mpr hbl) (i + 1) (by omega) (by omega) (nI_add i 1) d_law_433 ?_
  refine g_aload_n C0 0 d_law_434 rfl rfl ?_
  refine g_iload_n C0 3 d_law_435 rfl rfl ?_
  refine g_iconst C0 (v := nI 2) d_law_436 (by decide) ?_
  refine g_iadd C0 d_law_437 ?_
  refine g_sld C0 hX hbl (Nat.not_le.mpr hbl) (i + 2) (by omega) (by omega) (nI_add i 2) d_law_438 ?_
  refine g_aload_n C0 0 d_law_439 rfl rfl ?_
  refine g_iload_n C0 3 d_law_440 rfl rfl ?_
  refine g_iconst C0 (v := nI 3) d_law_441 (by decide) ?_
  refine g_iadd C0 d_law_442 ?_
  refine g_sld C0 hX hbl (Nat.not_le.mpr hbl) (i + 3) (by omega) (by omega) (nI_add i 3) d_law_443 ?_
  refine g_calli C0 (nd_WLw b0 b1) lM rfl (sub_WLw_M b0 b1) (runV C0 (m_M_set l K ad (mx lC h1 h) (xs (i + 1)) (xs (i + 2)) (xs (i + 3)) z2) 3 rfl ⟨t_1352, t_1353, t_1354, t_97, t_1355⟩ cd_M_set ⟨Nat.le_of_ble_eq_true rfl, Nat.le_of_ble_eq_true rfl, rfl, rfl, hc0, hs0⟩ 34 rfl rfl (sub_WLw_M b0 b1) nd_M rfl rfl (Nat.le_of_ble_eq_true rfl) d_law_444) ?_
  refine g_icmp_eq C0 (tgt := 995) d_law_447 (by decide) (fun _ => ?_) (fun z => absurd rfl z)
  refine g_widen (k := cells + 4) (n := slots + 77) (by omega) (by omega) ?_
  exact nx b0 b1 ad _ hI2
theorem law_drift {p : Program} {l : Launch} {e : Env} {s : State} {m : MethodId} {below : List Frame} {meth : Method} {c : Code} {K : KT} {b Ln : Nat} {xs : Nat → Int32} (C0 : Cx p s m #[Value.ref b] meth c code R_law 4 K (fun q : Nat => s.heap.size ≤ q)) (hX : va_X b Ln xs s s.heap) (hbl : b < s.heap.size) (hL : Ln ≤ 256) {N : Nat} {Inv : Nat → Bool → Bool → Hp → Prop} (HM : MO_drift N Inv) (i k : Nat) (hi : i + 4 ≤ Ln) (hk : k < 64) (b0 b1 : Bool) (ad : Nat → Nat) (h : Hp) (hI : Inv k b0 b1 h) {cells slots : Nat} (hc : cells + 4 ≤ room_1.cells) (hs : slots + 77 ≤ room_1.slots)
    (nx : ∀ (d0 d1 : Bool) (ad' : Nat → Nat) (h' : Hp), Inv (k + 1) d0 d1 h' → G p l e room_1 s m #[Value.ref b] below meth c K (fun q : Nat => s.heap.size ≤ q) (WLw d0 d1) 4 (cells + 4) (slots + 77) (lw_Z below #[Value.ref b] s) 995 [(0, .ref b), (1, .ref (ad' 0)), (2, .ref (ad' 100)), (3, .int (nI i))] [] ad' h') :
    G p l e room_1 s m #[Value.ref b] below meth c K (fun q : Nat => s.heap.size ≤ q) (WLw b0 b1) 4 cells slots (lw_Z below #[Value.ref b] s) 452 [(0, .ref b), (1, .ref (ad 0)), (2, .ref (ad 100)), (3, .int (nI i))] [] ad h := by
  have hc0 : cells ≤ room_1.cells := by omega
  have hs0 : slots ≤ room_1.slots := by omega
  obtain ⟨r, h1, h2, z1, z2, hI2⟩ := HM k b0 b1 h (xs (i + 1)) hk hI
  refine g_aload_n C0 1 d_law_452 rfl rfl ?_
  refine g_aload_n C0 0 d_law_453 rfl rfl ?_
  refine g_iload_n C0 3 d_law_454 rfl rfl ?_
  refine g_iconst C0 (v := nI 1) d_law_455 (by decide) ?_
  refine g_iadd C0 d_law_456 ?_
  refine g_sld C0 hX hbl (Nat.not_le.mpr hbl) (i + 1) (by omega) (by omega) (nI_add i 1) d_law_457 ?_
  refine g_calli C0 (nd_WLw b0 b1) lC rfl (sub_WLw_C b0 b1) (runV C0 (m_C_drift l K ad h N (xs (i + 1)) z1) 1 rfl ⟨t_825, t_826, t_827, t_85, t_828⟩ cd_C_drift ⟨Nat.le_of_ble_eq_true rfl, Nat.le_of_ble_eq_true rfl, rfl, rfl, hc0, hs0⟩ 0 rfl rfl (sub_WLw_C b0 b1) nd_C rfl rfl (Nat.le_of_ble_eq_true rfl) d_law_458) ?_
  refine g_aload_n C0 2 d_law_461 rfl rfl ?_
  refine g_aload_n C0 0 d_law_462 rfl rfl ?_
  refine g_iload_n C0 3 d_law_463 rfl rfl ?_
  refine g_iconst C0 (v := nI 1) d_law_464 (by decide) ?_
  refine g_iadd C0 d_law_465 ?_
  refine g_sld C0 hX hbl (Nat.not_le.mpr hbl) (i + 1) (by omega) (by omega) (nI_add i 1) d_law_466 ?_
  refine g_calli C0 (nd_WLw b0 b1) lM rfl (sub_WLw_M b0 b1) (runV C0 (m_M_drift l K ad (mx lC h1 h) N (xs (i + 1)) z2) 1 rfl ⟨t_1356, t_1357, t_1358, t_97, t_1359⟩ cd_M_drift ⟨Nat.le_of_ble_eq_true rfl, Nat.le_of_ble_eq_true rfl, rfl, rfl, hc0, hs0⟩ 34 rfl rfl (sub_WLw_M b0 b1) nd_M rfl rfl (Nat.le_of_ble_eq_true rfl) d_law_467) ?_
  refine g_icmp_eq C0 (tgt := 995) d_law_470 (by decide) (fun _ => ?_) (fun z => absurd rfl z)
  refine g_widen (k := cells + 4) (n := slots + 77) (by omega) (by omega) ?_
  exact nx b0 b1 ad _ hI2
theorem law_fewest {p : Program} {l : Launch} {e : Env} {s : State} {m : MethodId} {below : List Frame} {meth : Method} {c : Code} {K : KT} {b Ln : Nat} {xs : Nat → Int32} (C0 : Cx p s m #[Value.ref b] meth c code R_law 4 K (fun q : Nat => s.heap.size ≤ q)) (hX : va_X b Ln xs s s.heap) (hbl : b < s.heap.size) (hL : Ln ≤ 256) {N : Nat} {Inv : Nat → Bool → Bool → Hp → Prop} (HM : MO_fewest N Inv) (i k : Nat) (hi : i + 4 ≤ Ln) (hk : k < 64) (b0 b1 : Bool) (ad : Nat → Nat) (h : Hp) (hI : Inv k b0 b1 h) {cells slots : Nat} (hc : cells + 4 ≤ room_1.cells) (hs : slots + 77 ≤ room_1.slots)
    (nx : ∀ (d0 d1 : Bool) (ad' : Nat → Nat) (h' : Hp), Inv (k + 1) d0 d1 h' → G p l e room_1 s m #[Value.ref b] below meth c K (fun q : Nat => s.heap.size ≤ q) (WLw d0 d1) 4 (cells + 4) (slots + 77) (lw_Z below #[Value.ref b] s) 995 [(0, .ref b), (1, .ref (ad' 0)), (2, .ref (ad' 100)), (3, .int (nI i))] [] ad' h') :
    G p l e room_1 s m #[Value.ref b] below meth c K (fun q : Nat => s.heap.size ≤ q) (WLw b0 b1) 4 cells slots (lw_Z below #[Value.ref b] s) 475 [(0, .ref b), (1, .ref (ad 0)), (2, .ref (ad 100)), (3, .int (nI i))] [] ad h := by
  have hc0 : cells ≤ room_1.cells := by omega
  have hs0 : slots ≤ room_1.slots := by omega
  obtain ⟨r, h1, h2, z1, z2, hI2⟩ := HM k b0 b1 h (xs (i + 1)) hk hI
  refine g_aload_n C0 1 d_law_475 rfl rfl ?_
  refine g_aload_n C0 0 d_law_476 rfl rfl ?_
  refine g_iload_n C0 3 d_law_477 rfl rfl ?_
  refine g_iconst C0 (v := nI 1) d_law_478 (by decide) ?_
  refine g_iadd C0 d_law_479 ?_
  refine g_sld C0 hX hbl (Nat.not_le.mpr hbl) (i + 1) (by omega) (by omega) (nI_add i 1) d_law_480 ?_
  refine g_calli C0 (nd_WLw b0 b1) lC rfl (sub_WLw_C b0 b1) (runV C0 (m_C_fewest l K ad h N (xs (i + 1)) z1) 1 rfl ⟨t_837, t_838, t_839, t_85, t_840⟩ cd_C_fewest ⟨Nat.le_of_ble_eq_true rfl, Nat.le_of_ble_eq_true rfl, rfl, rfl, hc0, hs0⟩ 0 rfl rfl (sub_WLw_C b0 b1) nd_C rfl rfl (Nat.le_of_ble_eq_true rfl) d_law_481) ?_
  refine g_aload_n C0 2 d_law_484 rfl rfl ?_
  refine g_aload_n C0 0 d_law_485 rfl rfl ?_
  refine g_iload_n C0 3 d_law_486 rfl rfl ?_
  refine g_iconst C0 (v := nI 1) d_law_487 (by decide) ?_
  refine g_iadd C0 d_law_488 ?_
  refine g_sld C0 hX hbl (Nat.not_le.mpr hbl) (i + 1) (by omega) (by omega) (nI_add i 1) d_law_489 ?_
  refine g_calli C0 (nd_WLw b0 b1) lM rfl (sub_WLw_M b0 b1) (runV C0 (m_M_fewest l K ad (mx lC h1 h) N (xs (i + 1)) z2) 1 rfl ⟨t_1369, t_1370, t_1371, t_97, t_1372⟩ cd_M_fewest ⟨Nat.le_of_ble_eq_true rfl, Nat.le_of_ble_eq_true rfl, rfl, rfl, hc0, hs0⟩ 34 rfl rfl (sub_WLw_M b0 b1) nd_M rfl rfl (Nat.le_of_ble_eq_true rfl) d_law_490) ?_
  refine g_icmp_eq C0 (tgt := 995) d_law_493 (by decide) (fun _ => ?_) (fun z => absurd rfl z)
  refine g_widen (k := cells + 4) (n := slots + 77) (by omega) (by omega) ?_
  exact nx b0 b1 ad _ hI2
theorem law_calls {p : Program} {l : Launch} {e : Env} {s : State} {m : MethodId} {below : List Frame} {meth : Method} {c : Code} {K : KT} {b Ln : Nat} {xs : Nat → Int32} (C0 : Cx p s m #[Value.ref b] meth c code R_law 4 K (fun q : Nat => s.heap.size ≤ q)) (hX : va_X b Ln xs s s.heap) (hbl : b < s.heap.size) (hL : Ln ≤ 256) {N : Nat} {Inv : Nat → Bool → Bool → Hp → Prop} (HM : MO_calls N Inv) (i k : Nat) (hi : i + 4 ≤ Ln) (hk : k < 64) (b0 b1 : Bool) (ad : Nat → Nat) (h : Hp) (hI : Inv k b0 b1 h) {cells slots : Nat} (hc : cells + 4 ≤ room_1.cells) (hs : slots + 77 ≤ room_1.slots)
    (nx : ∀ (d0 d1 : Bool) (ad' : Nat → Nat) (h' : Hp), Inv (k + 1) d0 d1 h' → G p l e room_1 s m #[Value.ref b] below meth c K (fun q : Nat => s.heap.size ≤ q) (WLw d0 d1) 4 (cells + 4) (slots + 77) (lw_Z below #[Value.ref b] s) 995 [(0, .ref b), (1, .ref (ad' 0)), (2, .ref (ad' 100)), (3, .int (nI i))] [] ad' h') :
    G p l e room_1 s m #[Value.ref b] below meth c K (fun q : Nat => s.heap.size ≤ q) (WLw b0 b1) 4 cells slots (lw_Z below #[Value.ref b] s) 498 [(0, .ref b), (1, .ref (ad 0)), (2, .ref (ad 100)), (3, .int (nI i))] [] ad h := by
  have hc0 : cells ≤ room_1.cells := by omega
  have hs0 : slots ≤ room_1.slots := by omega
  obtain ⟨r, h1, h2, z1, z2, hI2⟩ := HM k b0 b1 h (xs (i + 1)) (xs (i + 2)) hk hI
  refine g_aload_n C0 1 d_law_498 rfl rfl ?_
  refine g_aload_n C0 0 d_law_499 rfl rfl ?_
  refine g_iload_n C0 3 d_law_500 rfl rfl ?_
  refine g_iconst C0 (v := nI 1) d_law_501 (by decide) ?_
  refine g_iadd C0 d_law_502 ?_
  refine g_sld C0 hX hbl (Nat.not_le.mpr hbl) (i + 1) (by omega) (by omega) (nI_add i 1) d_law_503 ?_
  refine g_aload_n C0 0 d_law_504 rfl rfl ?_
  refine g_iload_n C0 3 d_law_505 rfl rfl ?_
  refine g_iconst C0 (v := nI 2) d_law_506 (by decide) ?_
  refine g_iadd C0 d_law_507 ?_
  refine g_sld C0 hX hbl (Nat.not_le.mpr hbl) (i + 2) (by omega) (by omega) (nI_add i 2) d_law_508 ?_
  refine g_calli C0 (nd_WLw b0 b1) lC rfl (sub_WLw_C b0 b1) (runV C0 (m_C_calls l K ad h N (xs (i + 1)) (xs (i + 2)) z1) 2 rfl ⟨t_869, t_870, t_871, t_85, t_872⟩ cd_C_calls ⟨Nat.le_of_ble_eq_true rfl, Nat.le_of_ble_eq_true rfl, rfl, rfl, hc0, hs0⟩ 0 rfl rfl (sub_WLw_C b0 b1) nd_C rfl rfl (Nat.le_of_ble_eq_true rfl) d_law_509) ?_
  refine g_aload_n C0 2 d_law_512 rfl rfl ?_
  refine g_aload_n C0 0 d_law_513 rfl rfl ?_
  refine g_iload_n C0 3 d_law_514 rfl rfl ?_
  refine g_iconst C0 (v := nI 1) d_law_515 (by decide) ?_
  refine g_iadd C0 d_law_516 ?_
  refine g_sld C0 hX hbl (Nat.not_le.mpr hbl) (i + 1) (by omega) (by omega) (nI_add i 1) d_law_517 ?_
  refine g_aload_n C0 0 d_law_518 rfl rfl ?_
  refine g_iload_n C0 3 d_law_519 rfl rfl ?_
  refine g_iconst C0 (v := nI 2) d_law_520 (by decide) ?_
  refine g_iadd C0 d_law_521 ?_
  refine g_sld C0 hX hbl (Nat.not_le.mpr hbl) (i + 2) (by omega) (by omega) (nI_add i 2) d_law_522 ?_
  refine g_calli C0 (nd_WLw b0 b1) lM rfl (sub_WLw_M b0 b1) (runV C0 (m_M_calls l K ad (mx lC h1 h) N (xs (i + 1)) (xs (i + 2)) z2) 2 rfl ⟨t_1419, t_1420, t_1421, t_97, t_1422⟩ cd_M_calls ⟨Nat.le_of_ble_eq_true rfl, Nat.le_of_ble_eq_true rfl, rfl, rfl, hc0, hs0⟩ 34 rfl rfl (sub_WLw_M b0 b1) nd_M rfl rfl (Nat.le_of_ble_eq_true rfl) d_law_523) ?_
  refine g_icmp_eq C0 (tgt := 995) d_law_526 (by decide) (fun _ => ?_) (fun z => absurd rfl z)
  refine g_widen (k := cells + 4) (n := slots + 77) (by omega) (by omega) ?_
  exact nx b0 b1 ad _ hI2
theorem law_mute {p : Program} {l : Launch} {e : Env} {s : State} {m : MethodId} {below : List Frame} {meth : Method} {c : Code} {K : KT} {b Ln : Nat} {xs : Nat → Int32} (C0 : Cx p s m #[Value.ref b] meth c code R_law 4 K (fun q : Nat => s.heap.size ≤ q)) (hX : va_X b Ln xs s s.heap) (hbl : b < s.heap.size) (hL : Ln ≤ 256) {N : Nat} {Inv : Nat → Bool → Bool → Hp → Prop} (HM : MO_mute N Inv) (i k : Nat) (hi : i + 4 ≤ Ln) (hk : k < 64) (b0 b1 : Bool) (ad : Nat → Nat) (h : Hp) (hI : Inv k b0 b1 h) {cells slots : Nat} (hc : cells + 4 ≤ room_1.cells) (hs : slots + 77 ≤ room_1.slots)
    (nx : ∀ (d0 d1 : Bool) (ad' : Nat → Nat) (h' : Hp), Inv (k + 1) d0 d1 h' → G p l e room_1 s m #[Value.ref b] below meth c K (fun q : Nat => s.heap.size ≤ q) (WLw d0 d1) 4 (cells + 4) (slots + 77) (lw_Z below #[Value.ref b] s) 995 [(0, .ref b), (1, .ref (ad' 0)), (2, .ref (ad' 100)), (3, .int (nI i))] [] ad' h') :
    G p l e room_1 s m #[Value.ref b] below meth c K (fun q : Nat => s.heap.size ≤ q) (WLw b0 b1) 4 cells slots (lw_Z below #[Value.ref b] s) 531 [(0, .ref b), (1, .ref (ad 0)), (2, .ref (ad 100)), (3, .int (nI i))] [] ad h := by
  have hc0 : cells ≤ room_1.cells := by omega
  have hs0 : slots ≤ room_1.slots := by omega
  obtain ⟨r, h2, z1, z2, hI2⟩ := HM k b0 b1 h (xs (i + 1)) (xs (i + 2)) (xs (i + 3)) hk hI
  refine g_aload_n C0 1 d_law_531 rfl rfl ?_
  refine g_aload_n C0 0 d_law_532 rfl rfl ?_
  refine g_iload_n C0 3 d_law_533 rfl rfl ?_
  refine g_iconst C0 (v := nI 1) d_law_534 (by decide) ?_
  refine g_iadd C0 d_law_535 ?_
  refine g_sld C0 hX hbl (Nat.not_le.mpr hbl) (i + 1) (by omega) (by omega) (nI_add i 1) d_law_536 ?_
  refine g_aload_n C0 0 d_law_537 rfl rfl ?_
  refine g_iload_n C0 3 d_law_538 rfl rfl ?_
  refine g_iconst C0 (v := nI 2) d_law_539 (by decide) ?_
  refine g_iadd C0 d_law_540 ?_
  refine g_sld C0 hX hbl (Nat.not_le.mpr hbl) (i + 2) (by omega) (by omega) (nI_add i 2) d_law_541 ?_
  refine g_aload_n C0 0 d_law_542 rfl rfl ?_
  refine g_iload_n C0 3 d_law_543 rfl rfl ?_
  refine g_iconst C0 (v := nI 3) d_law_544 (by decide) ?_
  refine g_iadd C0 d_law_545 ?_
  refine g_sld C0 hX hbl (Nat.not_le.mpr hbl) (i + 3) (by omega) (by omega) (nI_add i 3) d_law_546 ?_
  refine g_calliP C0 (nd_WLw b0 b1) lC rfl (sub_WLw_C b0 b1) (runV C0 (m_C_mute l K ad h N (xs (i + 1)) (xs (i + 2)) (xs (i + 3)) z1) 3 rfl ⟨t_897, t_898, t_899, t_85, t_900⟩ cd_C_mute ⟨Nat.le_of_ble_eq_true rfl, Nat.le_of_ble_eq_true rfl, rfl, rfl, hc0, hs0⟩ 0 rfl rfl (sub_WLw_C b0 b1) nd_C rfl rfl (Nat.le_of_ble_eq_true rfl) d_law_547) ?_
  refine g_aload_n C0 2 d_law_550 rfl rfl ?_
  refine g_aload_n C0 0 d_law_551 rfl rfl ?_
  refine g_iload_n C0 3 d_law_552 rfl rfl ?_
  refine g_iconst C0 (v := nI 1) d_law_553 (by decide) ?_
  refine g_iadd C0 d_law_554 ?_
  refine g_sld C0 hX hbl (Nat.not_le.mpr hbl) (i + 1) (by omega) (by omega) (nI_add i 1) d_law_555 ?_
  refine g_aload_n C0 0 d_law_556 rfl rfl ?_
  refine g_iload_n C0 3 d_law_557 rfl rfl ?_
  refine g_iconst C0 (v := nI 2) d_law_558 (by decide) ?_
  refine g_iadd C0 d_law_559 ?_
  refine g_sld C0 hX hbl (Nat.not_le.mpr hbl) (i + 2) (by omega) (by omega) (nI_add i 2) d_law_560 ?_
  refine g_aload_n C0 0 d_law_561 rfl rfl ?_
  refine g_iload_n C0 3 d_law_562 rfl rfl ?_
  refine g_iconst C0 (v := nI 3) d_law_563 (by decide) ?_
  refine g_iadd C0 d_law_564 ?_
  refine g_sld C0 hX hbl (Nat.not_le.mpr hbl) (i + 3) (by omega) (by omega) (nI_add i 3) d_law_565 ?_
  refine g_calli C0 (nd_WLw b0 b1) lM rfl (sub_WLw_M b0 b1) (runV C0 (m_M_mute l K ad h N (xs (i + 1)) (xs (i + 2)) (xs (i + 3)) z2) 3 rfl ⟨t_1432, t_1433, t_1434, t_97, t_1435⟩ cd_M_mute ⟨Nat.le_of_ble_eq_true rfl, Nat.le_of_ble_eq_true rfl, rfl, rfl, hc0, hs0⟩ 34 rfl rfl (sub_WLw_M b0 b1) nd_M rfl rfl (Nat.le_of_ble_eq_true rfl) d_law_566) ?_
  refine g_icmp_eq C0 (tgt := 995) d_law_569 (by decide) (fun _ => ?_) (fun z => absurd rfl z)
  refine g_widen (k := cells + 4) (n := slots + 77) (by omega) (by omega) ?_
  exact nx b0 b1 ad _ hI2
theorem law_round {p : Program} {l : Launch} {e : Env} {s : State} {m : MethodId} {below : List Frame} {meth : Method} {c : Code} {K : KT} {b Ln : Nat} {xs : Nat → Int32} (C0 : Cx p s m #[Value.ref b] meth c code R_law 4 K (fun q : Nat => s.heap.size ≤ q)) (hX : va_X b Ln xs s s.heap) (hbl : b < s.heap.size) (hL : Ln ≤ 256) {N : Nat} {Inv : Nat → Bool → Bool → Hp → Prop} (HM : MO_round N Inv) (i k : Nat) (hi : i + 4 ≤ Ln) (hk : k < 64) (b0 b1 : Bool) (ad : Nat → Nat) (h : Hp) (hI : Inv k b0 b1 h) {cells slots : Nat} (hc : cells + 4 ≤ room_1.cells) (hs : slots + 77 ≤ room_1.slots)
    (nx : ∀ (d0 d1 : Bool) (ad' : Nat → Nat) (h' : Hp), Inv (k + 1) d0 d1 h' → G p l e room_1 s m #[Value.ref b] below meth c K (fun q : Nat => s.heap.size ≤ q) (WLw d0 d1) 4 (cells + 4) (slots + 77) (lw_Z below #[Value.ref b] s) 995 [(0, .ref b), (1, .ref (ad' 0)), (2, .ref (ad' 100)), (3, .int (nI i))] [] ad' h') :
    G p l e room_1 s m #[Value.ref b] below meth c K (fun q : Nat => s.heap.size ≤ q) (WLw b0 b1) 4 cells slots (lw_Z below #[Value.ref b] s) 574 [(0, .ref b), (1, .ref (ad 0)), (2, .ref (ad 100)), (3, .int (nI i))] [] ad h := by
  have hc0 : cells ≤ room_1.cells := by omega
  have hs0 : slots ≤ room_1.slots := by omega
  obtain ⟨r, h2, z1, z2, hI2⟩ := HM k b0 b1 h (xs (i + 1)) (xs (i + 2)) hk hI
  refine g_aload_n C0 1 d_law_574 rfl rfl ?_
  refine g_aload_n C0 0 d_law_575 rfl rfl ?_
  refine g_iload_n C0 3 d_law_576 rfl rfl ?_
  refine g_iconst C0 (v := nI 1) d_law_577 (by decide) ?_
  refine g_iadd C0 d_law_578 ?_
  refine g_sld C0 hX hbl (Nat.not_le.mpr hbl) (i + 1) (by omega) (by omega) (nI_add i 1) d_law_579 ?_
  refine g_aload_n C0 0 d_law_580 rfl rfl ?_
  refine g_iload_n C0 3 d_law_581 rfl rfl ?_
  refine g_iconst C0 (v := nI 2) d_law_582 (by decide) ?_
  refine g_iadd C0 d_law_583 ?_
  refine g_sld C0 hX hbl (Nat.not_le.mpr hbl) (i + 2) (by omega) (by omega) (nI_add i 2) d_law_584 ?_
  refine g_calliP C0 (nd_WLw b0 b1) lC rfl (sub_WLw_C b0 b1) (runV C0 (m_C_round l K ad h N (xs (i + 1)) (xs (i + 2)) z1) 2 rfl ⟨t_905, t_906, t_907, t_85, t_908⟩ cd_C_round ⟨Nat.le_of_ble_eq_true rfl, Nat.le_of_ble_eq_true rfl, rfl, rfl, hc0, hs0⟩ 0 rfl rfl (sub_WLw_C b0 b1) nd_C rfl rfl (Nat.le_of_ble_eq_true rfl) d_law_585) ?_
  refine g_aload_n C0 2 d_law_588 rfl rfl ?_
  refine g_aload_n C0 0 d_law_589 rfl rfl ?_
  refine g_iload_n C0 3 d_law_590 rfl rfl ?_
  refine g_iconst C0 (v := nI 1) d_law_591 (by decide) ?_
  refine g_iadd C0 d_law_592 ?_
  refine g_sld C0 hX hbl (Nat.not_le.mpr hbl) (i + 1) (by omega) (by omega) (nI_add i 1) d_law_593 ?_
  refine g_aload_n C0 0 d_law_594 rfl rfl ?_
  refine g_iload_n C0 3 d_law_595 rfl rfl ?_
  refine g_iconst C0 (v := nI 2) d_law_596 (by decide) ?_
  refine g_iadd C0 d_law_597 ?_
  refine g_sld C0 hX hbl (Nat.not_le.mpr hbl) (i + 2) (by omega) (by omega) (nI_add i 2) d_law_598 ?_
  refine g_calli C0 (nd_WLw b0 b1) lM rfl (sub_WLw_M b0 b1) (runV C0 (m_M_round l K ad h N (xs (i + 1)) (xs (i + 2)) z2) 2 rfl ⟨t_1441, t_1442, t_1443, t_97, t_1444⟩ cd_M_round ⟨Nat.le_of_ble_eq_true rfl, Nat.le_of_ble_eq_true rfl, rfl, rfl, hc0, hs0⟩ 34 rfl rfl (sub_WLw_M b0 b1) nd_M rfl rfl (Nat.le_of_ble_eq_true rfl) d_law_599) ?_
  refine g_icmp_eq C0 (tgt := 995) d_law_602 (by decide) (fun _ => ?_) (fun z => absurd rfl z)
  refine g_widen (k := cells + 4) (n := slots + 77) (by omega) (by omega) ?_
  exact nx b0 b1 ad _ hI2
theorem law_off {p : Program} {l : Launch} {e : Env} {s : State} {m : MethodId} {below : List Frame} {meth : Method} {c : Code} {K : KT} {b Ln : Nat} {xs : Nat → Int32} (C0 : Cx p s m #[Value.ref b] meth c code R_law 4 K (fun q : Nat => s.heap.size ≤ q)) (hX : va_X b Ln xs s s.heap) (hbl : b < s.heap.size) (hL : Ln ≤ 256) {N : Nat} {Inv : Nat → Bool → Bool → Hp → Prop} (HM : MO_off N Inv) (i k : Nat) (hi : i + 4 ≤ Ln) (hk : k < 64) (b0 b1 : Bool) (ad : Nat → Nat) (h : Hp) (hI : Inv k b0 b1 h) {cells slots : Nat} (hc : cells + 4 ≤ room_1.cells) (hs : slots + 77 ≤ room_1.slots)
    (nx : ∀ (d0 d1 : Bool) (ad' : Nat → Nat) (h' : Hp), Inv (k + 1) d0 d1 h' → G p l e room_1 s m #[Value.ref b] below meth c K (fun q : Nat => s.heap.size ≤ q) (WLw d0 d1) 4 (cells + 4) (slots + 77) (lw_Z below #[Value.ref b] s) 995 [(0, .ref b), (1, .ref (ad' 0)), (2, .ref (ad' 100)), (3, .int (nI i))] [] ad' h') :
    G p l e room_1 s m #[Value.ref b] below meth c K (fun q : Nat => s.heap.size ≤ q) (WLw b0 b1) 4 cells slots (lw_Z below #[Value.ref b] s) 607 [(0, .ref b), (1, .ref (ad 0)), (2, .ref (ad 100)), (3, .int (nI i))] [] ad h := by
  have hc0 : cells ≤ room_1.cells := by omega
  have hs0 : slots ≤ room_1.slots := by omega
  obtain ⟨r, h2, z1, z2, hI2⟩ := HM k b0 b1 h (xs (i + 1)) (xs (i + 2)) (xs (i + 3)) hk hI
  refine g_aload_n C0 1 d_law_607 rfl rfl ?_
  refine g_aload_n C0 0 d_law_608 rfl rfl ?_
  refine g_iload_n C0 3 d_law_609 rfl rfl ?_
  refine g_iconst C0 (v := nI 1) d_law_610 (by decide) ?_
  refine g_iadd C0 d_law_611 ?_
  refine g_sld C0 hX hbl (Nat.not_le.mpr hbl) (i + 1) (by omega) (by omega) (nI_add i 1) d_law_612 ?_
  refine g_aload_n C0 0 d_law_613 rfl rfl ?_
  refine g_iload_n C0 3 d_law_614 rfl rfl ?_
  refine g_iconst C0 (v := nI 2) d_law_615 (by decide) ?_
  refine g_iadd C0 d_law_616 ?_
  refine g_sld C0 hX hbl (Nat.not_le.mpr hbl) (i + 2) (by omega) (by omega) (nI_add i 2) d_law_617 ?_
  refine g_aload_n C0 0 d_law_618 rfl rfl ?_
  refine g_iload_n C0 3 d_law_619 rfl rfl ?_
  refine g_iconst C0 (v := nI 3) d_law_620 (by decide) ?_
  refine g_iadd C0 d_law_621 ?_
  refine g_sld C0 hX hbl (Nat.not_le.mpr hbl) (i + 3) (by omega) (by omega) (nI_add i 3) d_law_622 ?_
  refine g_calliP C0 (nd_WLw b0 b1) lC rfl (sub_WLw_C b0 b1) (runV C0 (m_C_off l K ad h N (xs (i + 1)) (xs (i + 2)) (xs (i + 3)) z1) 3 rfl ⟨t_918, t_919, t_920, t_85, t_921⟩ cd_C_off ⟨Nat.le_of_ble_eq_true rfl, Nat.le_of_ble_eq_true rfl, rfl, rfl, hc0, hs0⟩ 0 rfl rfl (sub_WLw_C b0 b1) nd_C rfl rfl (Nat.le_of_ble_eq_true rfl) d_law_623) ?_
  refine g_aload_n C0 2 d_law_626 rfl rfl ?_
  refine g_aload_n C0 0 d_law_627 rfl rfl ?_
  refine g_iload_n C0 3 d_law_628 rfl rfl ?_
  refine g_iconst C0 (v := nI 1) d_law_629 (by decide) ?_
  refine g_iadd C0 d_law_630 ?_
  refine g_sld C0 hX hbl (Nat.not_le.mpr hbl) (i + 1) (by omega) (by omega) (nI_add i 1) d_law_631 ?_
  refine g_aload_n C0 0 d_law_632 rfl rfl ?_
  refine g_iload_n C0 3 d_law_633 rfl rfl ?_
  refine g_iconst C0 (v := nI 2) d_law_634 (by decide) ?_
  refine g_iadd C0 d_law_635 ?_
  refine g_sld C0 hX hbl (Nat.not_le.mpr hbl) (i + 2) (by omega) (by omega) (nI_add i 2) d_law_636 ?_
  refine g_aload_n C0 0 d_law_637 rfl rfl ?_
  refine g_iload_n C0 3 d_law_638 rfl rfl ?_
  refine g_iconst C0 (v := nI 3) d_law_639 (by decide) ?_
  refine g_iadd C0 d_law_640 ?_
  refine g_sld C0 hX hbl (Nat.not_le.mpr hbl) (i + 3) (by omega) (by omega) (nI_add i 3) d_law_641 ?_
  refine g_calli C0 (nd_WLw b0 b1) lM rfl (sub_WLw_M b0 b1) (runV C0 (m_M_off l K ad h N (xs (i + 1)) (xs (i + 2)) (xs (i + 3)) z2) 3 rfl ⟨t_1445, t_1446, t_1447, t_97, t_1448⟩ cd_M_off ⟨Nat.le_of_ble_eq_true rfl, Nat.le_of_ble_eq_true rfl, rfl, rfl, hc0, hs0⟩ 34 rfl rfl (sub_WLw_M b0 b1) nd_M rfl rfl (Nat.le_of_ble_eq_true rfl) d_law_642) ?_
  refine g_icmp_eq C0 (tgt := 995) d_law_645 (by decide) (fun _ => ?_) (fun z => absurd rfl z)
  refine g_widen (k := cells + 4) (n := slots + 77) (by omega) (by omega) ?_
  exact nx b0 b1 ad _ hI2
theorem law_best {p : Program} {l : Launch} {e : Env} {s : State} {m : MethodId} {below : List Frame} {meth : Method} {c : Code} {K : KT} {b Ln : Nat} {xs : Nat → Int32} (C0 : Cx p s m #[Value.ref b] meth c code R_law 4 K (fun q : Nat => s.heap.size ≤ q)) (hX : va_X b Ln xs s s.heap) (hbl : b < s.heap.size) (hL : Ln ≤ 256) {N : Nat} {Inv : Nat → Bool → Bool → Hp → Prop} (HM : MO_best N Inv) (i k : Nat) (hi : i + 4 ≤ Ln) (hk : k < 64) (b0 b1 : Bool) (ad : Nat → Nat) (h : Hp) (hI : Inv k b0 b1 h) {cells slots : Nat} (hc : cells + 4 ≤ room_1.cells) (hs : slots + 77 ≤ room_1.slots)
    (nx : ∀ (d0 d1 : Bool) (ad' : Nat → Nat) (h' : Hp), Inv (k + 1) d0 d1 h' → G p l e room_1 s m #[Value.ref b] below meth c K (fun q : Nat => s.heap.size ≤ q) (WLw d0 d1) 4 (cells + 4) (slots + 77) (lw_Z below #[Value.ref b] s) 995 [(0, .ref b), (1, .ref (ad' 0)), (2, .ref (ad' 100)), (3, .int (nI i))] [] ad' h') :
    G p l e room_1 s m #[Value.ref b] below meth c K (fun q : Nat => s.heap.size ≤ q) (WLw b0 b1) 4 cells slots (lw_Z below #[Value.ref b] s) 650 [(0, .ref b), (1, .ref (ad 0)), (2, .ref (ad 100)), (3, .int (nI i))] [] ad h := by
  have hc0 : cells ≤ room_1.cells := by omega
  have hs0 : slots ≤ room_1.slots := by omega
  obtain ⟨r, h2, z1, z2, hI2⟩ := HM k b0 b1 h (xs (i + 1)) hk hI
  refine g_aload_n C0 1 d_law_650 rfl rfl ?_
  refine g_aload_n C0 0 d_law_651 rfl rfl ?_
  refine g_iload_n C0 3 d_law_652 rfl rfl ?_
  refine g_iconst C0 (v := nI 1) d_law_653 (by decide) ?_
  refine g_iadd C0 d_law_654 ?_
  refine g_sld C0 hX hbl (Nat.not_le.mpr hbl) (i + 1) (by omega) (by omega) (nI_add i 1) d_law_655 ?_
  refine g_calliP C0 (nd_WLw b0 b1) lC rfl (sub_WLw_C b0 b1) (runV C0 (m_C_best l K ad h N (xs (i + 1)) z1) 1 rfl ⟨t_928, t_929, t_930, t_85, t_931⟩ cd_C_best ⟨Nat.le_of_ble_eq_true rfl, Nat.le_of_ble_eq_true rfl, rfl, rfl, hc0, hs0⟩ 0 rfl rfl (sub_WLw_C b0 b1) nd_C rfl rfl (Nat.le_of_ble_eq_true rfl) d_law_656) ?_
  refine g_aload_n C0 2 d_law_659 rfl rfl ?_
  refine g_aload_n C0 0 d_law_660 rfl rfl ?_
  refine g_iload_n C0 3 d_law_661 rfl rfl ?_
  refine g_iconst C0 (v := nI 1) d_law_662 (by decide) ?_
  refine g_iadd C0 d_law_663 ?_
  refine g_sld C0 hX hbl (Nat.not_le.mpr hbl) (i + 1) (by omega) (by omega) (nI_add i 1) d_law_664 ?_
  refine g_calli C0 (nd_WLw b0 b1) lM rfl (sub_WLw_M b0 b1) (runV C0 (m_M_best l K ad h N (xs (i + 1)) z2) 1 rfl ⟨t_1453, t_1454, t_1455, t_97, t_1456⟩ cd_M_best ⟨Nat.le_of_ble_eq_true rfl, Nat.le_of_ble_eq_true rfl, rfl, rfl, hc0, hs0⟩ 34 rfl rfl (sub_WLw_M b0 b1) nd_M rfl rfl (Nat.le_of_ble_eq_true rfl) d_law_665) ?_
  refine g_icmp_eq C0 (tgt := 995) d_law_668 (by decide) (fun _ => ?_) (fun z => absurd rfl z)
  refine g_widen (k := cells + 4) (n := slots + 77) (by omega) (by omega) ?_
  exact nx b0 b1 ad _ hI2
theorem law_still {p : Program} {l : Launch} {e : Env} {s : State} {m : MethodId} {below : List Frame} {meth : Method} {c : Code} {K : KT} {b Ln : Nat} {xs : Nat → Int32} (C0 : Cx p s m #[Value.ref b] meth c code R_law 4 K (fun q : Nat => s.heap.size ≤ q)) (hX : va_X b Ln xs s s.heap) (hbl : b < s.heap.size) (hL : Ln ≤ 256) {N : Nat} {Inv : Nat → Bool → Bool → Hp → Prop} (HM : MO_still N Inv) (i k : Nat) (hi : i + 4 ≤ Ln) (hk : k < 64) (b0 b1 : Bool) (ad : Nat → Nat) (h : Hp) (hI : Inv k b0 b1 h) {cells slots : Nat} (hc : cells + 4 ≤ room_1.cells) (hs : slots + 77 ≤ room_1.slots)
    (nx : ∀ (d0 d1 : Bool) (ad' : Nat → Nat) (h' : Hp), Inv (k + 1) d0 d1 h' → G p l e room_1 s m #[Value.ref b] below meth c K (fun q : Nat => s.heap.size ≤ q) (WLw d0 d1) 4 (cells + 4) (slots + 77) (lw_Z below #[Value.ref b] s) 995 [(0, .ref b), (1, .ref (ad' 0)), (2, .ref (ad' 100)), (3, .int (nI i))] [] ad' h') :
    G p l e room_1 s m #[Value.ref b] below meth c K (fun q : Nat => s.heap.size ≤ q) (WLw b0 b1) 4 cells slots (lw_Z below #[Value.ref b] s) 673 [(0, .ref b), (1, .ref (ad 0)), (2, .ref (ad 100)), (3, .int (nI i))] [] ad h := by
  have hc0 : cells ≤ room_1.cells := by omega
  have hs0 : slots ≤ room_1.slots := by omega
  obtain ⟨r, h2, z1, z2, hI2⟩ := HM k b0 b1 h (xs (i + 1)) hk hI
  refine g_aload_n C0 1 d_law_673 rfl rfl ?_
  refine g_aload_n C0 0 d_law_674 rfl rfl ?_
  refine g_iload_n C0 3 d_law_675 rfl rfl ?_
  refine g_iconst C0 (v := nI 1) d_law_676 (by decide) ?_
  refine g_iadd C0 d_law_677 ?_
  refine g_sld C0 hX hbl (Nat.not_le.mpr hbl) (i + 1) (by omega) (by omega) (nI_add i 1) d_law_678 ?_
  refine g_calliP C0 (nd_WLw b0 b1) lC rfl (sub_WLw_C b0 b1) (runV C0 (m_C_still l K ad h N (xs (i + 1)) z1) 1 rfl ⟨t_933, t_934, t_935, t_85, t_936⟩ cd_C_still ⟨Nat.le_of_ble_eq_true rfl, Nat.le_of_ble_eq_true rfl, rfl, rfl, hc0, hs0⟩ 0 rfl rfl (sub_WLw_C b0 b1) nd_C rfl rfl (Nat.le_of_ble_eq_true rfl) d_law_679) ?_
  refine g_aload_n C0 2 d_law_682 rfl rfl ?_
  refine g_aload_n C0 0 d_law_683 rfl rfl ?_
  refine g_iload_n C0 3 d_law_684 rfl rfl ?_
  refine g_iconst C0 (v := nI 1) d_law_685 (by decide) ?_
  refine g_iadd C0 d_law_686 ?_
  refine g_sld C0 hX hbl (Nat.not_le.mpr hbl) (i + 1) (by omega) (by omega) (nI_add i 1) d_law_687 ?_
  refine g_calli C0 (nd_WLw b0 b1) lM rfl (sub_WLw_M b0 b1) (runV C0 (m_M_still l K ad h N (xs (i + 1)) z2) 1 rfl ⟨t_1458, t_1459, t_1460, t_97, t_1461⟩ cd_M_still ⟨Nat.le_of_ble_eq_true rfl, Nat.le_of_ble_eq_true rfl, rfl, rfl, hc0, hs0⟩ 34 rfl rfl (sub_WLw_M b0 b1) nd_M rfl rfl (Nat.le_of_ble_eq_true rfl) d_law_688) ?_
  refine g_icmp_eq C0 (tgt := 995) d_law_691 (by decide) (fun _ => ?_) (fun z => absurd rfl z)
  refine g_widen (k := cells + 4) (n := slots + 77) (by omega) (by omega) ?_
  exact nx b0 b1 ad _ hI2
theorem law_surely {p : Program} {l : Launch} {e : Env} {s : State} {m : MethodId} {below : List Frame} {meth : Method} {c : Code} {K : KT} {b Ln : Nat} {xs : Nat → Int32} (C0 : Cx p s m #[Value.ref b] meth c code R_law 4 K (fun q : Nat => s.heap.size ≤ q)) (hX : va_X b Ln xs s s.heap) (hbl : b < s.heap.size) (hL : Ln ≤ 256) {N : Nat} {Inv : Nat → Bool → Bool → Hp → Prop} (HM : MO_surely N Inv) (i k : Nat) (hi : i + 4 ≤ Ln) (hk : k < 64) (b0 b1 : Bool) (ad : Nat → Nat) (h : Hp) (hI : Inv k b0 b1 h) {cells slots : Nat} (hc : cells + 4 ≤ room_1.cells) (hs : slots + 77 ≤ room_1.slots)
    (nx : ∀ (d0 d1 : Bool) (ad' : Nat → Nat) (h' : Hp), Inv (k + 1) d0 d1 h' → G p l e room_1 s m #[Value.ref b] below meth c K (fun q : Nat => s.heap.size ≤ q) (WLw d0 d1) 4 (cells + 4) (slots + 77) (lw_Z below #[Value.ref b] s) 995 [(0, .ref b), (1, .ref (ad' 0)), (2, .ref (ad' 100)), (3, .int (nI i))] [] ad' h') :
    G p l e room_1 s m #[Value.ref b] below meth c K (fun q : Nat => s.heap.size ≤ q) (WLw b0 b1) 4 cells slots (lw_Z below #[Value.ref b] s) 696 [(0, .ref b), (1, .ref (ad 0)), (2, .ref (ad 100)), (3, .int (nI i))] [] ad h := by
  have hc0 : cells ≤ room_1.cells := by omega
  have hs0 : slots ≤ room_1.slots := by omega
  obtain ⟨r, h1, h2, z1, z2, hI2⟩ := HM k b0 b1 h (xs (i + 1)) hk hI
  refine g_aload_n C0 1 d_law_696 rfl rfl ?_
  refine g_aload_n C0 0 d_law_697 rfl rfl ?_
  refine g_iload_n C0 3 d_law_698 rfl rfl ?_
  refine g_iconst C0 (v := nI 1) d_law_699 (by decide) ?_
  refine g_iadd C0 d_law_700 ?_
  refine g_sld C0 hX hbl (Nat.not_le.mpr hbl) (i + 1) (by omega) (by omega) (nI_add i 1) d_law_701 ?_
  refine g_calli C0 (nd_WLw b0 b1) lC rfl (sub_WLw_C b0 b1) (runV C0 (m_C_surely l K ad h N (xs (i + 1)) z1) 1 rfl ⟨t_944, t_945, t_946, t_85, t_947⟩ cd_C_surely ⟨Nat.le_of_ble_eq_true rfl, Nat.le_of_ble_eq_true rfl, rfl, rfl, hc0, hs0⟩ 0 rfl rfl (sub_WLw_C b0 b1) nd_C rfl rfl (Nat.le_of_ble_eq_true rfl) d_law_702) ?_
  refine g_aload_n C0 2 d_law_705 rfl rfl ?_
  refine g_aload_n C0 0 d_law_706 rfl rfl ?_
  refine g_iload_n C0 3 d_law_707 rfl rfl ?_
  refine g_iconst C0 (v := nI 1) d_law_708 (by decide) ?_
  refine g_iadd C0 d_law_709 ?_
  refine g_sld C0 hX hbl (Nat.not_le.mpr hbl) (i + 1) (by omega) (by omega) (nI_add i 1) d_law_710 ?_
  refine g_calli C0 (nd_WLw b0 b1) lM rfl (sub_WLw_M b0 b1) (runV C0 (m_M_surely l K ad (mx lC h1 h) N (xs (i + 1)) z2) 1 rfl ⟨t_1466, t_1467, t_1468, t_97, t_1469⟩ cd_M_surely ⟨Nat.le_of_ble_eq_true rfl, Nat.le_of_ble_eq_true rfl, rfl, rfl, hc0, hs0⟩ 34 rfl rfl (sub_WLw_M b0 b1) nd_M rfl rfl (Nat.le_of_ble_eq_true rfl) d_law_711) ?_
  refine g_icmp_eq C0 (tgt := 995) d_law_714 (by decide) (fun _ => ?_) (fun z => absurd rfl z)
  refine g_widen (k := cells + 4) (n := slots + 77) (by omega) (by omega) ?_
  exact nx b0 b1 ad _ hI2
theorem law_alone {p : Program} {l : Launch} {e : Env} {s : State} {m : MethodId} {below : List Frame} {meth : Method} {c : Code} {K : KT} {b Ln : Nat} {xs : Nat → Int32} (C0 : Cx p s m #[Value.ref b] meth c code R_law 4 K (fun q : Nat => s.heap.size ≤ q)) (hX : va_X b Ln xs s s.heap) (hbl : b < s.heap.size) (hL : Ln ≤ 256) {N : Nat} {Inv : Nat → Bool → Bool → Hp → Prop} (HM : MO_alone N Inv) (i k : Nat) (hi : i + 4 ≤ Ln) (hk : k < 64) (b0 b1 : Bool) (ad : Nat → Nat) (h : Hp) (hI : Inv k b0 b1 h) {cells slots : Nat} (hc : cells + 4 ≤ room_1.cells) (hs : slots + 77 ≤ room_1.slots)
    (nx : ∀ (d0 d1 : Bool) (ad' : Nat → Nat) (h' : Hp), Inv (k + 1) d0 d1 h' → G p l e room_1 s m #[Value.ref b] below meth c K (fun q : Nat => s.heap.size ≤ q) (WLw d0 d1) 4 (cells + 4) (slots + 77) (lw_Z below #[Value.ref b] s) 995 [(0, .ref b), (1, .ref (ad' 0)), (2, .ref (ad' 100)), (3, .int (nI i))] [] ad' h') :
    G p l e room_1 s m #[Value.ref b] below meth c K (fun q : Nat => s.heap.size ≤ q) (WLw b0 b1) 4 cells slots (lw_Z below #[Value.ref b] s) 719 [(0, .ref b), (1, .ref (ad 0)), (2, .ref (ad 100)), (3, .int (nI i))] [] ad h := by
  have hc0 : cells ≤ room_1.cells := by omega
  have hs0 : slots ≤ room_1.slots := by omega
  obtain ⟨r, h1, h2, z1, z2, hI2⟩ := HM k b0 b1 h hk hI
  refine g_aload_n C0 1 d_law_719 rfl rfl ?_
  refine g_calli C0 (nd_WLw b0 b1) lC rfl (sub_WLw_C b0 b1) (runV C0 (m_C_alone l K ad h N z1) 0 rfl ⟨t_972, t_973, t_974, t_85, t_975⟩ cd_C_alone ⟨Nat.le_of_ble_eq_true rfl, Nat.le_of_ble_eq_true rfl, rfl, rfl, hc0, hs0⟩ 0 rfl rfl (sub_WLw_C b0 b1) nd_C rfl rfl (Nat.le_of_ble_eq_true rfl) d_law_720) ?_
  refine g_aload_n C0 2 d_law_723 rfl rfl ?_
  refine g_calli C0 (nd_WLw b0 b1) lM rfl (sub_WLw_M b0 b1) (runV C0 (m_M_alone l K ad (mx lC h1 h) N z2) 0 rfl ⟨t_1410, t_1411, t_1412, t_97, t_1413⟩ cd_M_alone ⟨Nat.le_of_ble_eq_true rfl, Nat.le_of_ble_eq_true rfl, rfl, rfl, hc0, hs0⟩ 34 rfl rfl (sub_WLw_M b0 b1) nd_M rfl rfl (Nat.le_of_ble_eq_true rfl) d_law_724) ?_
  refine g_icmp_eq C0 (tgt := 995) d_law_727 (by decide) (fun _ => ?_) (fun z => absurd rfl z)
  refine g_widen (k := cells + 4) (n := slots + 77) (by omega) (by omega) ?_
  exact nx b0 b1 ad _ hI2
theorem law_third {p : Program} {l : Launch} {e : Env} {s : State} {m : MethodId} {below : List Frame} {meth : Method} {c : Code} {K : KT} {b Ln : Nat} {xs : Nat → Int32} (C0 : Cx p s m #[Value.ref b] meth c code R_law 4 K (fun q : Nat => s.heap.size ≤ q)) (hX : va_X b Ln xs s s.heap) (hbl : b < s.heap.size) (hL : Ln ≤ 256) {N : Nat} {Inv : Nat → Bool → Bool → Hp → Prop} (HM : MO_third N Inv) (i k : Nat) (hi : i + 4 ≤ Ln) (hk : k < 64) (b0 b1 : Bool) (ad : Nat → Nat) (h : Hp) (hI : Inv k b0 b1 h) {cells slots : Nat} (hc : cells + 4 ≤ room_1.cells) (hs : slots + 77 ≤ room_1.slots)
    (nx : ∀ (d0 d1 : Bool) (ad' : Nat → Nat) (h' : Hp), Inv (k + 1) d0 d1 h' → G p l e room_1 s m #[Value.ref b] below meth c K (fun q : Nat => s.heap.size ≤ q) (WLw d0 d1) 4 (cells + 4) (slots + 77) (lw_Z below #[Value.ref b] s) 995 [(0, .ref b), (1, .ref (ad' 0)), (2, .ref (ad' 100)), (3, .int (nI i))] [] ad' h') :
    G p l e room_1 s m #[Value.ref b] below meth c K (fun q : Nat => s.heap.size ≤ q) (WLw b0 b1) 4 cells slots (lw_Z below #[Value.ref b] s) 732 [(0, .ref b), (1, .ref (ad 0)), (2, .ref (ad 100)), (3, .int (nI i))] [] ad h := by
  have hc0 : cells ≤ room_1.cells := by omega
  have hs0 : slots ≤ room_1.slots := by omega
  obtain ⟨r, h1, h2, z1, z2, hI2⟩ := HM k b0 b1 h (xs (i + 1)) hk hI
  refine g_aload_n C0 1 d_law_732 rfl rfl ?_
  refine g_aload_n C0 0 d_law_733 rfl rfl ?_
  refine g_iload_n C0 3 d_law_734 rfl rfl ?_
  refine g_iconst C0 (v := nI 1) d_law_735 (by decide) ?_
  refine g_iadd C0 d_law_736 ?_
  refine g_sld C0 hX hbl (Nat.not_le.mpr hbl) (i + 1) (by omega) (by omega) (nI_add i 1) d_law_737 ?_
  refine g_calli C0 (nd_WLw b0 b1) lC rfl (sub_WLw_C b0 b1) (runV C0 (m_C_third l K ad h N (xs (i + 1)) z1) 1 rfl ⟨t_976, t_977, t_978, t_85, t_979⟩ cd_C_third ⟨Nat.le_of_ble_eq_true rfl, Nat.le_of_ble_eq_true rfl, rfl, rfl, hc0, hs0⟩ 0 rfl rfl (sub_WLw_C b0 b1) nd_C rfl rfl (Nat.le_of_ble_eq_true rfl) d_law_738) ?_
  refine g_aload_n C0 2 d_law_741 rfl rfl ?_
  refine g_aload_n C0 0 d_law_742 rfl rfl ?_
  refine g_iload_n C0 3 d_law_743 rfl rfl ?_
  refine g_iconst C0 (v := nI 1) d_law_744 (by decide) ?_
  refine g_iadd C0 d_law_745 ?_
  refine g_sld C0 hX hbl (Nat.not_le.mpr hbl) (i + 1) (by omega) (by omega) (nI_add i 1) d_law_746 ?_
  refine g_calli C0 (nd_WLw b0 b1) lM rfl (sub_WLw_M b0 b1) (runV C0 (m_M_third l K ad (mx lC h1 h) N (xs (i + 1)) z2) 1 rfl ⟨t_1414, t_1415, t_1416, t_97, t_1417⟩ cd_M_third ⟨Nat.le_of_ble_eq_true rfl, Nat.le_of_ble_eq_true rfl, rfl, rfl, hc0, hs0⟩ 34 rfl rfl (sub_WLw_M b0 b1) nd_M rfl rfl (Nat.le_of_ble_eq_true rfl) d_law_747) ?_
  refine g_icmp_eq C0 (tgt := 995) d_law_750 (by decide) (fun _ => ?_) (fun z => absurd rfl z)
  refine g_widen (k := cells + 4) (n := slots + 77) (by omega) (by omega) ?_
  exact nx b0 b1 ad _ hI2
theorem law_rules {p : Program} {l : Launch} {e : Env} {s : State} {m : MethodId} {below : List Frame} {meth : Method} {c : Code} {K : KT} {b Ln : Nat} {xs : Nat → Int32} (C0 : Cx p s m #[Value.ref b] meth c code R_law 4 K (fun q : Nat => s.heap.size ≤ q)) (hX : va_X b Ln xs s s.heap) (hbl : b < s.heap.size) (hL : Ln ≤ 256) {N : Nat} {Inv : Nat → Bool → Bool → Hp → Prop} (HM : MO_rules N Inv) (i k : Nat) (hi : i + 4 ≤ Ln) (hk : k < 64) (b0 b1 : Bool) (ad : Nat → Nat) (h : Hp) (hI : Inv k b0 b1 h) {cells slots : Nat} (hc : cells + 4 ≤ room_1.cells) (hs : slots + 77 ≤ room_1.slots)
    (nx : ∀ (d0 d1 : Bool) (ad' : Nat → Nat) (h' : Hp), Inv (k + 1) d0 d1 h' → G p l e room_1 s m #[Value.ref b] below meth c K (fun q : Nat => s.heap.size ≤ q) (WLw d0 d1) 4 (cells + 4) (slots + 77) (lw_Z below #[Value.ref b] s) 995 [(0, .ref b), (1, .ref (ad' 0)), (2, .ref (ad' 100)), (3, .int (nI i))] [] ad' h') :
    G p l e room_1 s m #[Value.ref b] below meth c K (fun q : Nat => s.heap.size ≤ q) (WLw b0 b1) 4 cells slots (lw_Z below #[Value.ref b] s) 755 [(0, .ref b), (1, .ref (ad 0)), (2, .ref (ad 100)), (3, .int (nI i))] [] ad h := by
  have hc0 : cells ≤ room_1.cells := by omega
  have hs0 : slots ≤ room_1.slots := by omega
  obtain ⟨r, h2, z1, z2, hI2⟩ := HM k b0 b1 h (xs (i + 1)) hk hI
  refine g_aload_n C0 1 d_law_755 rfl rfl ?_
  refine g_aload_n C0 0 d_law_756 rfl rfl ?_
  refine g_iload_n C0 3 d_law_757 rfl rfl ?_
  refine g_iconst C0 (v := nI 1) d_law_758 (by decide) ?_
  refine g_iadd C0 d_law_759 ?_
  refine g_sld C0 hX hbl (Nat.not_le.mpr hbl) (i + 1) (by omega) (by omega) (nI_add i 1) d_law_760 ?_
  refine g_calliP C0 (nd_WLw b0 b1) lC rfl (sub_WLw_C b0 b1) (runV C0 (m_C_rules l K ad h N (xs (i + 1)) z1) 1 rfl ⟨t_980, t_981, t_982, t_85, t_983⟩ cd_C_rules ⟨Nat.le_of_ble_eq_true rfl, Nat.le_of_ble_eq_true rfl, rfl, rfl, hc0, hs0⟩ 0 rfl rfl (sub_WLw_C b0 b1) nd_C rfl rfl (Nat.le_of_ble_eq_true rfl) d_law_761) ?_
  refine g_aload_n C0 2 d_law_764 rfl rfl ?_
  refine g_aload_n C0 0 d_law_765 rfl rfl ?_
  refine g_iload_n C0 3 d_law_766 rfl rfl ?_
  refine g_iconst C0 (v := nI 1) d_law_767 (by decide) ?_
  refine g_iadd C0 d_law_768 ?_
  refine g_sld C0 hX hbl (Nat.not_le.mpr hbl) (i + 1) (by omega) (by omega) (nI_add i 1) d_law_769 ?_
  refine g_calli C0 (nd_WLw b0 b1) lM rfl (sub_WLw_M b0 b1) (runV C0 (m_M_rules l K ad h N (xs (i + 1)) z2) 1 rfl ⟨t_1482, t_1483, t_1484, t_97, t_1485⟩ cd_M_rules ⟨Nat.le_of_ble_eq_true rfl, Nat.le_of_ble_eq_true rfl, rfl, rfl, hc0, hs0⟩ 34 rfl rfl (sub_WLw_M b0 b1) nd_M rfl rfl (Nat.le_of_ble_eq_true rfl) d_law_770) ?_
  refine g_icmp_eq C0 (tgt := 995) d_law_773 (by decide) (fun _ => ?_) (fun z => absurd rfl z)
  refine g_widen (k := cells + 4) (n := slots + 77) (by omega) (by omega) ?_
  exact nx b0 b1 ad _ hI2
theorem law_line {p : Program} {l : Launch} {e : Env} {s : State} {m : MethodId} {below : List Frame} {meth : Method} {c : Code} {K : KT} {b Ln : Nat} {xs : Nat → Int32} (C0 : Cx p s m #[Value.ref b] meth c code R_law 4 K (fun q : Nat => s.heap.size ≤ q)) (hX : va_X b Ln xs s s.heap) (hbl : b < s.heap.size) (hL : Ln ≤ 256) {N : Nat} {Inv : Nat → Bool → Bool → Hp → Prop} (HM : MO_line N Inv) (i k : Nat) (hi : i + 4 ≤ Ln) (hk : k < 64) (b0 b1 : Bool) (ad : Nat → Nat) (h : Hp) (hI : Inv k b0 b1 h) {cells slots : Nat} (hc : cells + 4 ≤ room_1.cells) (hs : slots + 77 ≤ room_1.slots)
    (nx : ∀ (d0 d1 : Bool) (ad' : Nat → Nat) (h' : Hp), Inv (k + 1) d0 d1 h' → G p l e room_1 s m #[Value.ref b] below meth c K (fun q : Nat => s.heap.size ≤ q) (WLw d0 d1) 4 (cells + 4) (slots + 77) (lw_Z below #[Value.ref b] s) 995 [(0, .ref b), (1, .ref (ad' 0)), (2, .ref (ad' 100)), (3, .int (nI i))] [] ad' h') :
    G p l e room_1 s m #[Value.ref b] below meth c K (fun q : Nat => s.heap.size ≤ q) (WLw b0 b1) 4 cells slots (lw_Z below #[Value.ref b] s) 778 [(0, .ref b), (1, .ref (ad 0)), (2, .ref (ad 100)), (3, .int (nI i))] [] ad h := by
  have hc0 : cells ≤ room_1.cells := by omega
  have hs0 : slots ≤ room_1.slots := by omega
  obtain ⟨r, h1, h2, z1, z2, hI2⟩ := HM k b0 b1 h (xs (i + 1)) (xs (i + 2)) hk hI
  refine g_aload_n C0 1 d_law_778 rfl rfl ?_
  refine g_aload_n C0 0 d_law_779 rfl rfl ?_
  refine g_iload_n C0 3 d_law_780 rfl rfl ?_
  refine g_iconst C0 (v := nI 1) d_law_781 (by decide) ?_
  refine g_iadd C0 d_law_782 ?_
  refine g_sld C0 hX hbl (Nat.not_le.mpr hbl) (i + 1) (by omega) (by omega) (nI_add i 1) d_law_783 ?_
  refine g_aload_n C0 0 d_law_784 rfl rfl ?_
  refine g_iload_n C0 3 d_law_785 rfl rfl ?_
  refine g_iconst C0 (v := nI 2) d_law_786 (by decide) ?_
  refine g_iadd C0 d_law_787 ?_
  refine g_sld C0 hX hbl (Nat.not_le.mpr hbl) (i + 2) (by omega) (by omega) (nI_add i 2) d_law_788 ?_
  refine g_calli C0 (nd_WLw b0 b1) lC rfl (sub_WLw_C b0 b1) (runV C0 (m_C_line l K ad h (xs (i + 1)) (xs (i + 2)) z1) 2 rfl ⟨t_991, t_992, t_993, t_85, t_994⟩ cd_C_line ⟨Nat.le_of_ble_eq_true rfl, Nat.le_of_ble_eq_true rfl, rfl, rfl, hc0, hs0⟩ 0 rfl rfl (sub_WLw_C b0 b1) nd_C rfl rfl (Nat.le_of_ble_eq_true rfl) d_law_789) ?_
  refine g_aload_n C0 2 d_law_792 rfl rfl ?_
  refine g_aload_n C0 0 d_law_793 rfl rfl ?_
  refine g_iload_n C0 3 d_law_794 rfl rfl ?_
  refine g_iconst C0 (v := nI 1) d_law_795 (by decide) ?_
  refine g_iadd C0 d_law_796 ?_
  refine g_sld C0 hX hbl (Nat.not_le.mpr hbl) (i + 1) (by omega) (by omega) (nI_add i 1) d_law_797 ?_
  refine g_aload_n C0 0 d_law_798 rfl rfl ?_
  refine g_iload_n C0 3 d_law_799 rfl rfl ?_
  refine g_iconst C0 (v := nI 2) d_law_800 (by decide) ?_
  refine g_iadd C0 d_law_801 ?_
  refine g_sld C0 hX hbl (Nat.not_le.mpr hbl) (i + 2) (by omega) (by omega) (nI_add i 2) d_law_802 ?_
  refine g_calli C0 (nd_WLw b0 b1) lM rfl (sub_WLw_M b0 b1) (runV C0 (m_M_line l K ad (mx lC h1 h) (xs (i + 1)) (xs (i + 2)) z2) 2 rfl ⟨t_1493, t_1494, t_1495, t_97, t_1496⟩ cd_M_line ⟨Nat.le_of_ble_eq_true rfl, Nat.le_of_ble_eq_true rfl, rfl, rfl, hc0, hs0⟩ 34 rfl rfl (sub_WLw_M b0 b1) nd_M rfl rfl (Nat.le_of_ble_eq_true rfl) d_law_803) ?_
  refine g_icmp_eq C0 (tgt := 995) d_law_806 (by decide) (fun _ => ?_) (fun z => absurd rfl z)
  refine g_widen (k := cells + 4) (n := slots + 77) (by omega) (by omega) ?_
  exact nx b0 b1 ad _ hI2
theorem law_fits {p : Program} {l : Launch} {e : Env} {s : State} {m : MethodId} {below : List Frame} {meth : Method} {c : Code} {K : KT} {b Ln : Nat} {xs : Nat → Int32} (C0 : Cx p s m #[Value.ref b] meth c code R_law 4 K (fun q : Nat => s.heap.size ≤ q)) (hX : va_X b Ln xs s s.heap) (hbl : b < s.heap.size) (hL : Ln ≤ 256) {N : Nat} {Inv : Nat → Bool → Bool → Hp → Prop} (HM : MO_fits N Inv) (i k : Nat) (hi : i + 4 ≤ Ln) (hk : k < 64) (b0 b1 : Bool) (ad : Nat → Nat) (h : Hp) (hI : Inv k b0 b1 h) {cells slots : Nat} (hc : cells + 4 ≤ room_1.cells) (hs : slots + 77 ≤ room_1.slots)
    (nx : ∀ (d0 d1 : Bool) (ad' : Nat → Nat) (h' : Hp), Inv (k + 1) d0 d1 h' → G p l e room_1 s m #[Value.ref b] below meth c K (fun q : Nat => s.heap.size ≤ q) (WLw d0 d1) 4 (cells + 4) (slots + 77) (lw_Z below #[Value.ref b] s) 995 [(0, .ref b), (1, .ref (ad' 0)), (2, .ref (ad' 100)), (3, .int (nI i))] [] ad' h') :
    G p l e room_1 s m #[Value.ref b] below meth c K (fun q : Nat => s.heap.size ≤ q) (WLw b0 b1) 4 cells slots (lw_Z below #[Value.ref b] s) 811 [(0, .ref b), (1, .ref (ad 0)), (2, .ref (ad 100)), (3, .int (nI i))] [] ad h := by
  have hc0 : cells ≤ room_1.cells := by omega
  have hs0 : slots ≤ room_1.slots := by omega
  obtain ⟨r, h1, h2, z1, z2, hI2⟩ := HM k b0 b1 h (xs (i + 1)) hk hI
  refine g_aload_n C0 1 d_law_811 rfl rfl ?_
  refine g_aload_n C0 0 d_law_812 rfl rfl ?_
  refine g_iload_n C0 3 d_law_813 rfl rfl ?_
  refine g_iconst C0 (v := nI 1) d_law_814 (by decide) ?_
  refine g_iadd C0 d_law_815 ?_
  refine g_sld C0 hX hbl (Nat.not_le.mpr hbl) (i + 1) (by omega) (by omega) (nI_add i 1) d_law_816 ?_
  refine g_calli C0 (nd_WLw b0 b1) lC rfl (sub_WLw_C b0 b1) (runV C0 (m_C_fits l K ad h N (xs (i + 1)) z1) 1 rfl ⟨t_999, t_1000, t_1001, t_85, t_1002⟩ cd_C_fits ⟨Nat.le_of_ble_eq_true rfl, Nat.le_of_ble_eq_true rfl, rfl, rfl, hc0, hs0⟩ 0 rfl rfl (sub_WLw_C b0 b1) nd_C rfl rfl (Nat.le_of_ble_eq_true rfl) d_law_817) ?_
  refine g_aload_n C0 2 d_law_820 rfl rfl ?_
  refine g_aload_n C0 0 d_law_821 rfl rfl ?_
  refine g_iload_n C0 3 d_law_822 rfl rfl ?_
  refine g_iconst C0 (v := nI 1) d_law_823 (by decide) ?_
  refine g_iadd C0 d_law_824 ?_
  refine g_sld C0 hX hbl (Nat.not_le.mpr hbl) (i + 1) (by omega) (by omega) (nI_add i 1) d_law_825 ?_
  refine g_calli C0 (nd_WLw b0 b1) lM rfl (sub_WLw_M b0 b1) (runV C0 (m_M_fits l K ad (mx lC h1 h) N (xs (i + 1)) z2) 1 rfl ⟨t_1497, t_1498, t_1499, t_97, t_1500⟩ cd_M_fits ⟨Nat.le_of_ble_eq_true rfl, Nat.le_of_ble_eq_true rfl, rfl, rfl, hc0, hs0⟩ 34 rfl rfl (sub_WLw_M b0 b1) nd_M rfl rfl (Nat.le_of_ble_eq_true rfl) d_law_826) ?_
  refine g_icmp_eq C0 (tgt := 995) d_law_829 (by decide) (fun _ => ?_) (fun z => absurd rfl z)
  refine g_widen (k := cells + 4) (n := slots + 77) (by omega) (by omega) ?_
  exact nx b0 b1 ad _ hI2
theorem law_gave {p : Program} {l : Launch} {e : Env} {s : State} {m : MethodId} {below : List Frame} {meth : Method} {c : Code} {K : KT} {b Ln : Nat} {xs : Nat → Int32} (C0 : Cx p s m #[Value.ref b] meth c code R_law 4 K (fun q : Nat => s.heap.size ≤ q)) (hX : va_X b Ln xs s s.heap) (hbl : b < s.heap.size) (hL : Ln ≤ 256) {N : Nat} {Inv : Nat → Bool → Bool → Hp → Prop} (HM : MO_gave N Inv) (i k : Nat) (hi : i + 4 ≤ Ln) (hk : k < 64) (b0 b1 : Bool) (ad : Nat → Nat) (h : Hp) (hI : Inv k b0 b1 h) {cells slots : Nat} (hc : cells + 4 ≤ room_1.cells) (hs : slots + 77 ≤ room_1.slots)
    (nx : ∀ (d0 d1 : Bool) (ad' : Nat → Nat) (h' : Hp), Inv (k + 1) d0 d1 h' → G p l e room_1 s m #[Value.ref b] below meth c K (fun q : Nat => s.heap.size ≤ q) (WLw d0 d1) 4 (cells + 4) (slots + 77) (lw_Z below #[Value.ref b] s) 995 [(0, .ref b), (1, .ref (ad' 0)), (2, .ref (ad' 100)), (3, .int (nI i))] [] ad' h') :
    G p l e room_1 s m #[Value.ref b] below meth c K (fun q : Nat => s.heap.size ≤ q) (WLw b0 b1) 4 cells slots (lw_Z below #[Value.ref b] s) 834 [(0, .ref b), (1, .ref (ad 0)), (2, .ref (ad 100)), (3, .int (nI i))] [] ad h := by
  have hc0 : cells ≤ room_1.cells := by omega
  have hs0 : slots ≤ room_1.slots := by omega
  obtain ⟨r, h1, h2, z1, z2, hI2⟩ := HM k b0 b1 h (xs (i + 1)) hk hI
  refine g_aload_n C0 1 d_law_834 rfl rfl ?_
  refine g_aload_n C0 0 d_law_835 rfl rfl ?_
  refine g_iload_n C0 3 d_law_836 rfl rfl ?_
  refine g_iconst C0 (v := nI 1) d_law_837 (by decide) ?_
  refine g_iadd C0 d_law_838 ?_
  refine g_sld C0 hX hbl (Nat.not_le.mpr hbl) (i + 1) (by omega) (by omega) (nI_add i 1) d_law_839 ?_
  refine g_calli C0 (nd_WLw b0 b1) lC rfl (sub_WLw_C b0 b1) (runV C0 (m_C_gave l K ad h N (xs (i + 1)) z1) 1 rfl ⟨t_1034, t_1035, t_1036, t_85, t_1037⟩ cd_C_gave ⟨Nat.le_of_ble_eq_true rfl, Nat.le_of_ble_eq_true rfl, rfl, rfl, hc0, hs0⟩ 0 rfl rfl (sub_WLw_C b0 b1) nd_C rfl rfl (Nat.le_of_ble_eq_true rfl) d_law_840) ?_
  refine g_aload_n C0 2 d_law_843 rfl rfl ?_
  refine g_aload_n C0 0 d_law_844 rfl rfl ?_
  refine g_iload_n C0 3 d_law_845 rfl rfl ?_
  refine g_iconst C0 (v := nI 1) d_law_846 (by decide) ?_
  refine g_iadd C0 d_law_847 ?_
  refine g_sld C0 hX hbl (Nat.not_le.mpr hbl) (i + 1) (by omega) (by omega) (nI_add i 1) d_law_848 ?_
  refine g_calli C0 (nd_WLw b0 b1) lM rfl (sub_WLw_M b0 b1) (runV C0 (m_M_gave l K ad (mx lC h1 h) N (xs (i + 1)) z2) 1 rfl ⟨t_1509, t_1510, t_1511, t_97, t_1512⟩ cd_M_gave ⟨Nat.le_of_ble_eq_true rfl, Nat.le_of_ble_eq_true rfl, rfl, rfl, hc0, hs0⟩ 34 rfl rfl (sub_WLw_M b0 b1) nd_M rfl rfl (Nat.le_of_ble_eq_true rfl) d_law_849) ?_
  refine g_icmp_eq C0 (tgt := 995) d_law_852 (by decide) (fun _ => ?_) (fun z => absurd rfl z)
  refine g_widen (k := cells + 4) (n := slots + 77) (by omega) (by omega) ?_
  exact nx b0 b1 ad _ hI2
theorem law_write {p : Program} {l : Launch} {e : Env} {s : State} {m : MethodId} {below : List Frame} {meth : Method} {c : Code} {K : KT} {b Ln : Nat} {xs : Nat → Int32} (C0 : Cx p s m #[Value.ref b] meth c code R_law 4 K (fun q : Nat => s.heap.size ≤ q)) (hX : va_X b Ln xs s s.heap) (hbl : b < s.heap.size) (hL : Ln ≤ 256) {N : Nat} {Inv : Nat → Bool → Bool → Hp → Prop} (HM : MO_write N Inv) (i k : Nat) (hi : i + 4 ≤ Ln) (hk : k < 64) (b0 b1 : Bool) (ad : Nat → Nat) (h : Hp) (hI : Inv k b0 b1 h) {cells slots : Nat} (hc : cells + 4 ≤ room_1.cells) (hs : slots + 77 ≤ room_1.slots)
    (nx : ∀ (d0 d1 : Bool) (ad' : Nat → Nat) (h' : Hp), Inv (k + 1) d0 d1 h' → G p l e room_1 s m #[Value.ref b] below meth c K (fun q : Nat => s.heap.size ≤ q) (WLw d0 d1) 4 (cells + 4) (slots + 77) (lw_Z below #[Value.ref b] s) 995 [(0, .ref b), (1, .ref (ad' 0)), (2, .ref (ad' 100)), (3, .int (nI i))] [] ad' h') :
    G p l e room_1 s m #[Value.ref b] below meth c K (fun q : Nat => s.heap.size ≤ q) (WLw b0 b1) 4 cells slots (lw_Z below #[Value.ref b] s) 857 [(0, .ref b), (1, .ref (ad 0)), (2, .ref (ad 100)), (3, .int (nI i))] [] ad h := by
  have hc0 : cells ≤ room_1.cells := by omega
  have hs0 : slots ≤ room_1.slots := by omega
  obtain ⟨r, h1, h2, z1, z2, hI2⟩ := HM k b0 b1 h (xs (i + 1)) (xs (i + 2)) (xs (i + 3)) hk hI
  refine g_aload_n C0 1 d_law_857 rfl rfl ?_
  refine g_aload_n C0 0 d_law_858 rfl rfl ?_
  refine g_iload_n C0 3 d_law_859 rfl rfl ?_
  refine g_iconst C0 (v := nI 1) d_law_860 (by decide) ?_
  refine g_iadd C0 d_law_861 ?_
  refine g_sld C0 hX hbl (Nat.not_le.mpr hbl) (i + 1) (by omega) (by omega) (nI_add i 1) d_law_862 ?_
  refine g_aload_n C0 0 d_law_863 rfl rfl ?_
  refine g_iload_n C0 3 d_law_864 rfl rfl ?_
  refine g_iconst C0 (v := nI 2) d_law_865 (by decide) ?_
  refine g_iadd C0 d_law_866 ?_
  refine g_sld C0 hX hbl (Nat.not_le.mpr hbl) (i + 2) (by omega) (by omega) (nI_add i 2) d_law_867 ?_
  refine g_aload_n C0 0 d_law_868 rfl rfl ?_
  refine g_iload_n C0 3 d_law_869 rfl rfl ?_
  refine g_iconst C0 (v := nI 3) d_law_870 (by decide) ?_
  refine g_iadd C0 d_law_871 ?_
  refine g_sld C0 hX hbl (Nat.not_le.mpr hbl) (i + 3) (by omega) (by omega) (nI_add i 3) d_law_872 ?_
  refine g_calli C0 (nd_WLw b0 b1) lC rfl (sub_WLw_C b0 b1) (runV C0 (m_C_write l K ad h (xs (i + 1)) (xs (i + 2)) (xs (i + 3)) z1) 3 rfl ⟨t_1042, t_1043, t_1044, t_85, t_1045⟩ cd_C_write ⟨Nat.le_of_ble_eq_true rfl, Nat.le_of_ble_eq_true rfl, rfl, rfl, hc0, hs0⟩ 0 rfl rfl (sub_WLw_C b0 b1) nd_C rfl rfl (Nat.le_of_ble_eq_true rfl) d_law_873) ?_
  refine g_aload_n C0 2 d_law_876 rfl rfl ?_
  refine g_aload_n C0 0 d_law_877 rfl rfl ?_
  refine g_iload_n C0 3 d_law_878 rfl rfl ?_
  refine g_iconst C0 (v := nI 1) d_law_879 (by decide) ?_
  refine g_iadd C0 d_law_880 ?_
  refine g_sld C0 hX hbl (Nat.not_le.mpr hbl) (i + 1) (by omega) (by omega) (nI_add i 1) d_law_881 ?_
  refine g_aload_n C0 0 d_law_882 rfl rfl ?_
  refine g_iload_n C0 3 d_law_883 rfl rfl ?_
  refine g_iconst C0 (v := nI 2) d_law_884 (by decide) ?_
  refine g_iadd C0 d_law_885 ?_
  refine g_sld C0 hX hbl (Nat.not_le.mpr hbl) (i + 2) (by omega) (by omega) (nI_add i 2) d_law_886 ?_
  refine g_aload_n C0 0 d_law_887 rfl rfl ?_
  refine g_iload_n C0 3 d_law_888 rfl rfl ?_
  refine g_iconst C0 (v := nI 3) d_law_889 (by decide) ?_
  refine g_iadd C0 d_law_890 ?_
  refine g_sld C0 hX hbl (Nat.not_le.mpr hbl) (i + 3) (by omega) (by omega) (nI_add i 3) d_law_891 ?_
  refine g_calli C0 (nd_WLw b0 b1) lM rfl (sub_WLw_M b0 b1) (runV C0 (m_M_write l K ad (mx lC h1 h) (xs (i + 1)) (xs (i + 2)) (xs (i + 3)) z2) 3 rfl ⟨t_1513, t_1514, t_1515, t_97, t_1516⟩ cd_M_write ⟨Nat.le_of_ble_eq_true rfl, Nat.le_of_ble_eq_true rfl, rfl, rfl, hc0, hs0⟩ 34 rfl rfl (sub_WLw_M b0 b1) nd_M rfl rfl (Nat.le_of_ble_eq_true rfl) d_law_892) ?_
  refine g_icmp_eq C0 (tgt := 995) d_law_895 (by decide) (fun _ => ?_) (fun z => absurd rfl z)
  refine g_widen (k := cells + 4) (n := slots + 77) (by omega) (by omega) ?_
  exact nx b0 b1 ad _ hI2
theorem law_judge {p : Program} {l : Launch} {e : Env} {s : State} {m : MethodId} {below : List Frame} {meth : Method} {c : Code} {K : KT} {b Ln : Nat} {xs : Nat → Int32} (C0 : Cx p s m #[Value.ref b] meth c code R_law 4 K (fun q : Nat => s.heap.size ≤ q)) (hX : va_X b Ln xs s s.heap) (hbl : b < s.heap.size) (hL : Ln ≤ 256) {N : Nat} {Inv : Nat → Bool → Bool → Hp → Prop} (HM : MO_judge N Inv) (i k : Nat) (hi : i + 4 ≤ Ln) (hk : k < 64) (b0 b1 : Bool) (ad : Nat → Nat) (h : Hp) (hI : Inv k b0 b1 h) {cells slots : Nat} (hc : cells + 4 ≤ room_1.cells) (hs : slots + 77 ≤ room_1.slots)
    (nx : ∀ (d0 d1 : Bool) (ad' : Nat → Nat) (h' : Hp), Inv (k + 1) d0 d1 h' → G p l e room_1 s m #[Value.ref b] below meth c K (fun q : Nat => s.heap.size ≤ q) (WLw d0 d1) 4 (cells + 4) (slots + 77) (lw_Z below #[Value.ref b] s) 995 [(0, .ref b), (1, .ref (ad' 0)), (2, .ref (ad' 100)), (3, .int (nI i))] [] ad' h') :
    G p l e room_1 s m #[Value.ref b] below meth c K (fun q : Nat => s.heap.size ≤ q) (WLw b0 b1) 4 cells slots (lw_Z below #[Value.ref b] s) 900 [(0, .ref b), (1, .ref (ad 0)), (2, .ref (ad 100)), (3, .int (nI i))] [] ad h := by
  have hc0 : cells ≤ room_1.cells := by omega
  have hs0 : slots ≤ room_1.slots := by omega
  obtain ⟨r, h2, z1, z2, hI2⟩ := HM k b0 b1 h hk hI
  refine g_aload_n C0 1 d_law_900 rfl rfl ?_
  refine g_calliP C0 (nd_WLw b0 b1) lC rfl (sub_WLw_C b0 b1) (runV C0 (m_C_judge l K ad h N z1) 0 rfl ⟨t_1050, t_1051, t_1052, t_85, t_1053⟩ cd_C_judge ⟨Nat.le_of_ble_eq_true rfl, Nat.le_of_ble_eq_true rfl, rfl, rfl, hc0, hs0⟩ 0 rfl rfl (sub_WLw_C b0 b1) nd_C rfl rfl (Nat.le_of_ble_eq_true rfl) d_law_901) ?_
  refine g_aload_n C0 2 d_law_904 rfl rfl ?_
  refine g_calli C0 (nd_WLw b0 b1) lM rfl (sub_WLw_M b0 b1) (runV C0 (m_M_judge l K ad h N z2) 0 rfl ⟨t_1517, t_1518, t_1519, t_97, t_1520⟩ cd_M_judge ⟨Nat.le_of_ble_eq_true rfl, Nat.le_of_ble_eq_true rfl, rfl, rfl, hc0, hs0⟩ 34 rfl rfl (sub_WLw_M b0 b1) nd_M rfl rfl (Nat.le_of_ble_eq_true rfl) d_law_905) ?_
  refine g_icmp_eq C0 (tgt := 995) d_law_908 (by decide) (fun _ => ?_) (fun z => absurd rfl z)
  refine g_widen (k := cells + 4) (n := slots + 77) (by omega) (by omega) ?_
  exact nx b0 b1 ad _ hI2
theorem law_tear {p : Program} {l : Launch} {e : Env} {s : State} {m : MethodId} {below : List Frame} {meth : Method} {c : Code} {K : KT} {b Ln : Nat} {xs : Nat → Int32} (C0 : Cx p s m #[Value.ref b] meth c code R_law 4 K (fun q : Nat => s.heap.size ≤ q)) (hX : va_X b Ln xs s s.heap) (hbl : b < s.heap.size) (hL : Ln ≤ 256) {N : Nat} {Inv : Nat → Bool → Bool → Hp → Prop} (HM : MO_tear N Inv) (i k : Nat) (hi : i + 4 ≤ Ln) (hk : k < 64) (b0 b1 : Bool) (ad : Nat → Nat) (h : Hp) (hI : Inv k b0 b1 h) {cells slots : Nat} (hc : cells + 4 ≤ room_1.cells) (hs : slots + 77 ≤ room_1.slots)
    (nx : ∀ (d0 d1 : Bool) (ad' : Nat → Nat) (h' : Hp), Inv (k + 1) d0 d1 h' → G p l e room_1 s m #[Value.ref b] below meth c K (fun q : Nat => s.heap.size ≤ q) (WLw d0 d1) 4 (cells + 4) (slots + 77) (lw_Z below #[Value.ref b] s) 995 [(0, .ref b), (1, .ref (ad' 0)), (2, .ref (ad' 100)), (3, .int (nI i))] [] ad' h') :
    G p l e room_1 s m #[Value.ref b] below meth c K (fun q : Nat => s.heap.size ≤ q) (WLw b0 b1) 4 cells slots (lw_Z below #[Value.ref b] s) 913 [(0, .ref b), (1, .ref (ad 0)), (2, .ref (ad 100)), (3, .int (nI i))] [] ad h := by
  have hc0 : cells ≤ room_1.cells := by omega
  have hs0 : slots ≤ room_1.slots := by omega
  obtain ⟨r, h1, h2, z1, z2, hI2⟩ := HM k b0 b1 h hk hI
  refine g_aload_n C0 1 d_law_913 rfl rfl ?_
  refine g_calli C0 (nd_WLw b0 b1) lC rfl (sub_WLw_C b0 b1) (runV C0 (m_C_tear l K ad h z1) 0 rfl ⟨t_1058, t_1059, t_1060, t_85, t_1061⟩ cd_C_tear ⟨Nat.le_of_ble_eq_true rfl, Nat.le_of_ble_eq_true rfl, rfl, rfl, hc0, hs0⟩ 0 rfl rfl (sub_WLw_C b0 b1) nd_C rfl rfl (Nat.le_of_ble_eq_true rfl) d_law_914) ?_
  refine g_aload_n C0 2 d_law_917 rfl rfl ?_
  refine g_calli C0 (nd_WLw b0 b1) lM rfl (sub_WLw_M b0 b1) (runV C0 (m_M_tear l K ad (mx lC h1 h) z2) 0 rfl ⟨t_1521, t_1522, t_1523, t_97, t_1524⟩ cd_M_tear ⟨Nat.le_of_ble_eq_true rfl, Nat.le_of_ble_eq_true rfl, rfl, rfl, hc0, hs0⟩ 34 rfl rfl (sub_WLw_M b0 b1) nd_M rfl rfl (Nat.le_of_ble_eq_true rfl) d_law_918) ?_
  refine g_icmp_eq C0 (tgt := 995) d_law_921 (by decide) (fun _ => ?_) (fun z => absurd rfl z)
  refine g_widen (k := cells + 4) (n := slots + 77) (by omega) (by omega) ?_
  exact nx b0 b1 ad _ hI2
theorem law_seed {p : Program} {l : Launch} {e : Env} {s : State} {m : MethodId} {below : List Frame} {meth : Method} {c : Code} {K : KT} {b Ln : Nat} {xs : Nat → Int32} (C0 : Cx p s m #[Value.ref b] meth c code R_law 4 K (fun q : Nat => s.heap.size ≤ q)) (hX : va_X b Ln xs s s.heap) (hbl : b < s.heap.size) (hL : Ln ≤ 256) {N : Nat} {Inv : Nat → Bool → Bool → Hp → Prop} (HM : MO_seed N Inv) (i k : Nat) (hi : i + 4 ≤ Ln) (hk : k < 64) (b0 b1 : Bool) (ad : Nat → Nat) (h : Hp) (hI : Inv k b0 b1 h) {cells slots : Nat} (hc : cells + 4 ≤ room_1.cells) (hs : slots + 77 ≤ room_1.slots)
    (nx : ∀ (d0 d1 : Bool) (ad' : Nat → Nat) (h' : Hp), Inv (k + 1) d0 d1 h' → G p l e room_1 s m #[Value.ref b] below meth c K (fun q : Nat => s.heap.size ≤ q) (WLw d0 d1) 4 (cells + 4) (slots + 77) (lw_Z below #[Value.ref b] s) 995 [(0, .ref b), (1, .ref (ad' 0)), (2, .ref (ad' 100)), (3, .int (nI i))] [] ad' h') :
    G p l e room_1 s m #[Value.ref b] below meth c K (fun q : Nat => s.heap.size ≤ q) (WLw b0 b1) 4 cells slots (lw_Z below #[Value.ref b] s) 926 [(0, .ref b), (1, .ref (ad 0)), (2, .ref (ad 100)), (3, .int (nI i))] [] ad h := by
  have hc0 : cells ≤ room_1.cells := by omega
  have hs0 : slots ≤ room_1.slots := by omega
  obtain ⟨r, h1, h2, z1, z2, hI2⟩ := HM k b0 b1 h (xs (i + 1)) hk hI
  refine g_aload_n C0 1 d_law_926 rfl rfl ?_
  refine g_aload_n C0 0 d_law_927 rfl rfl ?_
  refine g_iload_n C0 3 d_law_928 rfl rfl ?_
  refine g_iconst C0 (v := nI 1) d_law_929 (by decide) ?_
  refine g_iadd C0 d_law_930 ?_
  refine g_sld C0 hX hbl (Nat.not_le.mpr hbl) (i + 1) (by omega) (by omega) (nI_add i 1) d_law_931 ?_
  refine g_calli C0 (nd_WLw b0 b1) lC rfl (sub_WLw_C b0 b1) (runV C0 (m_C_seed l K ad h (xs (i + 1)) z1) 1 rfl ⟨t_1062, t_1063, t_1064, t_85, t_1065⟩ cd_C_seed ⟨Nat.le_of_ble_eq_true rfl, Nat.le_of_ble_eq_true rfl, rfl, rfl, hc0, hs0⟩ 0 rfl rfl (sub_WLw_C b0 b1) nd_C rfl rfl (Nat.le_of_ble_eq_true rfl) d_law_932) ?_
  refine g_aload_n C0 2 d_law_935 rfl rfl ?_
  refine g_aload_n C0 0 d_law_936 rfl rfl ?_
  refine g_iload_n C0 3 d_law_937 rfl rfl ?_
  refine g_iconst C0 (v := nI 1) d_law_938 (by decide) ?_
  refine g_iadd C0 d_law_939 ?_
  refine g_sld C0 hX hbl (Nat.not_le.mpr hbl) (i + 1) (by omega) (by omega) (nI_add i 1) d_law_940 ?_
  refine g_calli C0 (nd_WLw b0 b1) lM rfl (sub_WLw_M b0 b1) (runV C0 (m_M_seed l K ad (mx lC h1 h) (xs (i + 1)) z2) 1 rfl ⟨t_1525, t_1526, t_1527, t_97, t_1528⟩ cd_M_seed ⟨Nat.le_of_ble_eq_true rfl, Nat.le_of_ble_eq_true rfl, rfl, rfl, hc0, hs0⟩ 34 rfl rfl (sub_WLw_M b0 b1) nd_M rfl rfl (Nat.le_of_ble_eq_true rfl) d_law_941) ?_
  refine g_icmp_eq C0 (tgt := 995) d_law_944 (by decide) (fun _ => ?_) (fun z => absurd rfl z)
  refine g_widen (k := cells + 4) (n := slots + 77) (by omega) (by omega) ?_
  exact nx b0 b1 ad _ hI2
theorem law_keep {p : Program} {l : Launch} {e : Env} {s : State} {m : MethodId} {below : List Frame} {meth : Method} {c : Code} {K : KT} {b Ln : Nat} {xs : Nat → Int32} (C0 : Cx p s m #[Value.ref b] meth c code R_law 4 K (fun q : Nat => s.heap.size ≤ q)) (hX : va_X b Ln xs s s.heap) (hbl : b < s.heap.size) (hL : Ln ≤ 256) {N : Nat} {Inv : Nat → Bool → Bool → Hp → Prop} (HM : MO_keep N Inv) (i k : Nat) (hi : i + 4 ≤ Ln) (hk : k < 64) (b0 b1 : Bool) (ad : Nat → Nat) (h : Hp) (hI : Inv k b0 b1 h) {cells slots : Nat} (hc : cells + 4 ≤ room_1.cells) (hs : slots + 77 ≤ room_1.slots)
    (nx : ∀ (d0 d1 : Bool) (ad' : Nat → Nat) (h' : Hp), Inv (k + 1) d0 d1 h' → G p l e room_1 s m #[Value.ref b] below meth c K (fun q : Nat => s.heap.size ≤ q) (WLw d0 d1) 4 (cells + 4) (slots + 77) (lw_Z below #[Value.ref b] s) 995 [(0, .ref b), (1, .ref (ad' 0)), (2, .ref (ad' 100)), (3, .int (nI i))] [] ad' h') :
    G p l e room_1 s m #[Value.ref b] below meth c K (fun q : Nat => s.heap.size ≤ q) (WLw b0 b1) 4 cells slots (lw_Z below #[Value.ref b] s) 949 [(0, .ref b), (1, .ref (ad 0)), (2, .ref (ad 100)), (3, .int (nI i))] [] ad h := by
  have hc0 : cells ≤ room_1.cells := by omega
  have hs0 : slots ≤ room_1.slots := by omega
  obtain ⟨K0, K1, KU⟩ := HM k b0 b1 h hk hI
  by_cases c0 : xs (i + 1) = 0
  · obtain ⟨r, h1, h2, z1, z2, hI2⟩ := K0
    refine g_aload_n C0 1 d_law_949 rfl rfl ?_
    refine g_aload_n C0 0 d_law_950 rfl rfl ?_
    refine g_iload_n C0 3 d_law_951 rfl rfl ?_
    refine g_iconst C0 (v := nI 1) d_law_952 (by decide) ?_
    refine g_iadd C0 d_law_953 ?_
    refine g_sld C0 hX hbl (Nat.not_le.mpr hbl) (i + 1) (by omega) (by omega) (nI_add i 1) d_law_954 ?_
    rw [c0]
    refine g_callNI C0 (WM ++ (if b1 then [(32, .inl (0, [none, none, none]))] else [])) [31] [0, 2, 10, 11, 12, 15, 16, 17, 20, 21, 22, 25, 26, 27, 30, 33, 35, 36, 40, 41, 42, 43, 45, 46, 47, 48, 49, 55, 56, 60, 61, 62, 63, 64, 32] [0, 2, 10, 11, 12, 15, 16, 17, 20, 21, 22, 25, 26, 27, 30, 35, 36, 40, 41, 42, 43, 45, 46, 47, 48, 49, 55, 56, 60, 61, 62, 63, 64, 33, 31] (m_C_keep_0 l K ad h z1) 1 rfl ⟨t_1067, t_1068, t_1069, t_85, t_1070⟩ cd_C_keep ⟨Nat.le_of_ble_eq_true rfl, Nat.le_of_ble_eq_true rfl, rfl, rfl, (by show cells + 1 ≤ room_1.cells; omega), (by show slots + 3 ≤ room_1.slots; omega)⟩ 0 rfl rfl (sub_WLw_C b0 b1) nd_C (nd_WLw b0 b1) (by cases b0 <;> cases b1 <;> decide +kernel) (by cases b0 <;> cases b1 <;> decide +kernel) (by cases b0 <;> cases b1 <;> decide +kernel) rfl (by cases b0 <;> cases b1 <;> decide +kernel) (by cases b0 <;> cases b1 <;> decide +kernel) (by decide +kernel) (by decide +kernel) rfl rfl (Nat.le_of_ble_eq_true rfl) d_law_955 (fun ad1 hag => ?_)
    rw [← hag 0 (by decide), ← hag 100 (by decide)]
    refine g_part (rs' := WLw true b1) (by cases b0 <;> cases b1 <;> decide +kernel) (nd_WLw _ _) ?_
    refine g_aload_n C0 2 d_law_958 rfl rfl ?_
    refine g_aload_n C0 0 d_law_959 rfl rfl ?_
    refine g_iload_n C0 3 d_law_960 rfl rfl ?_
    refine g_iconst C0 (v := nI 1) d_law_961 (by decide) ?_
    refine g_iadd C0 d_law_962 ?_
    refine g_sld C0 hX hbl (Nat.not_le.mpr hbl) (i + 1) (by omega) (by omega) (nI_add i 1) d_law_963 ?_
    rw [c0]
    refine g_calli C0 (nd_WLw _ _) lM rfl (sub_WLw_M _ _) (runV C0 (m_M_keep l K ad1 (mx [0, 2, 10, 11, 12, 15, 16, 17, 20, 21, 22, 25, 26, 27, 30, 35, 36, 40, 41, 42, 43, 45, 46, 47, 48, 49, 55, 56, 60, 61, 62, 63, 64, 33, 31] h1 h) N 0 z2) 1 rfl ⟨t_1529, t_1530, t_1531, t_97, t_1532⟩ cd_M_keep ⟨Nat.le_of_ble_eq_true rfl, Nat.le_of_ble_eq_true rfl, rfl, rfl, (by show cells + 1 ≤ room_1.cells; omega), (by show slots + 3 ≤ room_1.slots; omega)⟩ 34 rfl rfl (sub_WLw_M _ _) nd_M rfl rfl (Nat.le_of_ble_eq_true rfl) d_law_964) ?_
    refine g_icmp_eq C0 (tgt := 995) d_law_967 (by decide) (fun _ => ?_) (fun z => absurd rfl z)
    refine g_widen (k := cells + 4) (n := slots + 77) (by omega) (by omega) ?_
    exact nx _ _ ad1 _ hI2
  · by_cases c1 : xs (i + 1) = 1
    · obtain ⟨r, h1, h2, z1, z2, hI2⟩ := K1
      refine g_aload_n C0 1 d_law_949 rfl rfl ?_
      refine g_aload_n C0 0 d_law_950 rfl rfl ?_
      refine g_iload_n C0 3 d_law_951 rfl rfl ?_
      refine g_iconst C0 (v := nI 1) d_law_952 (by decide) ?_
      refine g_iadd C0 d_law_953 ?_
      refine g_sld C0 hX hbl (Nat.not_le.mpr hbl) (i + 1) (by omega) (by omega) (nI_add i 1) d_law_954 ?_
      rw [c1]
      refine g_callNI C0 (WM ++ (if b0 then [(31, .inl (0, [none, none, none]))] else [])) [32] [0, 2, 10, 11, 12, 15, 16, 17, 20, 21, 22, 25, 26, 27, 30, 33, 35, 36, 40, 41, 42, 43, 45, 46, 47, 48, 49, 55, 56, 60, 61, 62, 63, 64, 31] [0, 2, 10, 11, 12, 15, 16, 17, 20, 21, 22, 25, 26, 27, 30, 35, 36, 40, 41, 42, 43, 45, 46, 47, 48, 49, 55, 56, 60, 61, 62, 63, 64, 33, 32] (m_C_keep_1 l K ad h z1) 1 rfl ⟨t_1067, t_1068, t_1069, t_85, t_1070⟩ cd_C_keep ⟨Nat.le_of_ble_eq_true rfl, Nat.le_of_ble_eq_true rfl, rfl, rfl, (by show cells + 1 ≤ room_1.cells; omega), (by show slots + 3 ≤ room_1.slots; omega)⟩ 0 rfl rfl (sub_WLw_C b0 b1) nd_C (nd_WLw b0 b1) (by cases b0 <;> cases b1 <;> decide +kernel) (by cases b0 <;> cases b1 <;> decide +kernel) (by cases b0 <;> cases b1 <;> decide +kernel) rfl (by cases b0 <;> cases b1 <;> decide +kernel) (by cases b0 <;> cases b1 <;> decide +kernel) (by decide +kernel) (by decide +kernel) rfl rfl (Nat.le_of_ble_eq_true rfl) d_law_955 (fun ad1 hag => ?_)
      rw [← hag 0 (by decide), ← hag 100 (by decide)]
      refine g_part (rs' := WLw b0 true) (by cases b0 <;> cases b1 <;> decide +kernel) (nd_WLw _ _) ?_
      refine g_aload_n C0 2 d_law_958 rfl rfl ?_
      refine g_aload_n C0 0 d_law_959 rfl rfl ?_
      refine g_iload_n C0 3 d_law_960 rfl rfl ?_
      refine g_iconst C0 (v := nI 1) d_law_961 (by decide) ?_
      refine g_iadd C0 d_law_962 ?_
      refine g_sld C0 hX hbl (Nat.not_le.mpr hbl) (i + 1) (by omega) (by omega) (nI_add i 1) d_law_963 ?_
      rw [c1]
      refine g_calli C0 (nd_WLw _ _) lM rfl (sub_WLw_M _ _) (runV C0 (m_M_keep l K ad1 (mx [0, 2, 10, 11, 12, 15, 16, 17, 20, 21, 22, 25, 26, 27, 30, 35, 36, 40, 41, 42, 43, 45, 46, 47, 48, 49, 55, 56, 60, 61, 62, 63, 64, 33, 32] h1 h) N 1 z2) 1 rfl ⟨t_1529, t_1530, t_1531, t_97, t_1532⟩ cd_M_keep ⟨Nat.le_of_ble_eq_true rfl, Nat.le_of_ble_eq_true rfl, rfl, rfl, (by show cells + 1 ≤ room_1.cells; omega), (by show slots + 3 ≤ room_1.slots; omega)⟩ 34 rfl rfl (sub_WLw_M _ _) nd_M rfl rfl (Nat.le_of_ble_eq_true rfl) d_law_964) ?_
      refine g_icmp_eq C0 (tgt := 995) d_law_967 (by decide) (fun _ => ?_) (fun z => absurd rfl z)
      refine g_widen (k := cells + 4) (n := slots + 77) (by omega) (by omega) ?_
      exact nx _ _ ad1 _ hI2
    · obtain ⟨v, h2, z0, zv, z2, hI2⟩ := KU (xs (i + 1)) c0 c1
      refine g_aload_n C0 1 d_law_949 rfl rfl ?_
      refine g_aload_n C0 0 d_law_950 rfl rfl ?_
      refine g_iload_n C0 3 d_law_951 rfl rfl ?_
      refine g_iconst C0 (v := nI 1) d_law_952 (by decide) ?_
      refine g_iadd C0 d_law_953 ?_
      refine g_sld C0 hX hbl (Nat.not_le.mpr hbl) (i + 1) (by omega) (by omega) (nI_add i 1) d_law_954 ?_
      refine g_callNI C0 (WM ++ WBo b0 b1) [] [0, 2, 10, 11, 12, 15, 16, 17, 20, 21, 22, 25, 26, 27, 30, 33, 35, 36, 40, 41, 42, 43, 45, 46, 47, 48, 49, 55, 56, 60, 61, 62, 63, 64, 31, 32] lC (m_C_keep_un l K ad h (xs (i + 1)) z0 zv) 1 rfl ⟨t_1067, t_1068, t_1069, t_85, t_1070⟩ cd_C_keep ⟨Nat.le_of_ble_eq_true rfl, Nat.le_of_ble_eq_true rfl, rfl, rfl, (by show cells + 1 ≤ room_1.cells; omega), (by show slots + 3 ≤ room_1.slots; omega)⟩ 0 rfl rfl (sub_WLw_C b0 b1) nd_C (nd_WLw b0 b1) (by cases b0 <;> cases b1 <;> decide +kernel) (by cases b0 <;> cases b1 <;> decide +kernel) (by cases b0 <;> cases b1 <;> decide +kernel) rfl (by cases b0 <;> cases b1 <;> decide +kernel) (by cases b0 <;> cases b1 <;> decide +kernel) (by decide +kernel) (by decide +kernel) rfl rfl (Nat.le_of_ble_eq_true rfl) d_law_955 (fun ad1 hag => ?_)
      rw [← hag 0 (by decide), ← hag 100 (by decide)]
      refine g_part (rs' := WLw b0 b1) (by cases b0 <;> cases b1 <;> decide +kernel) (nd_WLw _ _) ?_
      refine g_aload_n C0 2 d_law_958 rfl rfl ?_
      refine g_aload_n C0 0 d_law_959 rfl rfl ?_
      refine g_iload_n C0 3 d_law_960 rfl rfl ?_
      refine g_iconst C0 (v := nI 1) d_law_961 (by decide) ?_
      refine g_iadd C0 d_law_962 ?_
      refine g_sld C0 hX hbl (Nat.not_le.mpr hbl) (i + 1) (by omega) (by omega) (nI_add i 1) d_law_963 ?_
      refine g_calli C0 (nd_WLw b0 b1) lM rfl (sub_WLw_M b0 b1) (runV C0 (m_M_keep l K ad1 (mx lC h h) N (xs (i + 1)) z2) 1 rfl ⟨t_1529, t_1530, t_1531, t_97, t_1532⟩ cd_M_keep ⟨Nat.le_of_ble_eq_true rfl, Nat.le_of_ble_eq_true rfl, rfl, rfl, (by show cells + 1 ≤ room_1.cells; omega), (by show slots + 3 ≤ room_1.slots; omega)⟩ 34 rfl rfl (sub_WLw_M b0 b1) nd_M rfl rfl (Nat.le_of_ble_eq_true rfl) d_law_964) ?_
      refine g_icmp_eq C0 (tgt := 995) d_law_967 (by decide) (fun _ => ?_) (fun z => absurd rfl z)
      refine g_widen (k := cells + 4) (n := slots + 77) (by omega) (by omega) ?_
      exact nx b0 b1 ad1 _ hI2
theorem law_goBack {p : Program} {l : Launch} {e : Env} {s : State} {m : MethodId} {below : List Frame} {meth : Method} {c : Code} {K : KT} {b Ln : Nat} {xs : Nat → Int32} (C0 : Cx p s m #[Value.ref b] meth c code R_law 4 K (fun q : Nat => s.heap.size ≤ q)) (hX : va_X b Ln xs s s.heap) (hbl : b < s.heap.size) (hL : Ln ≤ 256) {N : Nat} {Inv : Nat → Bool → Bool → Hp → Prop} (HM : MO_goBack N Inv) (i k : Nat) (hi : i + 4 ≤ Ln) (hk : k < 64) (b0 b1 : Bool) (ad : Nat → Nat) (h : Hp) (hI : Inv k b0 b1 h) {cells slots : Nat} (hc : cells + 4 ≤ room_1.cells) (hs : slots + 77 ≤ room_1.slots)
    (nx : ∀ (d0 d1 : Bool) (ad' : Nat → Nat) (h' : Hp), Inv (k + 1) d0 d1 h' → G p l e room_1 s m #[Value.ref b] below meth c K (fun q : Nat => s.heap.size ≤ q) (WLw d0 d1) 4 (cells + 4) (slots + 77) (lw_Z below #[Value.ref b] s) 995 [(0, .ref b), (1, .ref (ad' 0)), (2, .ref (ad' 100)), (3, .int (nI i))] [] ad' h') :
    G p l e room_1 s m #[Value.ref b] below meth c K (fun q : Nat => s.heap.size ≤ q) (WLw b0 b1) 4 cells slots (lw_Z below #[Value.ref b] s) 972 [(0, .ref b), (1, .ref (ad 0)), (2, .ref (ad 100)), (3, .int (nI i))] [] ad h := by
  have hc0 : cells ≤ room_1.cells := by omega
  have hs0 : slots ≤ room_1.slots := by omega
  obtain ⟨k0, k1, r, h1, h2, z1, z2, hI2⟩ := HM k b0 b1 h (xs (i + 1)) hk hI
  refine g_aload_n C0 1 d_law_972 rfl rfl ?_
  refine g_aload_n C0 0 d_law_973 rfl rfl ?_
  refine g_iload_n C0 3 d_law_974 rfl rfl ?_
  refine g_iconst C0 (v := nI 1) d_law_975 (by decide) ?_
  refine g_iadd C0 d_law_976 ?_
  refine g_sld C0 hX hbl (Nat.not_le.mpr hbl) (i + 1) (by omega) (by omega) (nI_add i 1) d_law_977 ?_
  cases b0 <;> cases b1
  · refine g_calli C0 (nd_WLw false false) [0, 2, 10, 11, 12, 15, 16, 17, 20, 21, 22, 25, 26, 27, 30, 33, 35, 36, 40, 41, 42, 43, 45, 46, 47, 48, 49, 55, 56, 60, 61, 62, 63, 64] rfl (by decide +kernel) (runV C0 (m_C_goBack_00 l K ad h (xs (i + 1)) (k0 rfl) (k1 rfl) z1) 1 rfl ⟨t_1075, t_1076, t_1077, t_85, t_1078⟩ cd_C_goBack ⟨Nat.le_of_ble_eq_true rfl, Nat.le_of_ble_eq_true rfl, rfl, rfl, hc0, hs0⟩ 0 rfl rfl (by decide +kernel) nd_C00 rfl rfl (Nat.le_of_ble_eq_true rfl) d_law_978) ?_
    refine g_aload_n C0 2 d_law_981 rfl rfl ?_
    refine g_aload_n C0 0 d_law_982 rfl rfl ?_
    refine g_iload_n C0 3 d_law_983 rfl rfl ?_
    refine g_iconst C0 (v := nI 1) d_law_984 (by decide) ?_
    refine g_iadd C0 d_law_985 ?_
    refine g_sld C0 hX hbl (Nat.not_le.mpr hbl) (i + 1) (by omega) (by omega) (nI_add i 1) d_law_986 ?_
    refine g_calli C0 (nd_WLw false false) lM rfl (sub_WLw_M false false) (runV C0 (m_M_goBack l K ad (mx [0, 2, 10, 11, 12, 15, 16, 17, 20, 21, 22, 25, 26, 27, 30, 33, 35, 36, 40, 41, 42, 43, 45, 46, 47, 48, 49, 55, 56, 60, 61, 62, 63, 64] h1 h) N (xs (i + 1)) z2) 1 rfl ⟨t_1537, t_1538, t_1539, t_97, t_1540⟩ cd_M_goBack ⟨Nat.le_of_ble_eq_true rfl, Nat.le_of_ble_eq_true rfl, rfl, rfl, hc0, hs0⟩ 34 rfl rfl (sub_WLw_M false false) nd_M rfl rfl (Nat.le_of_ble_eq_true rfl) d_law_987) ?_
    refine g_icmp_eq C0 (tgt := 995) d_law_990 (by decide) (fun _ => ?_) (fun z => absurd rfl z)
    refine g_widen (k := cells + 4) (n := slots + 77) (by omega) (by omega) ?_
    exact nx false false ad _ hI2
  · refine g_calli C0 (nd_WLw false true) [0, 2, 10, 11, 12, 15, 16, 17, 20, 21, 22, 25, 26, 27, 30, 33, 35, 36, 40, 41, 42, 43, 45, 46, 47, 48, 49, 55, 56, 60, 61, 62, 63, 64, 32] rfl (by decide +kernel) (runV C0 (m_C_goBack_01 l K ad h (xs (i + 1)) (k0 rfl) z1) 1 rfl ⟨t_1075, t_1076, t_1077, t_85, t_1078⟩ cd_C_goBack ⟨Nat.le_of_ble_eq_true rfl, Nat.le_of_ble_eq_true rfl, rfl, rfl, hc0, hs0⟩ 0 rfl rfl (by decide +kernel) nd_C01 rfl rfl (Nat.le_of_ble_eq_true rfl) d_law_978) ?_
    refine g_aload_n C0 2 d_law_981 rfl rfl ?_
    refine g_aload_n C0 0 d_law_982 rfl rfl ?_
    refine g_iload_n C0 3 d_law_983 rfl rfl ?_
    refine g_iconst C0 (v := nI 1) d_law_984 (by decide) ?_
    refine g_iadd C0 d_law_985 ?_
    refine g_sld C0 hX hbl (Nat.not_le.mpr hbl) (i + 1) (by omega) (by omega) (nI_add i 1) d_law_986 ?_
    refine g_calli C0 (nd_WLw false true) lM rfl (sub_WLw_M false true) (runV C0 (m_M_goBack l K ad (mx [0, 2, 10, 11, 12, 15, 16, 17, 20, 21, 22, 25, 26, 27, 30, 33, 35, 36, 40, 41, 42, 43, 45, 46, 47, 48, 49, 55, 56, 60, 61, 62, 63, 64, 32] h1 h) N (xs (i + 1)) z2) 1 rfl ⟨t_1537, t_1538, t_1539, t_97, t_1540⟩ cd_M_goBack ⟨Nat.le_of_ble_eq_true rfl, Nat.le_of_ble_eq_true rfl, rfl, rfl, hc0, hs0⟩ 34 rfl rfl (sub_WLw_M false true) nd_M rfl rfl (Nat.le_of_ble_eq_true rfl) d_law_987) ?_
    refine g_icmp_eq C0 (tgt := 995) d_law_990 (by decide) (fun _ => ?_) (fun z => absurd rfl z)
    refine g_widen (k := cells + 4) (n := slots + 77) (by omega) (by omega) ?_
    exact nx false true ad _ hI2
  · refine g_calli C0 (nd_WLw true false) [0, 2, 10, 11, 12, 15, 16, 17, 20, 21, 22, 25, 26, 27, 30, 33, 35, 36, 40, 41, 42, 43, 45, 46, 47, 48, 49, 55, 56, 60, 61, 62, 63, 64, 31] rfl (by decide +kernel) (runV C0 (m_C_goBack_10 l K ad h (xs (i + 1)) (k1 rfl) z1) 1 rfl ⟨t_1075, t_1076, t_1077, t_85, t_1078⟩ cd_C_goBack ⟨Nat.le_of_ble_eq_true rfl, Nat.le_of_ble_eq_true rfl, rfl, rfl, hc0, hs0⟩ 0 rfl rfl (by decide +kernel) nd_C10 rfl rfl (Nat.le_of_ble_eq_true rfl) d_law_978) ?_
    refine g_aload_n C0 2 d_law_981 rfl rfl ?_
    refine g_aload_n C0 0 d_law_982 rfl rfl ?_
    refine g_iload_n C0 3 d_law_983 rfl rfl ?_
    refine g_iconst C0 (v := nI 1) d_law_984 (by decide) ?_
    refine g_iadd C0 d_law_985 ?_
    refine g_sld C0 hX hbl (Nat.not_le.mpr hbl) (i + 1) (by omega) (by omega) (nI_add i 1) d_law_986 ?_
    refine g_calli C0 (nd_WLw true false) lM rfl (sub_WLw_M true false) (runV C0 (m_M_goBack l K ad (mx [0, 2, 10, 11, 12, 15, 16, 17, 20, 21, 22, 25, 26, 27, 30, 33, 35, 36, 40, 41, 42, 43, 45, 46, 47, 48, 49, 55, 56, 60, 61, 62, 63, 64, 31] h1 h) N (xs (i + 1)) z2) 1 rfl ⟨t_1537, t_1538, t_1539, t_97, t_1540⟩ cd_M_goBack ⟨Nat.le_of_ble_eq_true rfl, Nat.le_of_ble_eq_true rfl, rfl, rfl, hc0, hs0⟩ 34 rfl rfl (sub_WLw_M true false) nd_M rfl rfl (Nat.le_of_ble_eq_true rfl) d_law_987) ?_
    refine g_icmp_eq C0 (tgt := 995) d_law_990 (by decide) (fun _ => ?_) (fun z => absurd rfl z)
    refine g_widen (k := cells + 4) (n := slots + 77) (by omega) (by omega) ?_
    exact nx true false ad _ hI2
  · refine g_calli C0 (nd_WLw true true) [0, 2, 10, 11, 12, 15, 16, 17, 20, 21, 22, 25, 26, 27, 30, 33, 35, 36, 40, 41, 42, 43, 45, 46, 47, 48, 49, 55, 56, 60, 61, 62, 63, 64, 31, 32] rfl (by decide +kernel) (runV C0 (m_C_goBack_11 l K ad h (xs (i + 1)) z1) 1 rfl ⟨t_1075, t_1076, t_1077, t_85, t_1078⟩ cd_C_goBack ⟨Nat.le_of_ble_eq_true rfl, Nat.le_of_ble_eq_true rfl, rfl, rfl, hc0, hs0⟩ 0 rfl rfl (by decide +kernel) nd_C11 rfl rfl (Nat.le_of_ble_eq_true rfl) d_law_978) ?_
    refine g_aload_n C0 2 d_law_981 rfl rfl ?_
    refine g_aload_n C0 0 d_law_982 rfl rfl ?_
    refine g_iload_n C0 3 d_law_983 rfl rfl ?_
    refine g_iconst C0 (v := nI 1) d_law_984 (by decide) ?_
    refine g_iadd C0 d_law_985 ?_
    refine g_sld C0 hX hbl (Nat.not_le.mpr hbl) (i + 1) (by omega) (by omega) (nI_add i 1) d_law_986 ?_
    refine g_calli C0 (nd_WLw true true) lM rfl (sub_WLw_M true true) (runV C0 (m_M_goBack l K ad (mx [0, 2, 10, 11, 12, 15, 16, 17, 20, 21, 22, 25, 26, 27, 30, 33, 35, 36, 40, 41, 42, 43, 45, 46, 47, 48, 49, 55, 56, 60, 61, 62, 63, 64, 31, 32] h1 h) N (xs (i + 1)) z2) 1 rfl ⟨t_1537, t_1538, t_1539, t_97, t_1540⟩ cd_M_goBack ⟨Nat.le_of_ble_eq_true rfl, Nat.le_of_ble_eq_true rfl, rfl, rfl, hc0, hs0⟩ 34 rfl rfl (sub_WLw_M true true) nd_M rfl rfl (Nat.le_of_ble_eq_true rfl) d_law_987) ?_
    refine g_icmp_eq C0 (tgt := 995) d_law_990 (by decide) (fun _ => ?_) (fun z => absurd rfl z)
    refine g_widen (k := cells + 4) (n := slots + 77) (by omega) (by omega) ?_
    exact nx true true ad _ hI2

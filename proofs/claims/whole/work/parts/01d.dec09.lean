theorem dX12_init_752 : decode cX12_init 752 = .ok (.dup, 1) := by decide +kernel
theorem dX12_init_753 : decode cX12_init 753 = .ok (.bipush 121, 2) := by decide +kernel
theorem dX12_init_755 : decode cX12_init 755 = .ok (.bipush 101, 2) := by decide +kernel
theorem dX12_init_757 : decode cX12_init 757 = .ok (.castore, 1) := by decide +kernel
theorem dX12_init_758 : decode cX12_init 758 = .ok (.dup, 1) := by decide +kernel
theorem dX12_init_759 : decode cX12_init 759 = .ok (.bipush 122, 2) := by decide +kernel
theorem dX12_init_761 : decode cX12_init 761 = .ok (.bipush 114, 2) := by decide +kernel
theorem dX12_init_763 : decode cX12_init 763 = .ok (.castore, 1) := by decide +kernel
theorem dX12_init_764 : decode cX12_init 764 = .ok (.dup, 1) := by decide +kernel
theorem dX12_init_765 : decode cX12_init 765 = .ok (.bipush 123, 2) := by decide +kernel
theorem dX12_init_767 : decode cX12_init 767 = .ok (.bipush 32, 2) := by decide +kernel
theorem dX12_init_769 : decode cX12_init 769 = .ok (.castore, 1) := by decide +kernel
theorem dX12_init_770 : decode cX12_init 770 = .ok (.dup, 1) := by decide +kernel
theorem dX12_init_771 : decode cX12_init 771 = .ok (.bipush 124, 2) := by decide +kernel
theorem dX12_init_773 : decode cX12_init 773 = .ok (.bipush 111, 2) := by decide +kernel
theorem dX12_init_775 : decode cX12_init 775 = .ok (.castore, 1) := by decide +kernel
theorem dX12_init_776 : decode cX12_init 776 = .ok (.dup, 1) := by decide +kernel
theorem dX12_init_777 : decode cX12_init 777 = .ok (.bipush 125, 2) := by decide +kernel
theorem dX12_init_779 : decode cX12_init 779 = .ok (.bipush 102, 2) := by decide +kernel
theorem dX12_init_781 : decode cX12_init 781 = .ok (.castore, 1) := by decide +kernel
theorem dX12_init_782 : decode cX12_init 782 = .ok (.dup, 1) := by decide +kernel
theorem dX12_init_783 : decode cX12_init 783 = .ok (.bipush 126, 2) := by decide +kernel
theorem dX12_init_785 : decode cX12_init 785 = .ok (.bipush 102, 2) := by decide +kernel
theorem dX12_init_787 : decode cX12_init 787 = .ok (.castore, 1) := by decide +kernel
theorem dX12_init_788 : decode cX12_init 788 = .ok (.dup, 1) := by decide +kernel
theorem dX12_init_789 : decode cX12_init 789 = .ok (.bipush 127, 2) := by decide +kernel
theorem dX12_init_791 : decode cX12_init 791 = .ok (.bipush 32, 2) := by decide +kernel
theorem dX12_init_793 : decode cX12_init 793 = .ok (.castore, 1) := by decide +kernel
theorem dX12_init_794 : decode cX12_init 794 = .ok (.dup, 1) := by decide +kernel
theorem dX12_init_795 : decode cX12_init 795 = .ok (.sipush 128, 3) := by decide +kernel
theorem dX12_init_798 : decode cX12_init 798 = .ok (.bipush 100, 2) := by decide +kernel
theorem dX12_init_800 : decode cX12_init 800 = .ok (.castore, 1) := by decide +kernel
theorem dX12_init_801 : decode cX12_init 801 = .ok (.dup, 1) := by decide +kernel
theorem dX12_init_802 : decode cX12_init 802 = .ok (.sipush 129, 3) := by decide +kernel
theorem dX12_init_805 : decode cX12_init 805 = .ok (.bipush 97, 2) := by decide +kernel
theorem dX12_init_807 : decode cX12_init 807 = .ok (.castore, 1) := by decide +kernel
theorem dX12_init_808 : decode cX12_init 808 = .ok (.dup, 1) := by decide +kernel
theorem dX12_init_809 : decode cX12_init 809 = .ok (.sipush 130, 3) := by decide +kernel
theorem dX12_init_812 : decode cX12_init 812 = .ok (.bipush 121, 2) := by decide +kernel
theorem dX12_init_814 : decode cX12_init 814 = .ok (.castore, 1) := by decide +kernel
theorem dX12_init_815 : decode cX12_init 815 = .ok (.dup, 1) := by decide +kernel
theorem dX12_init_816 : decode cX12_init 816 = .ok (.sipush 131, 3) := by decide +kernel
theorem dX12_init_819 : decode cX12_init 819 = .ok (.bipush 32, 2) := by decide +kernel
theorem dX12_init_821 : decode cX12_init 821 = .ok (.castore, 1) := by decide +kernel
theorem dX12_init_822 : decode cX12_init 822 = .ok (.putfield 20, 3) := by decide +kernel
theorem dX12_init_825 : decode cX12_init 825 = .ok (.aload_n 0, 1) := by decide +kernel
theorem dX12_init_826 : decode cX12_init 826 = .ok (.sipush 14610, 3) := by decide +kernel
theorem dX12_init_829 : decode cX12_init 829 = .ok (.newarray .int, 2) := by decide +kernel
theorem dX12_init_831 : decode cX12_init 831 = .ok (.putfield 24, 3) := by decide +kernel
theorem dX12_init_834 : decode cX12_init 834 = .ok (.aload_n 0, 1) := by decide +kernel
theorem dX12_init_835 : decode cX12_init 835 = .ok (.sipush 14610, 3) := by decide +kernel
theorem dX12_init_838 : decode cX12_init 838 = .ok (.newarray .int, 2) := by decide +kernel
theorem dX12_init_840 : decode cX12_init 840 = .ok (.putfield 27, 3) := by decide +kernel
theorem dX12_init_843 : decode cX12_init 843 = .ok (.aload_n 0, 1) := by decide +kernel
theorem dX12_init_844 : decode cX12_init 844 = .ok (.sipush 14610, 3) := by decide +kernel
theorem dX12_init_847 : decode cX12_init 847 = .ok (.newarray .int, 2) := by decide +kernel
theorem dX12_init_849 : decode cX12_init 849 = .ok (.putfield 30, 3) := by decide +kernel
theorem dX12_init_852 : decode cX12_init 852 = .ok (.aload_n 0, 1) := by decide +kernel
theorem dX12_init_853 : decode cX12_init 853 = .ok (.sipush 14610, 3) := by decide +kernel
theorem dX12_init_856 : decode cX12_init 856 = .ok (.newarray .int, 2) := by decide +kernel
theorem dX12_init_858 : decode cX12_init 858 = .ok (.putfield 33, 3) := by decide +kernel
theorem dX12_init_861 : decode cX12_init 861 = .ok (.aload_n 0, 1) := by decide +kernel
theorem dX12_init_862 : decode cX12_init 862 = .ok (.sipush 272, 3) := by decide +kernel
theorem dX12_init_865 : decode cX12_init 865 = .ok (.newarray .int, 2) := by decide +kernel
theorem dX12_init_867 : decode cX12_init 867 = .ok (.putfield 36, 3) := by decide +kernel
theorem dX12_init_870 : decode cX12_init 870 = .ok (.aload_n 0, 1) := by decide +kernel
theorem dX12_init_871 : decode cX12_init 871 = .ok (.sipush 272, 3) := by decide +kernel
theorem dX12_init_874 : decode cX12_init 874 = .ok (.newarray .int, 2) := by decide +kernel
theorem dX12_init_876 : decode cX12_init 876 = .ok (.putfield 39, 3) := by decide +kernel
theorem dX12_init_879 : decode cX12_init 879 = .ok (.aload_n 0, 1) := by decide +kernel
theorem dX12_init_880 : decode cX12_init 880 = .ok (.sipush 3000, 3) := by decide +kernel
theorem dX12_init_883 : decode cX12_init 883 = .ok (.newarray .int, 2) := by decide +kernel
theorem dX12_init_885 : decode cX12_init 885 = .ok (.putfield 42, 3) := by decide +kernel
theorem dX12_init_888 : decode cX12_init 888 = .ok (.aload_n 0, 1) := by decide +kernel
theorem dX12_init_889 : decode cX12_init 889 = .ok (.sipush 3000, 3) := by decide +kernel
theorem dX12_init_892 : decode cX12_init 892 = .ok (.newarray .int, 2) := by decide +kernel
theorem dX12_init_894 : decode cX12_init 894 = .ok (.putfield 45, 3) := by decide +kernel
theorem dX12_init_897 : decode cX12_init 897 = .ok (.aload_n 0, 1) := by decide +kernel
theorem dX12_init_898 : decode cX12_init 898 = .ok (.bipush 64, 2) := by decide +kernel
theorem dX12_init_900 : decode cX12_init 900 = .ok (.newarray .int, 2) := by decide +kernel
theorem dX12_init_902 : decode cX12_init 902 = .ok (.putfield 48, 3) := by decide +kernel
theorem dX12_init_905 : decode cX12_init 905 = .ok (.aload_n 0, 1) := by decide +kernel
theorem dX12_init_906 : decode cX12_init 906 = .ok (.bipush 8, 2) := by decide +kernel
theorem dX12_init_908 : decode cX12_init 908 = .ok (.newarray .int, 2) := by decide +kernel
theorem dX12_init_910 : decode cX12_init 910 = .ok (.putfield 51, 3) := by decide +kernel
theorem dX12_init_913 : decode cX12_init 913 = .ok (.aload_n 0, 1) := by decide +kernel
theorem dX12_init_914 : decode cX12_init 914 = .ok (.sipush 264, 3) := by decide +kernel
theorem dX12_init_917 : decode cX12_init 917 = .ok (.newarray .int, 2) := by decide +kernel
theorem dX12_init_919 : decode cX12_init 919 = .ok (.putfield 54, 3) := by decide +kernel
theorem dX12_init_922 : decode cX12_init 922 = .ok (.aload_n 0, 1) := by decide +kernel
theorem dX12_init_923 : decode cX12_init 923 = .ok (.ldc 57, 2) := by decide +kernel
theorem dX12_init_925 : decode cX12_init 925 = .ok (.newarray .boolean, 2) := by decide +kernel
theorem dX12_init_927 : decode cX12_init 927 = .ok (.putfield 58, 3) := by decide +kernel
theorem dX12_init_930 : decode cX12_init 930 = .ok (.aload_n 0, 1) := by decide +kernel
theorem dX12_init_931 : decode cX12_init 931 = .ok (.bipush 12, 2) := by decide +kernel
theorem dX12_init_933 : decode cX12_init 933 = .ok (.newarray .boolean, 2) := by decide +kernel
theorem dX12_init_935 : decode cX12_init 935 = .ok (.putfield 62, 3) := by decide +kernel
theorem dX12_init_938 : decode cX12_init 938 = .ok (.aload_n 0, 1) := by decide +kernel
theorem dX12_init_939 : decode cX12_init 939 = .ok (.sipush 14610, 3) := by decide +kernel
theorem dX12_init_942 : decode cX12_init 942 = .ok (.newarray .boolean, 2) := by decide +kernel
theorem dX12_init_944 : decode cX12_init 944 = .ok (.putfield 65, 3) := by decide +kernel
theorem dX12_init_947 : decode cX12_init 947 = .ok (.aload_n 0, 1) := by decide +kernel
theorem dX12_init_948 : decode cX12_init 948 = .ok (.ldc 68, 2) := by decide +kernel
theorem dX12_init_950 : decode cX12_init 950 = .ok (.newarray .boolean, 2) := by decide +kernel
theorem dX12_init_952 : decode cX12_init 952 = .ok (.putfield 69, 3) := by decide +kernel
theorem dX12_init_955 : decode cX12_init 955 = .ok (.aload_n 0, 1) := by decide +kernel
theorem dX12_init_956 : decode cX12_init 956 = .ok (.sipush 14610, 3) := by decide +kernel
theorem dX12_init_959 : decode cX12_init 959 = .ok (.newarray .boolean, 2) := by decide +kernel
theorem dX12_init_961 : decode cX12_init 961 = .ok (.putfield 72, 3) := by decide +kernel
theorem dX12_init_964 : decode cX12_init 964 = .ok (.aload_n 0, 1) := by decide +kernel
theorem dX12_init_965 : decode cX12_init 965 = .ok (.bipush 12, 2) := by decide +kernel
theorem dX12_init_967 : decode cX12_init 967 = .ok (.newarray .int, 2) := by decide +kernel
theorem dX12_init_969 : decode cX12_init 969 = .ok (.putfield 75, 3) := by decide +kernel
theorem dX12_init_972 : decode cX12_init 972 = .ok (.aload_n 0, 1) := by decide +kernel
theorem dX12_init_973 : decode cX12_init 973 = .ok (.bipush 12, 2) := by decide +kernel
theorem dX12_init_975 : decode cX12_init 975 = .ok (.newarray .boolean, 2) := by decide +kernel
theorem dX12_init_977 : decode cX12_init 977 = .ok (.putfield 78, 3) := by decide +kernel
theorem dX12_init_980 : decode cX12_init 980 = .ok (.aload_n 0, 1) := by decide +kernel
theorem dX12_init_981 : decode cX12_init 981 = .ok (.bipush 61, 2) := by decide +kernel
theorem dX12_init_983 : decode cX12_init 983 = .ok (.newarray .boolean, 2) := by decide +kernel
theorem dX12_init_985 : decode cX12_init 985 = .ok (.putfield 81, 3) := by decide +kernel
theorem dX12_init_988 : decode cX12_init 988 = .ok (.aload_n 0, 1) := by decide +kernel
theorem dX12_init_989 : decode cX12_init 989 = .ok (.sipush 14610, 3) := by decide +kernel
theorem dX12_init_992 : decode cX12_init 992 = .ok (.newarray .boolean, 2) := by decide +kernel
theorem dX12_init_994 : decode cX12_init 994 = .ok (.putfield 84, 3) := by decide +kernel
theorem dX12_init_997 : decode cX12_init 997 = .ok (.aload_n 0, 1) := by decide +kernel
theorem dX12_init_998 : decode cX12_init 998 = .ok (.sipush 366, 3) := by decide +kernel
theorem dX12_init_1001 : decode cX12_init 1001 = .ok (.newarray .int, 2) := by decide +kernel
theorem dX12_init_1003 : decode cX12_init 1003 = .ok (.putfield 87, 3) := by decide +kernel
theorem dX12_init_1006 : decode cX12_init 1006 = .ok (.aload_n 0, 1) := by decide +kernel
theorem dX12_init_1007 : decode cX12_init 1007 = .ok (.sipush 5280, 3) := by decide +kernel
theorem dX12_init_1010 : decode cX12_init 1010 = .ok (.newarray .int, 2) := by decide +kernel
theorem dX12_init_1012 : decode cX12_init 1012 = .ok (.putfield 90, 3) := by decide +kernel
theorem dX12_init_1015 : decode cX12_init 1015 = .ok (.aload_n 0, 1) := by decide +kernel
theorem dX12_init_1016 : decode cX12_init 1016 = .ok (.lconst 1, 1) := by decide +kernel
theorem dX12_init_1017 : decode cX12_init 1017 = .ok (.putfield 93, 3) := by decide +kernel
theorem dX12_init_1020 : decode cX12_init 1020 = .ok (.return_, 1) := by decide +kernel
theorem dL_law_0 : decode cL_law 0 = .ok (.new 7, 3) := by decide +kernel
theorem dL_law_3 : decode cL_law 3 = .ok (.dup, 1) := by decide +kernel
theorem dL_law_4 : decode cL_law 4 = .ok (.invokespecial 9, 3) := by decide +kernel
theorem dL_law_7 : decode cL_law 7 = .ok (.astore_n 1, 1) := by decide +kernel
theorem dL_law_8 : decode cL_law 8 = .ok (.new 10, 3) := by decide +kernel
theorem dL_law_11 : decode cL_law 11 = .ok (.dup, 1) := by decide +kernel
theorem dL_law_12 : decode cL_law 12 = .ok (.invokespecial 12, 3) := by decide +kernel
theorem dL_law_15 : decode cL_law 15 = .ok (.astore_n 2, 1) := by decide +kernel
theorem dL_law_16 : decode cL_law 16 = .ok (.iconst 0, 1) := by decide +kernel
theorem dL_law_17 : decode cL_law 17 = .ok (.istore_n 3, 1) := by decide +kernel
theorem dL_law_18 : decode cL_law 18 = .ok (.iload_n 3, 1) := by decide +kernel
theorem dL_law_19 : decode cL_law 19 = .ok (.aload_n 0, 1) := by decide +kernel
theorem dL_law_20 : decode cL_law 20 = .ok (.arraylength, 1) := by decide +kernel
theorem dL_law_21 : decode cL_law 21 = .ok (.bipush 6, 2) := by decide +kernel
theorem dL_law_23 : decode cL_law 23 = .ok (.isub, 1) := by decide +kernel
theorem dL_law_24 : decode cL_law 24 = .ok (.if_icmp .gt 1127, 3) := by decide +kernel
theorem dL_law_27 : decode cL_law 27 = .ok (.aload_n 0, 1) := by decide +kernel
theorem dL_law_28 : decode cL_law 28 = .ok (.iload_n 3, 1) := by decide +kernel
theorem dL_law_29 : decode cL_law 29 = .ok (.iaload, 1) := by decide +kernel
theorem dL_law_30 : decode cL_law 30 = .ok (.bipush 31, 2) := by decide +kernel
theorem dL_law_32 : decode cL_law 32 = .ok (.iand, 1) := by decide +kernel
theorem dL_law_33 : decode cL_law 33 = .ok (.tableswitch 1112 0 30 #[139, 202, 225, 238, 261, 284, 317, 350, 393, 426, 459, 492, 525, 558, 601, 634, 677, 730, 763, 806, 829, 852, 875, 898, 931, 964, 997, 1030, 1053, 1066, 1089], 139) := by decide +kernel
theorem dL_law_172 : decode cL_law 172 = .ok (.aload_n 1, 1) := by decide +kernel
theorem dL_law_173 : decode cL_law 173 = .ok (.aload_n 0, 1) := by decide +kernel
theorem dL_law_174 : decode cL_law 174 = .ok (.iload_n 3, 1) := by decide +kernel
theorem dL_law_175 : decode cL_law 175 = .ok (.iconst 1, 1) := by decide +kernel
theorem dL_law_176 : decode cL_law 176 = .ok (.iadd, 1) := by decide +kernel
theorem dL_law_177 : decode cL_law 177 = .ok (.iaload, 1) := by decide +kernel
theorem dL_law_178 : decode cL_law 178 = .ok (.aload_n 0, 1) := by decide +kernel
theorem dL_law_179 : decode cL_law 179 = .ok (.iload_n 3, 1) := by decide +kernel
theorem dL_law_180 : decode cL_law 180 = .ok (.iconst 2, 1) := by decide +kernel
theorem dL_law_181 : decode cL_law 181 = .ok (.iadd, 1) := by decide +kernel
theorem dL_law_182 : decode cL_law 182 = .ok (.iaload, 1) := by decide +kernel
theorem dL_law_183 : decode cL_law 183 = .ok (.aload_n 0, 1) := by decide +kernel
theorem dL_law_184 : decode cL_law 184 = .ok (.iload_n 3, 1) := by decide +kernel
theorem dL_law_185 : decode cL_law 185 = .ok (.iconst 3, 1) := by decide +kernel
theorem dL_law_186 : decode cL_law 186 = .ok (.iadd, 1) := by decide +kernel
theorem dL_law_187 : decode cL_law 187 = .ok (.iaload, 1) := by decide +kernel
theorem dL_law_188 : decode cL_law 188 = .ok (.aload_n 0, 1) := by decide +kernel
theorem dL_law_189 : decode cL_law 189 = .ok (.iload_n 3, 1) := by decide +kernel
theorem dL_law_190 : decode cL_law 190 = .ok (.iconst 4, 1) := by decide +kernel
theorem dL_law_191 : decode cL_law 191 = .ok (.iadd, 1) := by decide +kernel
theorem dL_law_192 : decode cL_law 192 = .ok (.iaload, 1) := by decide +kernel
theorem dL_law_193 : decode cL_law 193 = .ok (.aload_n 0, 1) := by decide +kernel
theorem dL_law_194 : decode cL_law 194 = .ok (.iload_n 3, 1) := by decide +kernel
theorem dL_law_195 : decode cL_law 195 = .ok (.iconst 5, 1) := by decide +kernel
theorem dL_law_196 : decode cL_law 196 = .ok (.iadd, 1) := by decide +kernel
theorem dL_law_197 : decode cL_law 197 = .ok (.iaload, 1) := by decide +kernel
theorem dL_law_198 : decode cL_law 198 = .ok (.invokevirtual 13, 3) := by decide +kernel
theorem dL_law_201 : decode cL_law 201 = .ok (.aload_n 2, 1) := by decide +kernel
theorem dL_law_202 : decode cL_law 202 = .ok (.aload_n 0, 1) := by decide +kernel
theorem dL_law_203 : decode cL_law 203 = .ok (.iload_n 3, 1) := by decide +kernel
theorem dL_law_204 : decode cL_law 204 = .ok (.iconst 1, 1) := by decide +kernel
theorem dL_law_205 : decode cL_law 205 = .ok (.iadd, 1) := by decide +kernel
theorem dL_law_206 : decode cL_law 206 = .ok (.iaload, 1) := by decide +kernel
theorem dL_law_207 : decode cL_law 207 = .ok (.aload_n 0, 1) := by decide +kernel
theorem dL_law_208 : decode cL_law 208 = .ok (.iload_n 3, 1) := by decide +kernel
theorem dL_law_209 : decode cL_law 209 = .ok (.iconst 2, 1) := by decide +kernel
theorem dL_law_210 : decode cL_law 210 = .ok (.iadd, 1) := by decide +kernel
theorem dL_law_211 : decode cL_law 211 = .ok (.iaload, 1) := by decide +kernel
theorem dL_law_212 : decode cL_law 212 = .ok (.aload_n 0, 1) := by decide +kernel
theorem dL_law_213 : decode cL_law 213 = .ok (.iload_n 3, 1) := by decide +kernel
theorem dL_law_214 : decode cL_law 214 = .ok (.iconst 3, 1) := by decide +kernel
theorem dL_law_215 : decode cL_law 215 = .ok (.iadd, 1) := by decide +kernel
theorem dL_law_216 : decode cL_law 216 = .ok (.iaload, 1) := by decide +kernel
theorem dL_law_217 : decode cL_law 217 = .ok (.aload_n 0, 1) := by decide +kernel
theorem dL_law_218 : decode cL_law 218 = .ok (.iload_n 3, 1) := by decide +kernel
theorem dL_law_219 : decode cL_law 219 = .ok (.iconst 4, 1) := by decide +kernel
theorem dL_law_220 : decode cL_law 220 = .ok (.iadd, 1) := by decide +kernel
theorem dL_law_221 : decode cL_law 221 = .ok (.iaload, 1) := by decide +kernel
theorem dL_law_222 : decode cL_law 222 = .ok (.aload_n 0, 1) := by decide +kernel
theorem dL_law_223 : decode cL_law 223 = .ok (.iload_n 3, 1) := by decide +kernel
theorem dL_law_224 : decode cL_law 224 = .ok (.iconst 5, 1) := by decide +kernel
theorem dL_law_225 : decode cL_law 225 = .ok (.iadd, 1) := by decide +kernel
theorem dL_law_226 : decode cL_law 226 = .ok (.iaload, 1) := by decide +kernel
theorem dL_law_227 : decode cL_law 227 = .ok (.invokevirtual 17, 3) := by decide +kernel
theorem dL_law_230 : decode cL_law 230 = .ok (.if_icmp .eq 915, 3) := by decide +kernel
theorem dL_law_233 : decode cL_law 233 = .ok (.iconst 0, 1) := by decide +kernel
theorem dL_law_234 : decode cL_law 234 = .ok (.ireturn, 1) := by decide +kernel
theorem dL_law_235 : decode cL_law 235 = .ok (.aload_n 1, 1) := by decide +kernel
theorem dL_law_236 : decode cL_law 236 = .ok (.aload_n 0, 1) := by decide +kernel
theorem dL_law_237 : decode cL_law 237 = .ok (.iload_n 3, 1) := by decide +kernel
theorem dL_law_238 : decode cL_law 238 = .ok (.iconst 1, 1) := by decide +kernel
theorem dL_law_239 : decode cL_law 239 = .ok (.iadd, 1) := by decide +kernel
theorem dL_law_240 : decode cL_law 240 = .ok (.iaload, 1) := by decide +kernel
theorem dL_law_241 : decode cL_law 241 = .ok (.invokevirtual 18, 3) := by decide +kernel
theorem dL_law_244 : decode cL_law 244 = .ok (.aload_n 2, 1) := by decide +kernel
theorem dL_law_245 : decode cL_law 245 = .ok (.aload_n 0, 1) := by decide +kernel
theorem dL_law_246 : decode cL_law 246 = .ok (.iload_n 3, 1) := by decide +kernel
theorem dL_law_247 : decode cL_law 247 = .ok (.iconst 1, 1) := by decide +kernel
theorem dL_law_248 : decode cL_law 248 = .ok (.iadd, 1) := by decide +kernel
theorem dL_law_249 : decode cL_law 249 = .ok (.iaload, 1) := by decide +kernel
theorem dL_law_250 : decode cL_law 250 = .ok (.invokevirtual 22, 3) := by decide +kernel
theorem dL_law_253 : decode cL_law 253 = .ok (.if_icmp .eq 892, 3) := by decide +kernel
theorem dL_law_256 : decode cL_law 256 = .ok (.iconst 0, 1) := by decide +kernel
theorem dL_law_257 : decode cL_law 257 = .ok (.ireturn, 1) := by decide +kernel
theorem dL_law_258 : decode cL_law 258 = .ok (.aload_n 1, 1) := by decide +kernel
theorem dL_law_259 : decode cL_law 259 = .ok (.invokevirtual 23, 3) := by decide +kernel
theorem dL_law_262 : decode cL_law 262 = .ok (.aload_n 2, 1) := by decide +kernel
theorem dL_law_263 : decode cL_law 263 = .ok (.invokevirtual 27, 3) := by decide +kernel
theorem dL_law_266 : decode cL_law 266 = .ok (.if_icmp .eq 879, 3) := by decide +kernel
theorem dL_law_269 : decode cL_law 269 = .ok (.iconst 0, 1) := by decide +kernel
theorem dL_law_270 : decode cL_law 270 = .ok (.ireturn, 1) := by decide +kernel
theorem dL_law_271 : decode cL_law 271 = .ok (.aload_n 1, 1) := by decide +kernel
theorem dL_law_272 : decode cL_law 272 = .ok (.aload_n 0, 1) := by decide +kernel
theorem dL_law_273 : decode cL_law 273 = .ok (.iload_n 3, 1) := by decide +kernel
theorem dL_law_274 : decode cL_law 274 = .ok (.iconst 1, 1) := by decide +kernel
theorem dL_law_275 : decode cL_law 275 = .ok (.iadd, 1) := by decide +kernel
theorem dL_law_276 : decode cL_law 276 = .ok (.iaload, 1) := by decide +kernel
theorem dL_law_277 : decode cL_law 277 = .ok (.invokevirtual 28, 3) := by decide +kernel
theorem dL_law_280 : decode cL_law 280 = .ok (.aload_n 2, 1) := by decide +kernel
theorem dL_law_281 : decode cL_law 281 = .ok (.aload_n 0, 1) := by decide +kernel
theorem dL_law_282 : decode cL_law 282 = .ok (.iload_n 3, 1) := by decide +kernel

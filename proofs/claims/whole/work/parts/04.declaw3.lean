theorem d_LA_law_805 : decode b_LA_law 805 = .ok (.aload_n 3, 1) := by decide +kernel
theorem d_LA_law_806 : decode b_LA_law 806 = .ok (.iconst 0, 1) := by decide +kernel
theorem d_LA_law_807 : decode b_LA_law 807 = .ok (.laload, 1) := by decide +kernel
theorem d_LA_law_808 : decode b_LA_law 808 = .ok (.iload 6, 2) := by decide +kernel
theorem d_LA_law_810 : decode b_LA_law 810 = .ok (.i2l, 1) := by decide +kernel
theorem d_LA_law_811 : decode b_LA_law 811 = .ok (.lcmp, 1) := by decide +kernel
theorem d_LA_law_812 : decode b_LA_law 812 = .ok (.ifCond .eq 5, 3) := by decide +kernel
theorem d_LA_law_815 : decode b_LA_law 815 = .ok (.iconst 0, 1) := by decide +kernel
theorem d_LA_law_816 : decode b_LA_law 816 = .ok (.ireturn, 1) := by decide +kernel
theorem d_LA_law_817 : decode b_LA_law 817 = .ok (.goto 195, 3) := by decide +kernel
theorem d_LA_law_820 : decode b_LA_law 820 = .ok (.aload_n 1, 1) := by decide +kernel
theorem d_LA_law_821 : decode b_LA_law 821 = .ok (.aload_n 0, 1) := by decide +kernel
theorem d_LA_law_822 : decode b_LA_law 822 = .ok (.iload 4, 2) := by decide +kernel
theorem d_LA_law_824 : decode b_LA_law 824 = .ok (.iconst 1, 1) := by decide +kernel
theorem d_LA_law_825 : decode b_LA_law 825 = .ok (.iadd, 1) := by decide +kernel
theorem d_LA_law_826 : decode b_LA_law 826 = .ok (.iaload, 1) := by decide +kernel
theorem d_LA_law_827 : decode b_LA_law 827 = .ok (.aload_n 0, 1) := by decide +kernel
theorem d_LA_law_828 : decode b_LA_law 828 = .ok (.iload 4, 2) := by decide +kernel
theorem d_LA_law_830 : decode b_LA_law 830 = .ok (.iconst 2, 1) := by decide +kernel
theorem d_LA_law_831 : decode b_LA_law 831 = .ok (.iadd, 1) := by decide +kernel
theorem d_LA_law_832 : decode b_LA_law 832 = .ok (.iaload, 1) := by decide +kernel
theorem d_LA_law_833 : decode b_LA_law 833 = .ok (.aload_n 0, 1) := by decide +kernel
theorem d_LA_law_834 : decode b_LA_law 834 = .ok (.iload 4, 2) := by decide +kernel
theorem d_LA_law_836 : decode b_LA_law 836 = .ok (.iconst 3, 1) := by decide +kernel
theorem d_LA_law_837 : decode b_LA_law 837 = .ok (.iadd, 1) := by decide +kernel
theorem d_LA_law_838 : decode b_LA_law 838 = .ok (.iaload, 1) := by decide +kernel
theorem d_LA_law_839 : decode b_LA_law 839 = .ok (.aload_n 3, 1) := by decide +kernel
theorem d_LA_law_840 : decode b_LA_law 840 = .ok (.invokestatic 128, 3) := by decide +kernel
theorem d_LA_law_843 : decode b_LA_law 843 = .ok (.istore 5, 2) := by decide +kernel
theorem d_LA_law_845 : decode b_LA_law 845 = .ok (.aload_n 2, 1) := by decide +kernel
theorem d_LA_law_846 : decode b_LA_law 846 = .ok (.aload_n 0, 1) := by decide +kernel
theorem d_LA_law_847 : decode b_LA_law 847 = .ok (.iload 4, 2) := by decide +kernel
theorem d_LA_law_849 : decode b_LA_law 849 = .ok (.iconst 1, 1) := by decide +kernel
theorem d_LA_law_850 : decode b_LA_law 850 = .ok (.iadd, 1) := by decide +kernel
theorem d_LA_law_851 : decode b_LA_law 851 = .ok (.iaload, 1) := by decide +kernel
theorem d_LA_law_852 : decode b_LA_law 852 = .ok (.aload_n 0, 1) := by decide +kernel
theorem d_LA_law_853 : decode b_LA_law 853 = .ok (.iload 4, 2) := by decide +kernel
theorem d_LA_law_855 : decode b_LA_law 855 = .ok (.iconst 2, 1) := by decide +kernel
theorem d_LA_law_856 : decode b_LA_law 856 = .ok (.iadd, 1) := by decide +kernel
theorem d_LA_law_857 : decode b_LA_law 857 = .ok (.iaload, 1) := by decide +kernel
theorem d_LA_law_858 : decode b_LA_law 858 = .ok (.aload_n 0, 1) := by decide +kernel
theorem d_LA_law_859 : decode b_LA_law 859 = .ok (.iload 4, 2) := by decide +kernel
theorem d_LA_law_861 : decode b_LA_law 861 = .ok (.iconst 3, 1) := by decide +kernel
theorem d_LA_law_862 : decode b_LA_law 862 = .ok (.iadd, 1) := by decide +kernel
theorem d_LA_law_863 : decode b_LA_law 863 = .ok (.iaload, 1) := by decide +kernel
theorem d_LA_law_864 : decode b_LA_law 864 = .ok (.invokevirtual 131, 3) := by decide +kernel
theorem d_LA_law_867 : decode b_LA_law 867 = .ok (.istore 6, 2) := by decide +kernel
theorem d_LA_law_869 : decode b_LA_law 869 = .ok (.aload_n 2, 1) := by decide +kernel
theorem d_LA_law_870 : decode b_LA_law 870 = .ok (.invokevirtual 80, 3) := by decide +kernel
theorem d_LA_law_873 : decode b_LA_law 873 = .ok (.iload 5, 2) := by decide +kernel
theorem d_LA_law_875 : decode b_LA_law 875 = .ok (.if_icmp .eq 5, 3) := by decide +kernel
theorem d_LA_law_878 : decode b_LA_law 878 = .ok (.iconst 0, 1) := by decide +kernel
theorem d_LA_law_879 : decode b_LA_law 879 = .ok (.ireturn, 1) := by decide +kernel
theorem d_LA_law_880 : decode b_LA_law 880 = .ok (.iload 5, 2) := by decide +kernel
theorem d_LA_law_882 : decode b_LA_law 882 = .ok (.ifCond .ne 15, 3) := by decide +kernel
theorem d_LA_law_885 : decode b_LA_law 885 = .ok (.aload_n 3, 1) := by decide +kernel
theorem d_LA_law_886 : decode b_LA_law 886 = .ok (.iconst 0, 1) := by decide +kernel
theorem d_LA_law_887 : decode b_LA_law 887 = .ok (.laload, 1) := by decide +kernel
theorem d_LA_law_888 : decode b_LA_law 888 = .ok (.iload 6, 2) := by decide +kernel
theorem d_LA_law_890 : decode b_LA_law 890 = .ok (.i2l, 1) := by decide +kernel
theorem d_LA_law_891 : decode b_LA_law 891 = .ok (.lcmp, 1) := by decide +kernel
theorem d_LA_law_892 : decode b_LA_law 892 = .ok (.ifCond .eq 5, 3) := by decide +kernel
theorem d_LA_law_895 : decode b_LA_law 895 = .ok (.iconst 0, 1) := by decide +kernel
theorem d_LA_law_896 : decode b_LA_law 896 = .ok (.ireturn, 1) := by decide +kernel
theorem d_LA_law_897 : decode b_LA_law 897 = .ok (.goto 115, 3) := by decide +kernel
theorem d_LA_law_900 : decode b_LA_law 900 = .ok (.aload_n 1, 1) := by decide +kernel
theorem d_LA_law_901 : decode b_LA_law 901 = .ok (.aload_n 0, 1) := by decide +kernel
theorem d_LA_law_902 : decode b_LA_law 902 = .ok (.iload 4, 2) := by decide +kernel
theorem d_LA_law_904 : decode b_LA_law 904 = .ok (.iconst 1, 1) := by decide +kernel
theorem d_LA_law_905 : decode b_LA_law 905 = .ok (.iadd, 1) := by decide +kernel
theorem d_LA_law_906 : decode b_LA_law 906 = .ok (.iaload, 1) := by decide +kernel
theorem d_LA_law_907 : decode b_LA_law 907 = .ok (.aload_n 3, 1) := by decide +kernel
theorem d_LA_law_908 : decode b_LA_law 908 = .ok (.invokestatic 132, 3) := by decide +kernel
theorem d_LA_law_911 : decode b_LA_law 911 = .ok (.istore 5, 2) := by decide +kernel
theorem d_LA_law_913 : decode b_LA_law 913 = .ok (.aload_n 2, 1) := by decide +kernel
theorem d_LA_law_914 : decode b_LA_law 914 = .ok (.aload_n 0, 1) := by decide +kernel
theorem d_LA_law_915 : decode b_LA_law 915 = .ok (.iload 4, 2) := by decide +kernel
theorem d_LA_law_917 : decode b_LA_law 917 = .ok (.iconst 1, 1) := by decide +kernel
theorem d_LA_law_918 : decode b_LA_law 918 = .ok (.iadd, 1) := by decide +kernel
theorem d_LA_law_919 : decode b_LA_law 919 = .ok (.iaload, 1) := by decide +kernel
theorem d_LA_law_920 : decode b_LA_law 920 = .ok (.invokevirtual 134, 3) := by decide +kernel
theorem d_LA_law_923 : decode b_LA_law 923 = .ok (.istore 6, 2) := by decide +kernel
theorem d_LA_law_925 : decode b_LA_law 925 = .ok (.aload_n 2, 1) := by decide +kernel
theorem d_LA_law_926 : decode b_LA_law 926 = .ok (.invokevirtual 80, 3) := by decide +kernel
theorem d_LA_law_929 : decode b_LA_law 929 = .ok (.iload 5, 2) := by decide +kernel
theorem d_LA_law_931 : decode b_LA_law 931 = .ok (.if_icmp .eq 5, 3) := by decide +kernel
theorem d_LA_law_934 : decode b_LA_law 934 = .ok (.iconst 0, 1) := by decide +kernel
theorem d_LA_law_935 : decode b_LA_law 935 = .ok (.ireturn, 1) := by decide +kernel
theorem d_LA_law_936 : decode b_LA_law 936 = .ok (.iload 5, 2) := by decide +kernel
theorem d_LA_law_938 : decode b_LA_law 938 = .ok (.ifCond .ne 15, 3) := by decide +kernel
theorem d_LA_law_941 : decode b_LA_law 941 = .ok (.aload_n 3, 1) := by decide +kernel
theorem d_LA_law_942 : decode b_LA_law 942 = .ok (.iconst 0, 1) := by decide +kernel
theorem d_LA_law_943 : decode b_LA_law 943 = .ok (.laload, 1) := by decide +kernel
theorem d_LA_law_944 : decode b_LA_law 944 = .ok (.iload 6, 2) := by decide +kernel
theorem d_LA_law_946 : decode b_LA_law 946 = .ok (.i2l, 1) := by decide +kernel
theorem d_LA_law_947 : decode b_LA_law 947 = .ok (.lcmp, 1) := by decide +kernel
theorem d_LA_law_948 : decode b_LA_law 948 = .ok (.ifCond .eq 5, 3) := by decide +kernel
theorem d_LA_law_951 : decode b_LA_law 951 = .ok (.iconst 0, 1) := by decide +kernel
theorem d_LA_law_952 : decode b_LA_law 952 = .ok (.ireturn, 1) := by decide +kernel
theorem d_LA_law_953 : decode b_LA_law 953 = .ok (.goto 59, 3) := by decide +kernel
theorem d_LA_law_956 : decode b_LA_law 956 = .ok (.aload_n 1, 1) := by decide +kernel
theorem d_LA_law_957 : decode b_LA_law 957 = .ok (.aload_n 0, 1) := by decide +kernel
theorem d_LA_law_958 : decode b_LA_law 958 = .ok (.iload 4, 2) := by decide +kernel
theorem d_LA_law_960 : decode b_LA_law 960 = .ok (.iconst 1, 1) := by decide +kernel
theorem d_LA_law_961 : decode b_LA_law 961 = .ok (.iadd, 1) := by decide +kernel
theorem d_LA_law_962 : decode b_LA_law 962 = .ok (.iaload, 1) := by decide +kernel
theorem d_LA_law_963 : decode b_LA_law 963 = .ok (.aload_n 3, 1) := by decide +kernel
theorem d_LA_law_964 : decode b_LA_law 964 = .ok (.invokestatic 135, 3) := by decide +kernel
theorem d_LA_law_967 : decode b_LA_law 967 = .ok (.istore 5, 2) := by decide +kernel
theorem d_LA_law_969 : decode b_LA_law 969 = .ok (.aload_n 2, 1) := by decide +kernel
theorem d_LA_law_970 : decode b_LA_law 970 = .ok (.aload_n 0, 1) := by decide +kernel
theorem d_LA_law_971 : decode b_LA_law 971 = .ok (.iload 4, 2) := by decide +kernel
theorem d_LA_law_973 : decode b_LA_law 973 = .ok (.iconst 1, 1) := by decide +kernel
theorem d_LA_law_974 : decode b_LA_law 974 = .ok (.iadd, 1) := by decide +kernel
theorem d_LA_law_975 : decode b_LA_law 975 = .ok (.iaload, 1) := by decide +kernel
theorem d_LA_law_976 : decode b_LA_law 976 = .ok (.invokevirtual 137, 3) := by decide +kernel
theorem d_LA_law_979 : decode b_LA_law 979 = .ok (.istore 6, 2) := by decide +kernel
theorem d_LA_law_981 : decode b_LA_law 981 = .ok (.aload_n 2, 1) := by decide +kernel
theorem d_LA_law_982 : decode b_LA_law 982 = .ok (.invokevirtual 80, 3) := by decide +kernel
theorem d_LA_law_985 : decode b_LA_law 985 = .ok (.iload 5, 2) := by decide +kernel
theorem d_LA_law_987 : decode b_LA_law 987 = .ok (.if_icmp .eq 5, 3) := by decide +kernel
theorem d_LA_law_990 : decode b_LA_law 990 = .ok (.iconst 0, 1) := by decide +kernel
theorem d_LA_law_991 : decode b_LA_law 991 = .ok (.ireturn, 1) := by decide +kernel
theorem d_LA_law_992 : decode b_LA_law 992 = .ok (.iload 5, 2) := by decide +kernel
theorem d_LA_law_994 : decode b_LA_law 994 = .ok (.ifCond .ne 15, 3) := by decide +kernel
theorem d_LA_law_997 : decode b_LA_law 997 = .ok (.aload_n 3, 1) := by decide +kernel
theorem d_LA_law_998 : decode b_LA_law 998 = .ok (.iconst 0, 1) := by decide +kernel
theorem d_LA_law_999 : decode b_LA_law 999 = .ok (.laload, 1) := by decide +kernel
theorem d_LA_law_1000 : decode b_LA_law 1000 = .ok (.iload 6, 2) := by decide +kernel
theorem d_LA_law_1002 : decode b_LA_law 1002 = .ok (.i2l, 1) := by decide +kernel
theorem d_LA_law_1003 : decode b_LA_law 1003 = .ok (.lcmp, 1) := by decide +kernel
theorem d_LA_law_1004 : decode b_LA_law 1004 = .ok (.ifCond .eq 5, 3) := by decide +kernel
theorem d_LA_law_1007 : decode b_LA_law 1007 = .ok (.iconst 0, 1) := by decide +kernel
theorem d_LA_law_1008 : decode b_LA_law 1008 = .ok (.ireturn, 1) := by decide +kernel
theorem d_LA_law_1009 : decode b_LA_law 1009 = .ok (.goto 3, 3) := by decide +kernel
theorem d_LA_law_1012 : decode b_LA_law 1012 = .ok (.iinc 4 4, 3) := by decide +kernel
theorem d_LA_law_1015 : decode b_LA_law 1015 = .ok (.goto (-982), 3) := by decide +kernel
theorem d_LA_law_1018 : decode b_LA_law 1018 = .ok (.iconst 1, 1) := by decide +kernel
theorem d_LA_law_1019 : decode b_LA_law 1019 = .ok (.ireturn, 1) := by decide +kernel

/-! ===== the law, instruction by instruction ===== -/
theorem dW888 : decode code 888 = .ok (.goto 4, 3) := by decide +kernel
theorem dW891 : decode code 891 = .ok (.iconst 0, 1) := by decide +kernel
theorem dW892 : decode code 892 = .ok (.invokevirtual 123, 3) := by decide +kernel
theorem dW895 : decode code 895 = .ok (.aload_n 2, 1) := by decide +kernel
theorem dW896 : decode code 896 = .ok (.aload_n 0, 1) := by decide +kernel
theorem dW897 : decode code 897 = .ok (.iload_n 3, 1) := by decide +kernel
theorem dW898 : decode code 898 = .ok (.iconst 1, 1) := by decide +kernel
theorem dW899 : decode code 899 = .ok (.iadd, 1) := by decide +kernel
theorem dW900 : decode code 900 = .ok (.iaload, 1) := by decide +kernel
theorem dW901 : decode code 901 = .ok (.aload_n 0, 1) := by decide +kernel
theorem dW902 : decode code 902 = .ok (.iload_n 3, 1) := by decide +kernel
theorem dW903 : decode code 903 = .ok (.iconst 2, 1) := by decide +kernel
theorem dW904 : decode code 904 = .ok (.iadd, 1) := by decide +kernel
theorem dW905 : decode code 905 = .ok (.iaload, 1) := by decide +kernel
theorem dW906 : decode code 906 = .ok (.ifCond .eq 7, 3) := by decide +kernel
theorem dW909 : decode code 909 = .ok (.iconst 1, 1) := by decide +kernel
theorem dW910 : decode code 910 = .ok (.goto 4, 3) := by decide +kernel
theorem dW913 : decode code 913 = .ok (.iconst 0, 1) := by decide +kernel
theorem dW914 : decode code 914 = .ok (.invokevirtual 127, 3) := by decide +kernel
theorem dW917 : decode code 917 = .ok (.if_icmp .eq 103, 3) := by decide +kernel
theorem dW920 : decode code 920 = .ok (.iconst 0, 1) := by decide +kernel
theorem dW921 : decode code 921 = .ok (.ireturn, 1) := by decide +kernel
theorem dW922 : decode code 922 = .ok (.aload_n 1, 1) := by decide +kernel
theorem dW923 : decode code 923 = .ok (.aload_n 0, 1) := by decide +kernel
theorem dW924 : decode code 924 = .ok (.iload_n 3, 1) := by decide +kernel
theorem dW925 : decode code 925 = .ok (.iconst 1, 1) := by decide +kernel
theorem dW926 : decode code 926 = .ok (.iadd, 1) := by decide +kernel
theorem dW927 : decode code 927 = .ok (.iaload, 1) := by decide +kernel
theorem dW928 : decode code 928 = .ok (.aload_n 0, 1) := by decide +kernel
theorem dW929 : decode code 929 = .ok (.iload_n 3, 1) := by decide +kernel
theorem dW930 : decode code 930 = .ok (.iconst 2, 1) := by decide +kernel
theorem dW931 : decode code 931 = .ok (.iadd, 1) := by decide +kernel
theorem dW932 : decode code 932 = .ok (.iaload, 1) := by decide +kernel
theorem dW933 : decode code 933 = .ok (.ifCond .eq 7, 3) := by decide +kernel
theorem dW936 : decode code 936 = .ok (.iconst 1, 1) := by decide +kernel
theorem dW937 : decode code 937 = .ok (.goto 4, 3) := by decide +kernel
theorem dW940 : decode code 940 = .ok (.iconst 0, 1) := by decide +kernel
theorem dW941 : decode code 941 = .ok (.invokevirtual 128, 3) := by decide +kernel
theorem dW944 : decode code 944 = .ok (.aload_n 2, 1) := by decide +kernel
theorem dW945 : decode code 945 = .ok (.aload_n 0, 1) := by decide +kernel
theorem dW946 : decode code 946 = .ok (.iload_n 3, 1) := by decide +kernel
theorem dW947 : decode code 947 = .ok (.iconst 1, 1) := by decide +kernel
theorem dW948 : decode code 948 = .ok (.iadd, 1) := by decide +kernel
theorem dW949 : decode code 949 = .ok (.iaload, 1) := by decide +kernel
theorem dW950 : decode code 950 = .ok (.aload_n 0, 1) := by decide +kernel
theorem dW951 : decode code 951 = .ok (.iload_n 3, 1) := by decide +kernel
theorem dW952 : decode code 952 = .ok (.iconst 2, 1) := by decide +kernel
theorem dW953 : decode code 953 = .ok (.iadd, 1) := by decide +kernel
theorem dW954 : decode code 954 = .ok (.iaload, 1) := by decide +kernel
theorem dW955 : decode code 955 = .ok (.ifCond .eq 7, 3) := by decide +kernel
theorem dW958 : decode code 958 = .ok (.iconst 1, 1) := by decide +kernel
theorem dW959 : decode code 959 = .ok (.goto 4, 3) := by decide +kernel
theorem dW962 : decode code 962 = .ok (.iconst 0, 1) := by decide +kernel
theorem dW963 : decode code 963 = .ok (.invokevirtual 131, 3) := by decide +kernel
theorem dW966 : decode code 966 = .ok (.if_icmp .eq 54, 3) := by decide +kernel
theorem dW969 : decode code 969 = .ok (.iconst 0, 1) := by decide +kernel
theorem dW970 : decode code 970 = .ok (.ireturn, 1) := by decide +kernel
theorem dW971 : decode code 971 = .ok (.aload_n 1, 1) := by decide +kernel
theorem dW972 : decode code 972 = .ok (.invokevirtual 132, 3) := by decide +kernel
theorem dW975 : decode code 975 = .ok (.aload_n 2, 1) := by decide +kernel
theorem dW976 : decode code 976 = .ok (.invokevirtual 135, 3) := by decide +kernel
theorem dW979 : decode code 979 = .ok (.if_icmp .eq 41, 3) := by decide +kernel
theorem dW982 : decode code 982 = .ok (.iconst 0, 1) := by decide +kernel
theorem dW983 : decode code 983 = .ok (.ireturn, 1) := by decide +kernel
theorem dW984 : decode code 984 = .ok (.aload_n 1, 1) := by decide +kernel
theorem dW985 : decode code 985 = .ok (.invokevirtual 136, 3) := by decide +kernel
theorem dW988 : decode code 988 = .ok (.aload_n 2, 1) := by decide +kernel
theorem dW989 : decode code 989 = .ok (.invokevirtual 139, 3) := by decide +kernel
theorem dW992 : decode code 992 = .ok (.if_icmp .eq 28, 3) := by decide +kernel
theorem dW995 : decode code 995 = .ok (.iconst 0, 1) := by decide +kernel
theorem dW996 : decode code 996 = .ok (.ireturn, 1) := by decide +kernel
theorem dW997 : decode code 997 = .ok (.aload_n 1, 1) := by decide +kernel
theorem dW998 : decode code 998 = .ok (.aload_n 0, 1) := by decide +kernel
theorem dW999 : decode code 999 = .ok (.iload_n 3, 1) := by decide +kernel
theorem dW1000 : decode code 1000 = .ok (.iconst 1, 1) := by decide +kernel
theorem dW1001 : decode code 1001 = .ok (.iadd, 1) := by decide +kernel
theorem dW1002 : decode code 1002 = .ok (.iaload, 1) := by decide +kernel
theorem dW1003 : decode code 1003 = .ok (.invokevirtual 140, 3) := by decide +kernel
theorem dW1006 : decode code 1006 = .ok (.aload_n 2, 1) := by decide +kernel
theorem dW1007 : decode code 1007 = .ok (.aload_n 0, 1) := by decide +kernel
theorem dW1008 : decode code 1008 = .ok (.iload_n 3, 1) := by decide +kernel
theorem dW1009 : decode code 1009 = .ok (.iconst 1, 1) := by decide +kernel
theorem dW1010 : decode code 1010 = .ok (.iadd, 1) := by decide +kernel
theorem dW1011 : decode code 1011 = .ok (.iaload, 1) := by decide +kernel
theorem dW1012 : decode code 1012 = .ok (.invokevirtual 143, 3) := by decide +kernel
theorem dW1015 : decode code 1015 = .ok (.if_icmp .eq 5, 3) := by decide +kernel
theorem dW1018 : decode code 1018 = .ok (.iconst 0, 1) := by decide +kernel
theorem dW1019 : decode code 1019 = .ok (.ireturn, 1) := by decide +kernel
theorem dW1020 : decode code 1020 = .ok (.iinc 3 6, 3) := by decide +kernel
theorem dW1023 : decode code 1023 = .ok (.goto (-995), 3) := by decide +kernel
theorem dW1026 : decode code 1026 = .ok (.iconst 1, 1) := by decide +kernel
theorem dW1027 : decode code 1027 = .ok (.ireturn, 1) := by decide +kernel

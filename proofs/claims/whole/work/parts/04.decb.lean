set_option maxRecDepth 20000 in
theorem ggX8_span_X6_init : GoodIn wsX8_span wsX6_init := goodIn_r _ [8, 9, 10, 11, 12, 13, 14, 15, 16, 17, 18, 19, 20, 21, 22, 23, 24, 25, 26, 128, 129, 130, 131, 132, 133, 134, 135, 136, 137, 138] (by decide +kernel) (by decide +kernel)
set_option maxRecDepth 20000 in
theorem gX8_span_X6_init : GoodIn wsX8_span (wsX6_init) := ggX8_span_X6_init
set_option maxRecDepth 20000 in
theorem ggX8_span_X8_knownPrimes : GoodIn wsX8_span wsX8_knownPrimes := goodIn_r _ [31, 32, 33, 34, 35, 36, 37, 38, 39, 10, 11, 40, 41, 42, 43, 17, 18, 44, 45, 46, 23, 24, 25, 12, 26, 47, 48, 49, 50, 51, 52, 53, 54, 55, 56, 57, 58, 59, 60, 61, 62, 63, 64, 65, 122, 123, 124, 125, 126, 127, 139, 140, 138] (by decide +kernel) (by decide +kernel)
set_option maxRecDepth 20000 in
theorem gX8_span_X8_knownPrimes : GoodIn wsX8_span (wsV RX8 18 RX8 yX8_knownPrimes wsX8_knownPrimes) := goodIn_app (goodIn_of _ (by decide +kernel)) ggX8_span_X8_knownPrimes
set_option maxRecDepth 20000 in
theorem ggX8_span_X6_sieve : GoodIn wsX8_span wsX6_sieve := goodIn_r _ [69, 20, 70, 63, 64, 65, 71, 72, 73, 21, 19, 13, 14, 15, 74, 75, 76, 77, 18, 78, 26, 79, 80, 81, 82, 83, 84, 85, 35, 86, 42, 41, 87, 88, 89, 5, 90, 91, 92, 93, 94, 95, 96, 97, 98, 99, 100, 101, 102, 103, 104, 105, 106, 107, 108, 109, 110, 111, 112, 113, 114, 115, 116, 117, 118, 119, 120, 121, 128, 129, 130, 131, 132, 133, 134, 135, 136, 137, 139, 140, 138] (by decide +kernel) (by decide +kernel)
set_option maxRecDepth 20000 in
theorem gX8_span_X6_sieve : GoodIn wsX8_span (wsV RX8 22 RX6 yX6_sieve wsX6_sieve) := goodIn_app (goodIn_of _ (by decide +kernel)) ggX8_span_X6_sieve
theorem dX8_span_0 : decode cX8_span 0 = .ok (.iload_n 3, 1) := by decide +kernel
theorem dX8_span_1 : decode cX8_span 1 = .ok (.iconst 1, 1) := by decide +kernel
theorem dX8_span_2 : decode cX8_span 2 = .ok (.if_icmp .lt 29, 3) := by decide +kernel
theorem dX8_span_5 : decode cX8_span 5 = .ok (.iload_n 3, 1) := by decide +kernel
theorem dX8_span_6 : decode cX8_span 6 = .ok (.sipush 5000, 3) := by decide +kernel
theorem dX8_span_9 : decode cX8_span 9 = .ok (.if_icmp .gt 22, 3) := by decide +kernel
theorem dX8_span_12 : decode cX8_span 12 = .ok (.lload_n 1, 1) := by decide +kernel
theorem dX8_span_13 : decode cX8_span 13 = .ok (.lconst 1, 1) := by decide +kernel
theorem dX8_span_14 : decode cX8_span 14 = .ok (.lcmp, 1) := by decide +kernel
theorem dX8_span_15 : decode cX8_span 15 = .ok (.ifCond .lt 16, 3) := by decide +kernel
theorem dX8_span_18 : decode cX8_span 18 = .ok (.lload_n 1, 1) := by decide +kernel
theorem dX8_span_19 : decode cX8_span 19 = .ok (.ldc2_w 9, 3) := by decide +kernel
theorem dX8_span_22 : decode cX8_span 22 = .ok (.iload_n 3, 1) := by decide +kernel
theorem dX8_span_23 : decode cX8_span 23 = .ok (.i2l, 1) := by decide +kernel
theorem dX8_span_24 : decode cX8_span 24 = .ok (.lsub, 1) := by decide +kernel
theorem dX8_span_25 : decode cX8_span 25 = .ok (.lconst 1, 1) := by decide +kernel
theorem dX8_span_26 : decode cX8_span 26 = .ok (.ladd, 1) := by decide +kernel
theorem dX8_span_27 : decode cX8_span 27 = .ok (.lcmp, 1) := by decide +kernel
theorem dX8_span_28 : decode cX8_span 28 = .ok (.ifCond .le 5, 3) := by decide +kernel
theorem dX8_span_31 : decode cX8_span 31 = .ok (.iconst (-1), 1) := by decide +kernel
theorem dX8_span_32 : decode cX8_span 32 = .ok (.ireturn, 1) := by decide +kernel
theorem dX8_span_33 : decode cX8_span 33 = .ok (.aload_n 0, 1) := by decide +kernel
theorem dX8_span_34 : decode cX8_span 34 = .ok (.getfield 11, 3) := by decide +kernel
theorem dX8_span_37 : decode cX8_span 37 = .ok (.ifnonnull 14, 3) := by decide +kernel
theorem dX8_span_40 : decode cX8_span 40 = .ok (.aload_n 0, 1) := by decide +kernel
theorem dX8_span_41 : decode cX8_span 41 = .ok (.new 15, 3) := by decide +kernel
theorem dX8_span_44 : decode cX8_span 44 = .ok (.dup, 1) := by decide +kernel
theorem dX8_span_45 : decode cX8_span 45 = .ok (.invokespecial 17, 3) := by decide +kernel
theorem dX8_span_48 : decode cX8_span 48 = .ok (.putfield 11, 3) := by decide +kernel
theorem dX8_span_51 : decode cX8_span 51 = .ok (.aload_n 0, 1) := by decide +kernel
theorem dX8_span_52 : decode cX8_span 52 = .ok (.getfield 11, 3) := by decide +kernel
theorem dX8_span_55 : decode cX8_span 55 = .ok (.lload_n 1, 1) := by decide +kernel
theorem dX8_span_56 : decode cX8_span 56 = .ok (.iload_n 3, 1) := by decide +kernel
theorem dX8_span_57 : decode cX8_span 57 = .ok (.aload_n 0, 1) := by decide +kernel
theorem dX8_span_58 : decode cX8_span 58 = .ok (.invokevirtual 18, 3) := by decide +kernel
theorem dX8_span_61 : decode cX8_span 61 = .ok (.invokevirtual 22, 3) := by decide +kernel
theorem dX8_span_64 : decode cX8_span 64 = .ok (.aload_n 0, 1) := by decide +kernel
theorem dX8_span_65 : decode cX8_span 65 = .ok (.getfield 11, 3) := by decide +kernel
theorem dX8_span_68 : decode cX8_span 68 = .ok (.getfield 26, 3) := by decide +kernel
theorem dX8_span_71 : decode cX8_span 71 = .ok (.ireturn, 1) := by decide +kernel
set_option maxRecDepth 20000 in
theorem ggX8_least_X6_leastOf : GoodIn wsX8_least wsX6_leastOf := goodIn_r _ [6, 7, 8, 15, 16, 17, 18, 19, 20, 21, 22, 23, 24] (by decide +kernel) (by decide +kernel)
set_option maxRecDepth 20000 in
theorem gX8_least_X6_leastOf : GoodIn wsX8_least (wsV RX8 30 RX6 yX6_leastOf wsX6_leastOf) := goodIn_app (goodIn_of _ (by decide +kernel)) ggX8_least_X6_leastOf
theorem dX8_least_0 : decode cX8_least 0 = .ok (.aload_n 0, 1) := by decide +kernel
theorem dX8_least_1 : decode cX8_least 1 = .ok (.getfield 11, 3) := by decide +kernel
theorem dX8_least_4 : decode cX8_least 4 = .ok (.ifnonnull 7, 3) := by decide +kernel
theorem dX8_least_7 : decode cX8_least 7 = .ok (.lconst 0, 1) := by decide +kernel
theorem dX8_least_8 : decode cX8_least 8 = .ok (.goto 11, 3) := by decide +kernel
theorem dX8_least_11 : decode cX8_least 11 = .ok (.aload_n 0, 1) := by decide +kernel
theorem dX8_least_12 : decode cX8_least 12 = .ok (.getfield 11, 3) := by decide +kernel
theorem dX8_least_15 : decode cX8_least 15 = .ok (.iload_n 1, 1) := by decide +kernel
theorem dX8_least_16 : decode cX8_least 16 = .ok (.invokevirtual 30, 3) := by decide +kernel
theorem dX8_least_19 : decode cX8_least 19 = .ok (.lreturn, 1) := by decide +kernel
theorem dX8_spanned_0 : decode cX8_spanned 0 = .ok (.aload_n 0, 1) := by decide +kernel
theorem dX8_spanned_1 : decode cX8_spanned 1 = .ok (.getfield 11, 3) := by decide +kernel
theorem dX8_spanned_4 : decode cX8_spanned 4 = .ok (.ifnonnull 14, 3) := by decide +kernel
theorem dX8_spanned_7 : decode cX8_spanned 7 = .ok (.iload_n 1, 1) := by decide +kernel
theorem dX8_spanned_8 : decode cX8_spanned 8 = .ok (.iconst 4, 1) := by decide +kernel
theorem dX8_spanned_9 : decode cX8_spanned 9 = .ok (.if_icmp .ne 7, 3) := by decide +kernel
theorem dX8_spanned_12 : decode cX8_spanned 12 = .ok (.iconst 0, 1) := by decide +kernel
theorem dX8_spanned_13 : decode cX8_spanned 13 = .ok (.goto 4, 3) := by decide +kernel
theorem dX8_spanned_16 : decode cX8_spanned 16 = .ok (.iconst (-1), 1) := by decide +kernel
theorem dX8_spanned_17 : decode cX8_spanned 17 = .ok (.ireturn, 1) := by decide +kernel
theorem dX8_spanned_18 : decode cX8_spanned 18 = .ok (.iload_n 1, 1) := by decide +kernel
theorem dX8_spanned_19 : decode cX8_spanned 19 = .ok (.tableswitch 73 0 4 #[33, 41, 49, 57, 65], 33) := by decide +kernel
theorem dX8_spanned_52 : decode cX8_spanned 52 = .ok (.aload_n 0, 1) := by decide +kernel
theorem dX8_spanned_53 : decode cX8_spanned 53 = .ok (.getfield 11, 3) := by decide +kernel
theorem dX8_spanned_56 : decode cX8_spanned 56 = .ok (.getfield 26, 3) := by decide +kernel
theorem dX8_spanned_59 : decode cX8_spanned 59 = .ok (.ireturn, 1) := by decide +kernel
theorem dX8_spanned_60 : decode cX8_spanned 60 = .ok (.aload_n 0, 1) := by decide +kernel
theorem dX8_spanned_61 : decode cX8_spanned 61 = .ok (.getfield 11, 3) := by decide +kernel
theorem dX8_spanned_64 : decode cX8_spanned 64 = .ok (.getfield 34, 3) := by decide +kernel
theorem dX8_spanned_67 : decode cX8_spanned 67 = .ok (.ireturn, 1) := by decide +kernel
theorem dX8_spanned_68 : decode cX8_spanned 68 = .ok (.aload_n 0, 1) := by decide +kernel
theorem dX8_spanned_69 : decode cX8_spanned 69 = .ok (.getfield 11, 3) := by decide +kernel
theorem dX8_spanned_72 : decode cX8_spanned 72 = .ok (.getfield 37, 3) := by decide +kernel
theorem dX8_spanned_75 : decode cX8_spanned 75 = .ok (.ireturn, 1) := by decide +kernel
theorem dX8_spanned_76 : decode cX8_spanned 76 = .ok (.aload_n 0, 1) := by decide +kernel
theorem dX8_spanned_77 : decode cX8_spanned 77 = .ok (.getfield 11, 3) := by decide +kernel
theorem dX8_spanned_80 : decode cX8_spanned 80 = .ok (.getfield 40, 3) := by decide +kernel
theorem dX8_spanned_83 : decode cX8_spanned 83 = .ok (.ireturn, 1) := by decide +kernel
theorem dX8_spanned_84 : decode cX8_spanned 84 = .ok (.aload_n 0, 1) := by decide +kernel
theorem dX8_spanned_85 : decode cX8_spanned 85 = .ok (.getfield 11, 3) := by decide +kernel
theorem dX8_spanned_88 : decode cX8_spanned 88 = .ok (.getfield 43, 3) := by decide +kernel
theorem dX8_spanned_91 : decode cX8_spanned 91 = .ok (.ireturn, 1) := by decide +kernel
theorem dX8_spanned_92 : decode cX8_spanned 92 = .ok (.iconst (-1), 1) := by decide +kernel
theorem dX8_spanned_93 : decode cX8_spanned 93 = .ok (.ireturn, 1) := by decide +kernel
set_option maxRecDepth 20000 in
theorem ggX8_smooth_X8_isInRange : GoodIn wsX8_smooth wsX8_isInRange := goodIn_r _ [5, 6] (by decide +kernel) (by decide +kernel)
set_option maxRecDepth 20000 in
theorem gX8_smooth_X8_isInRange : GoodIn wsX8_smooth (va_wsS RX8 46 yX8_isInRange wsX8_isInRange) := goodIn_app (goodIn_of _ (by decide +kernel)) ggX8_smooth_X8_isInRange
set_option maxRecDepth 20000 in
theorem ggX8_smooth_X6_roughBy : GoodIn wsX8_smooth wsX6_roughBy := goodIn_r _ [11, 12, 13, 14, 26, 27, 28, 29, 30, 31, 32, 33, 34, 35] (by decide +kernel) (by decide +kernel)
set_option maxRecDepth 20000 in
theorem gX8_smooth_X6_roughBy : GoodIn wsX8_smooth (wsV RX8 50 RX6 yX6_roughBy wsX6_roughBy) := goodIn_app (goodIn_of _ (by decide +kernel)) ggX8_smooth_X6_roughBy
set_option maxRecDepth 20000 in
theorem ggX8_smooth_X6_smoothBy : GoodIn wsX8_smooth wsX6_smoothBy := goodIn_r _ [18, 12, 19, 26, 27, 28, 29, 30, 31, 32, 33, 34, 35] (by decide +kernel) (by decide +kernel)
set_option maxRecDepth 20000 in
theorem gX8_smooth_X6_smoothBy : GoodIn wsX8_smooth (wsV RX8 54 RX6 yX6_smoothBy wsX6_smoothBy) := goodIn_app (goodIn_of _ (by decide +kernel)) ggX8_smooth_X6_smoothBy
theorem dX8_smooth_0 : decode cX8_smooth 0 = .ok (.aload_n 0, 1) := by decide +kernel
theorem dX8_smooth_1 : decode cX8_smooth 1 = .ok (.getfield 11, 3) := by decide +kernel
theorem dX8_smooth_4 : decode cX8_smooth 4 = .ok (.ifnull 10, 3) := by decide +kernel
theorem dX8_smooth_7 : decode cX8_smooth 7 = .ok (.lload_n 1, 1) := by decide +kernel
theorem dX8_smooth_8 : decode cX8_smooth 8 = .ok (.invokestatic 46, 3) := by decide +kernel
theorem dX8_smooth_11 : decode cX8_smooth 11 = .ok (.ifCond .ne 5, 3) := by decide +kernel
theorem dX8_smooth_14 : decode cX8_smooth 14 = .ok (.iconst (-1), 1) := by decide +kernel
theorem dX8_smooth_15 : decode cX8_smooth 15 = .ok (.ireturn, 1) := by decide +kernel
theorem dX8_smooth_16 : decode cX8_smooth 16 = .ok (.iload_n 3, 1) := by decide +kernel
theorem dX8_smooth_17 : decode cX8_smooth 17 = .ok (.ifCond .eq 14, 3) := by decide +kernel
theorem dX8_smooth_20 : decode cX8_smooth 20 = .ok (.aload_n 0, 1) := by decide +kernel
theorem dX8_smooth_21 : decode cX8_smooth 21 = .ok (.getfield 11, 3) := by decide +kernel
theorem dX8_smooth_24 : decode cX8_smooth 24 = .ok (.lload_n 1, 1) := by decide +kernel
theorem dX8_smooth_25 : decode cX8_smooth 25 = .ok (.invokevirtual 50, 3) := by decide +kernel
theorem dX8_smooth_28 : decode cX8_smooth 28 = .ok (.goto 11, 3) := by decide +kernel
theorem dX8_smooth_31 : decode cX8_smooth 31 = .ok (.aload_n 0, 1) := by decide +kernel
theorem dX8_smooth_32 : decode cX8_smooth 32 = .ok (.getfield 11, 3) := by decide +kernel
theorem dX8_smooth_35 : decode cX8_smooth 35 = .ok (.lload_n 1, 1) := by decide +kernel
theorem dX8_smooth_36 : decode cX8_smooth 36 = .ok (.invokevirtual 54, 3) := by decide +kernel
theorem dX8_smooth_39 : decode cX8_smooth 39 = .ok (.ireturn, 1) := by decide +kernel
set_option maxRecDepth 20000 in
theorem ggX8_prime_X8_isInRange : GoodIn wsX8_prime wsX8_isInRange := goodIn_r _ [4, 5] (by decide +kernel) (by decide +kernel)
set_option maxRecDepth 20000 in
theorem gX8_prime_X8_isInRange : GoodIn wsX8_prime (va_wsS RX8 46 yX8_isInRange wsX8_isInRange) := goodIn_app (goodIn_of _ (by decide +kernel)) ggX8_prime_X8_isInRange
set_option maxRecDepth 20000 in
theorem ggX8_prime_X8_knownPrimes : GoodIn wsX8_prime wsX8_knownPrimes := goodIn_r _ [9, 10, 11, 12, 13, 14, 15, 16, 17, 18, 19, 20, 21, 22, 23, 24, 25, 26, 27, 28, 29, 30, 31, 32, 33, 34, 35, 36, 37, 38, 39, 40, 41, 42, 43, 44, 45, 46, 47, 48, 49, 50, 51, 52, 62, 63, 64, 65, 66, 67, 68, 69, 70] (by decide +kernel) (by decide +kernel)
set_option maxRecDepth 20000 in
theorem gX8_prime_X8_knownPrimes : GoodIn wsX8_prime (wsV RX8 18 RX8 yX8_knownPrimes wsX8_knownPrimes) := goodIn_app (goodIn_of _ (by decide +kernel)) ggX8_prime_X8_knownPrimes
set_option maxRecDepth 20000 in
theorem ggX8_prime_X3_isPrime : GoodIn wsX8_prime wsX3_isPrime := goodIn_r _ [56, 57, 22, 58, 59, 60, 13, 61, 21, 68, 69] (by decide +kernel) (by decide +kernel)
set_option maxRecDepth 20000 in
theorem gX8_prime_X3_isPrime : GoodIn wsX8_prime (wsV RX8 57 RX3 yX3_isPrime wsX3_isPrime) := goodIn_app (goodIn_of _ (by decide +kernel)) ggX8_prime_X3_isPrime
theorem dX8_prime_0 : decode cX8_prime 0 = .ok (.lload_n 1, 1) := by decide +kernel
theorem dX8_prime_1 : decode cX8_prime 1 = .ok (.invokestatic 46, 3) := by decide +kernel
theorem dX8_prime_4 : decode cX8_prime 4 = .ok (.ifCond .ne 5, 3) := by decide +kernel
theorem dX8_prime_7 : decode cX8_prime 7 = .ok (.iconst (-1), 1) := by decide +kernel
theorem dX8_prime_8 : decode cX8_prime 8 = .ok (.ireturn, 1) := by decide +kernel
theorem dX8_prime_9 : decode cX8_prime 9 = .ok (.aload_n 0, 1) := by decide +kernel
theorem dX8_prime_10 : decode cX8_prime 10 = .ok (.invokevirtual 18, 3) := by decide +kernel
theorem dX8_prime_13 : decode cX8_prime 13 = .ok (.lload_n 1, 1) := by decide +kernel
theorem dX8_prime_14 : decode cX8_prime 14 = .ok (.invokevirtual 57, 3) := by decide +kernel
theorem dX8_prime_17 : decode cX8_prime 17 = .ok (.ifCond .eq 7, 3) := by decide +kernel
theorem dX8_prime_20 : decode cX8_prime 20 = .ok (.iconst 1, 1) := by decide +kernel
theorem dX8_prime_21 : decode cX8_prime 21 = .ok (.goto 4, 3) := by decide +kernel
theorem dX8_prime_24 : decode cX8_prime 24 = .ok (.iconst 0, 1) := by decide +kernel
theorem dX8_prime_25 : decode cX8_prime 25 = .ok (.ireturn, 1) := by decide +kernel
set_option maxRecDepth 20000 in
theorem ggX8_next_X8_isInRange : GoodIn wsX8_next wsX8_isInRange := goodIn_r _ [4, 5] (by decide +kernel) (by decide +kernel)
set_option maxRecDepth 20000 in
theorem gX8_next_X8_isInRange : GoodIn wsX8_next (va_wsS RX8 46 yX8_isInRange wsX8_isInRange) := goodIn_app (goodIn_of _ (by decide +kernel)) ggX8_next_X8_isInRange
set_option maxRecDepth 20000 in
theorem ggX8_next_X8_knownPrimes : GoodIn wsX8_next wsX8_knownPrimes := goodIn_r _ [9, 10, 11, 12, 13, 14, 15, 16, 17, 18, 19, 20, 21, 22, 23, 24, 25, 26, 27, 28, 29, 30, 31, 32, 33, 34, 35, 36, 37, 38, 39, 40, 41, 42, 43, 44, 45, 46, 47, 48, 49, 50, 51, 52, 71, 72, 73, 74, 75, 76, 77, 78, 79] (by decide +kernel) (by decide +kernel)
set_option maxRecDepth 20000 in
theorem gX8_next_X8_knownPrimes : GoodIn wsX8_next (wsV RX8 18 RX8 yX8_knownPrimes wsX8_knownPrimes) := goodIn_app (goodIn_of _ (by decide +kernel)) ggX8_next_X8_knownPrimes
set_option maxRecDepth 20000 in
theorem ggX8_next_X3_primeBelow : GoodIn wsX8_next wsX3_primeBelow := goodIn_r _ [56, 57, 58, 59, 60, 13, 61, 22, 62, 63, 64, 65, 21, 77, 78] (by decide +kernel) (by decide +kernel)
set_option maxRecDepth 20000 in
theorem gX8_next_X3_primeBelow : GoodIn wsX8_next (wsV RX8 62 RX3 yX3_primeBelow wsX3_primeBelow) := goodIn_app (goodIn_of _ (by decide +kernel)) ggX8_next_X3_primeBelow
set_option maxRecDepth 20000 in
theorem ggX8_next_X3_primeAbove : GoodIn wsX8_next wsX3_primeAbove := goodIn_r _ [69, 70, 58, 59, 60, 13, 61, 57, 22, 62, 63, 64, 65, 21, 77, 78] (by decide +kernel) (by decide +kernel)
set_option maxRecDepth 20000 in
theorem gX8_next_X3_primeAbove : GoodIn wsX8_next (wsV RX8 66 RX3 yX3_primeAbove wsX3_primeAbove) := goodIn_app (goodIn_of _ (by decide +kernel)) ggX8_next_X3_primeAbove
theorem dX8_next_0 : decode cX8_next 0 = .ok (.lload_n 1, 1) := by decide +kernel
theorem dX8_next_1 : decode cX8_next 1 = .ok (.invokestatic 46, 3) := by decide +kernel
theorem dX8_next_4 : decode cX8_next 4 = .ok (.ifCond .ne 5, 3) := by decide +kernel
theorem dX8_next_7 : decode cX8_next 7 = .ok (.lconst 0, 1) := by decide +kernel
theorem dX8_next_8 : decode cX8_next 8 = .ok (.lreturn, 1) := by decide +kernel
theorem dX8_next_9 : decode cX8_next 9 = .ok (.iload_n 3, 1) := by decide +kernel
theorem dX8_next_10 : decode cX8_next 10 = .ok (.ifCond .eq 14, 3) := by decide +kernel
theorem dX8_next_13 : decode cX8_next 13 = .ok (.aload_n 0, 1) := by decide +kernel
theorem dX8_next_14 : decode cX8_next 14 = .ok (.invokevirtual 18, 3) := by decide +kernel
theorem dX8_next_17 : decode cX8_next 17 = .ok (.lload_n 1, 1) := by decide +kernel
theorem dX8_next_18 : decode cX8_next 18 = .ok (.invokevirtual 62, 3) := by decide +kernel
theorem dX8_next_21 : decode cX8_next 21 = .ok (.goto 11, 3) := by decide +kernel
theorem dX8_next_24 : decode cX8_next 24 = .ok (.aload_n 0, 1) := by decide +kernel
theorem dX8_next_25 : decode cX8_next 25 = .ok (.invokevirtual 18, 3) := by decide +kernel
theorem dX8_next_28 : decode cX8_next 28 = .ok (.lload_n 1, 1) := by decide +kernel
theorem dX8_next_29 : decode cX8_next 29 = .ok (.invokevirtual 66, 3) := by decide +kernel
theorem dX8_next_32 : decode cX8_next 32 = .ok (.lreturn, 1) := by decide +kernel
set_option maxRecDepth 20000 in
theorem ggX8_part_X8_isInRange : GoodIn wsX8_part wsX8_isInRange := goodIn_r _ [8, 9] (by decide +kernel) (by decide +kernel)
set_option maxRecDepth 20000 in
theorem gX8_part_X8_isInRange : GoodIn wsX8_part (va_wsS RX8 46 yX8_isInRange wsX8_isInRange) := goodIn_app (goodIn_of _ (by decide +kernel)) ggX8_part_X8_isInRange
set_option maxRecDepth 20000 in
theorem ggX8_part_X1_init : GoodIn wsX8_part wsX1_init := goodIn_r _ [12, 13, 14, 15, 16, 17, 18, 19, 20, 21, 84, 85, 86, 87] (by decide +kernel) (by decide +kernel)
set_option maxRecDepth 20000 in
theorem gX8_part_X1_init : GoodIn wsX8_part (wsX1_init) := ggX8_part_X1_init
set_option maxRecDepth 20000 in
theorem ggX8_part_X8_knownPrimes : GoodIn wsX8_part wsX8_knownPrimes := goodIn_r _ [25, 26, 27, 28, 29, 30, 31, 32, 33, 14, 15, 18, 34, 35, 36, 37, 38, 39, 40, 41, 42, 43, 44, 16, 45, 46, 47, 48, 49, 50, 51, 52, 53, 54, 55, 56, 57, 58, 59, 60, 61, 62, 63, 64, 78, 79, 80, 81, 82, 83, 88, 89, 90] (by decide +kernel) (by decide +kernel)
set_option maxRecDepth 20000 in
theorem gX8_part_X8_knownPrimes : GoodIn wsX8_part (wsV RX8 18 RX8 yX8_knownPrimes wsX8_knownPrimes) := goodIn_app (goodIn_of _ (by decide +kernel)) ggX8_part_X8_knownPrimes
set_option maxRecDepth 20000 in
theorem ggX8_part_X1_take : GoodIn wsX8_part wsX1_take := goodIn_r _ [68, 20, 21, 69, 70, 71, 72, 29, 73, 35, 34, 74, 75, 76, 4, 77, 17, 19, 84, 85, 86, 87, 88, 89] (by decide +kernel) (by decide +kernel)
set_option maxRecDepth 20000 in
theorem gX8_part_X1_take : GoodIn wsX8_part (wsV RX8 76 RX1 yX1_take wsX1_take) := goodIn_app (goodIn_of _ (by decide +kernel)) ggX8_part_X1_take
theorem dX8_part_0 : decode cX8_part 0 = .ok (.lload_n 1, 1) := by decide +kernel
theorem dX8_part_1 : decode cX8_part 1 = .ok (.invokestatic 46, 3) := by decide +kernel
theorem dX8_part_4 : decode cX8_part 4 = .ok (.ifCond .ne 5, 3) := by decide +kernel
theorem dX8_part_7 : decode cX8_part 7 = .ok (.iconst (-1), 1) := by decide +kernel
theorem dX8_part_8 : decode cX8_part 8 = .ok (.ireturn, 1) := by decide +kernel
theorem dX8_part_9 : decode cX8_part 9 = .ok (.aload_n 0, 1) := by decide +kernel
theorem dX8_part_10 : decode cX8_part 10 = .ok (.getfield 69, 3) := by decide +kernel
theorem dX8_part_13 : decode cX8_part 13 = .ok (.ifnonnull 14, 3) := by decide +kernel
theorem dX8_part_16 : decode cX8_part 16 = .ok (.aload_n 0, 1) := by decide +kernel
theorem dX8_part_17 : decode cX8_part 17 = .ok (.new 73, 3) := by decide +kernel
theorem dX8_part_20 : decode cX8_part 20 = .ok (.dup, 1) := by decide +kernel
theorem dX8_part_21 : decode cX8_part 21 = .ok (.invokespecial 75, 3) := by decide +kernel
theorem dX8_part_24 : decode cX8_part 24 = .ok (.putfield 69, 3) := by decide +kernel
theorem dX8_part_27 : decode cX8_part 27 = .ok (.aload_n 0, 1) := by decide +kernel
theorem dX8_part_28 : decode cX8_part 28 = .ok (.getfield 69, 3) := by decide +kernel
theorem dX8_part_31 : decode cX8_part 31 = .ok (.lload_n 1, 1) := by decide +kernel
theorem dX8_part_32 : decode cX8_part 32 = .ok (.aload_n 0, 1) := by decide +kernel
theorem dX8_part_33 : decode cX8_part 33 = .ok (.invokevirtual 18, 3) := by decide +kernel
theorem dX8_part_36 : decode cX8_part 36 = .ok (.invokevirtual 76, 3) := by decide +kernel
theorem dX8_part_39 : decode cX8_part 39 = .ok (.aload_n 0, 1) := by decide +kernel
theorem dX8_part_40 : decode cX8_part 40 = .ok (.getfield 69, 3) := by decide +kernel
theorem dX8_part_43 : decode cX8_part 43 = .ok (.getfield 80, 3) := by decide +kernel
theorem dX8_part_46 : decode cX8_part 46 = .ok (.ireturn, 1) := by decide +kernel
set_option maxRecDepth 20000 in
theorem ggX8_parts_X1_primeOf : GoodIn wsX8_parts wsX1_primeOf := goodIn_r _ [6, 7, 8, 20, 21, 22, 23] (by decide +kernel) (by decide +kernel)
set_option maxRecDepth 20000 in
theorem gX8_parts_X1_primeOf : GoodIn wsX8_parts (wsV RX8 81 RX1 yX1_primeOf wsX1_primeOf) := goodIn_app (goodIn_of _ (by decide +kernel)) ggX8_parts_X1_primeOf
set_option maxRecDepth 20000 in
theorem ggX8_parts_X1_powerOf : GoodIn wsX8_parts wsX1_powerOf := goodIn_r _ [12, 7, 13, 20, 21, 22, 23] (by decide +kernel) (by decide +kernel)
set_option maxRecDepth 20000 in
theorem gX8_parts_X1_powerOf : GoodIn wsX8_parts (wsV RX8 84 RX1 yX1_powerOf wsX1_powerOf) := goodIn_app (goodIn_of _ (by decide +kernel)) ggX8_parts_X1_powerOf
theorem dX8_parts_0 : decode cX8_parts 0 = .ok (.aload_n 0, 1) := by decide +kernel
theorem dX8_parts_1 : decode cX8_parts 1 = .ok (.getfield 69, 3) := by decide +kernel
theorem dX8_parts_4 : decode cX8_parts 4 = .ok (.ifnonnull 5, 3) := by decide +kernel
theorem dX8_parts_7 : decode cX8_parts 7 = .ok (.lconst 0, 1) := by decide +kernel
theorem dX8_parts_8 : decode cX8_parts 8 = .ok (.lreturn, 1) := by decide +kernel
theorem dX8_parts_9 : decode cX8_parts 9 = .ok (.iload_n 2, 1) := by decide +kernel
theorem dX8_parts_10 : decode cX8_parts 10 = .ok (.lookupswitch 45 #[(0, 26), (1, 35)], 26) := by decide +kernel
theorem dX8_parts_36 : decode cX8_parts 36 = .ok (.aload_n 0, 1) := by decide +kernel
theorem dX8_parts_37 : decode cX8_parts 37 = .ok (.getfield 69, 3) := by decide +kernel
theorem dX8_parts_40 : decode cX8_parts 40 = .ok (.iload_n 1, 1) := by decide +kernel
theorem dX8_parts_41 : decode cX8_parts 41 = .ok (.invokevirtual 81, 3) := by decide +kernel
theorem dX8_parts_44 : decode cX8_parts 44 = .ok (.lreturn, 1) := by decide +kernel
theorem dX8_parts_45 : decode cX8_parts 45 = .ok (.aload_n 0, 1) := by decide +kernel
theorem dX8_parts_46 : decode cX8_parts 46 = .ok (.getfield 69, 3) := by decide +kernel
theorem dX8_parts_49 : decode cX8_parts 49 = .ok (.iload_n 1, 1) := by decide +kernel
theorem dX8_parts_50 : decode cX8_parts 50 = .ok (.invokevirtual 84, 3) := by decide +kernel
theorem dX8_parts_53 : decode cX8_parts 53 = .ok (.i2l, 1) := by decide +kernel
theorem dX8_parts_54 : decode cX8_parts 54 = .ok (.lreturn, 1) := by decide +kernel
theorem dX8_parts_55 : decode cX8_parts 55 = .ok (.lconst 0, 1) := by decide +kernel
theorem dX8_parts_56 : decode cX8_parts 56 = .ok (.lreturn, 1) := by decide +kernel
set_option maxRecDepth 20000 in
theorem ggX8_parted_X1_divisorCount : GoodIn wsX8_parted wsX1_divisorCount := goodIn_r _ [6, 7, 8, 33, 34, 35, 36] (by decide +kernel) (by decide +kernel)
set_option maxRecDepth 20000 in
theorem gX8_parted_X1_divisorCount : GoodIn wsX8_parted (wsV RX8 92 RX1 yX1_divisorCount wsX1_divisorCount) := goodIn_app (goodIn_of _ (by decide +kernel)) ggX8_parted_X1_divisorCount
set_option maxRecDepth 20000 in
theorem ggX8_parted_X1_divisorSum : GoodIn wsX8_parted wsX1_divisorSum := goodIn_r _ [12, 7, 8, 13, 33, 34, 35, 36] (by decide +kernel) (by decide +kernel)
set_option maxRecDepth 20000 in
theorem gX8_parted_X1_divisorSum : GoodIn wsX8_parted (wsV RX8 96 RX1 yX1_divisorSum wsX1_divisorSum) := goodIn_app (goodIn_of _ (by decide +kernel)) ggX8_parted_X1_divisorSum
set_option maxRecDepth 20000 in
theorem ggX8_parted_X1_euler : GoodIn wsX8_parted wsX1_euler := goodIn_r _ [17, 18, 7, 13, 33, 34, 35, 36] (by decide +kernel) (by decide +kernel)
set_option maxRecDepth 20000 in
theorem gX8_parted_X1_euler : GoodIn wsX8_parted (wsV RX8 99 RX1 yX1_euler wsX1_euler) := goodIn_app (goodIn_of _ (by decide +kernel)) ggX8_parted_X1_euler
set_option maxRecDepth 20000 in
theorem ggX8_parted_X1_moebius : GoodIn wsX8_parted wsX1_moebius := goodIn_r _ [22, 7, 8, 33, 34, 35, 36] (by decide +kernel) (by decide +kernel)
set_option maxRecDepth 20000 in
theorem gX8_parted_X1_moebius : GoodIn wsX8_parted (wsV RX8 102 RX1 yX1_moebius wsX1_moebius) := goodIn_app (goodIn_of _ (by decide +kernel)) ggX8_parted_X1_moebius
set_option maxRecDepth 20000 in
theorem ggX8_parted_X1_primeProduct : GoodIn wsX8_parted wsX1_primeProduct := goodIn_r _ [26, 7, 13, 33, 34, 35, 36] (by decide +kernel) (by decide +kernel)
set_option maxRecDepth 20000 in
theorem gX8_parted_X1_primeProduct : GoodIn wsX8_parted (wsV RX8 106 RX1 yX1_primeProduct wsX1_primeProduct) := goodIn_app (goodIn_of _ (by decide +kernel)) ggX8_parted_X1_primeProduct
theorem dX8_parted_0 : decode cX8_parted 0 = .ok (.aload_n 0, 1) := by decide +kernel
theorem dX8_parted_1 : decode cX8_parted 1 = .ok (.getfield 69, 3) := by decide +kernel
theorem dX8_parted_4 : decode cX8_parted 4 = .ok (.ifnonnull 5, 3) := by decide +kernel
theorem dX8_parted_7 : decode cX8_parted 7 = .ok (.lconst 0, 1) := by decide +kernel
theorem dX8_parted_8 : decode cX8_parted 8 = .ok (.lreturn, 1) := by decide +kernel
theorem dX8_parted_9 : decode cX8_parted 9 = .ok (.iload_n 1, 1) := by decide +kernel
theorem dX8_parted_10 : decode cX8_parted 10 = .ok (.tableswitch 87 0 5 #[38, 46, 54, 62, 70, 79], 38) := by decide +kernel
theorem dX8_parted_48 : decode cX8_parted 48 = .ok (.aload_n 0, 1) := by decide +kernel
theorem dX8_parted_49 : decode cX8_parted 49 = .ok (.getfield 69, 3) := by decide +kernel
theorem dX8_parted_52 : decode cX8_parted 52 = .ok (.getfield 88, 3) := by decide +kernel
theorem dX8_parted_55 : decode cX8_parted 55 = .ok (.lreturn, 1) := by decide +kernel
theorem dX8_parted_56 : decode cX8_parted 56 = .ok (.aload_n 0, 1) := by decide +kernel
theorem dX8_parted_57 : decode cX8_parted 57 = .ok (.getfield 69, 3) := by decide +kernel
theorem dX8_parted_60 : decode cX8_parted 60 = .ok (.invokevirtual 92, 3) := by decide +kernel
theorem dX8_parted_63 : decode cX8_parted 63 = .ok (.lreturn, 1) := by decide +kernel
theorem dX8_parted_64 : decode cX8_parted 64 = .ok (.aload_n 0, 1) := by decide +kernel
theorem dX8_parted_65 : decode cX8_parted 65 = .ok (.getfield 69, 3) := by decide +kernel
theorem dX8_parted_68 : decode cX8_parted 68 = .ok (.invokevirtual 96, 3) := by decide +kernel
theorem dX8_parted_71 : decode cX8_parted 71 = .ok (.lreturn, 1) := by decide +kernel
theorem dX8_parted_72 : decode cX8_parted 72 = .ok (.aload_n 0, 1) := by decide +kernel
theorem dX8_parted_73 : decode cX8_parted 73 = .ok (.getfield 69, 3) := by decide +kernel
theorem dX8_parted_76 : decode cX8_parted 76 = .ok (.invokevirtual 99, 3) := by decide +kernel
theorem dX8_parted_79 : decode cX8_parted 79 = .ok (.lreturn, 1) := by decide +kernel
theorem dX8_parted_80 : decode cX8_parted 80 = .ok (.aload_n 0, 1) := by decide +kernel
theorem dX8_parted_81 : decode cX8_parted 81 = .ok (.getfield 69, 3) := by decide +kernel
theorem dX8_parted_84 : decode cX8_parted 84 = .ok (.invokevirtual 102, 3) := by decide +kernel
theorem dX8_parted_87 : decode cX8_parted 87 = .ok (.i2l, 1) := by decide +kernel
theorem dX8_parted_88 : decode cX8_parted 88 = .ok (.lreturn, 1) := by decide +kernel
theorem dX8_parted_89 : decode cX8_parted 89 = .ok (.aload_n 0, 1) := by decide +kernel
theorem dX8_parted_90 : decode cX8_parted 90 = .ok (.getfield 69, 3) := by decide +kernel
theorem dX8_parted_93 : decode cX8_parted 93 = .ok (.invokevirtual 106, 3) := by decide +kernel
theorem dX8_parted_96 : decode cX8_parted 96 = .ok (.lreturn, 1) := by decide +kernel
theorem dX8_parted_97 : decode cX8_parted 97 = .ok (.lconst 0, 1) := by decide +kernel
theorem dX8_parted_98 : decode cX8_parted 98 = .ok (.lreturn, 1) := by decide +kernel
set_option maxRecDepth 20000 in
theorem ggX8_without_X1_strangersUpTo : GoodIn wsX8_without wsX1_strangersUpTo := goodIn_r _ [8, 9, 10, 11, 12, 13, 14, 15, 16, 17, 24, 25, 26, 27] (by decide +kernel) (by decide +kernel)
set_option maxRecDepth 20000 in
theorem gX8_without_X1_strangersUpTo : GoodIn wsX8_without (wsV RX8 111 RX1 yX1_strangersUpTo wsX1_strangersUpTo) := goodIn_app (goodIn_of _ (by decide +kernel)) ggX8_without_X1_strangersUpTo
theorem dX8_without_0 : decode cX8_without 0 = .ok (.aload_n 0, 1) := by decide +kernel
theorem dX8_without_1 : decode cX8_without 1 = .ok (.getfield 69, 3) := by decide +kernel
theorem dX8_without_4 : decode cX8_without 4 = .ok (.ifnull 17, 3) := by decide +kernel
theorem dX8_without_7 : decode cX8_without 7 = .ok (.lload_n 1, 1) := by decide +kernel
theorem dX8_without_8 : decode cX8_without 8 = .ok (.lconst 0, 1) := by decide +kernel
theorem dX8_without_9 : decode cX8_without 9 = .ok (.lcmp, 1) := by decide +kernel
theorem dX8_without_10 : decode cX8_without 10 = .ok (.ifCond .lt 11, 3) := by decide +kernel
theorem dX8_without_13 : decode cX8_without 13 = .ok (.lload_n 1, 1) := by decide +kernel
theorem dX8_without_14 : decode cX8_without 14 = .ok (.ldc2_w 9, 3) := by decide +kernel
theorem dX8_without_17 : decode cX8_without 17 = .ok (.lcmp, 1) := by decide +kernel
theorem dX8_without_18 : decode cX8_without 18 = .ok (.ifCond .le 7, 3) := by decide +kernel
theorem dX8_without_21 : decode cX8_without 21 = .ok (.ldc2_w 109, 3) := by decide +kernel
theorem dX8_without_24 : decode cX8_without 24 = .ok (.lreturn, 1) := by decide +kernel
theorem dX8_without_25 : decode cX8_without 25 = .ok (.aload_n 0, 1) := by decide +kernel
theorem dX8_without_26 : decode cX8_without 26 = .ok (.getfield 69, 3) := by decide +kernel
theorem dX8_without_29 : decode cX8_without 29 = .ok (.lload_n 1, 1) := by decide +kernel
theorem dX8_without_30 : decode cX8_without 30 = .ok (.invokevirtual 111, 3) := by decide +kernel
theorem dX8_without_33 : decode cX8_without 33 = .ok (.lreturn, 1) := by decide +kernel
set_option maxRecDepth 20000 in
theorem ggX8_count_X8_knownSums : GoodIn wsX8_count wsX8_knownSums := goodIn_r _ [6, 7, 8, 9, 10, 11, 12, 13, 14, 15, 16, 17, 18, 19, 48, 49, 50, 51, 52, 53, 54, 55] (by decide +kernel) (by decide +kernel)
set_option maxRecDepth 20000 in
theorem gX8_count_X8_knownSums : GoodIn wsX8_count (wsV RX8 115 RX8 yX8_knownSums wsX8_knownSums) := goodIn_app (goodIn_of _ (by decide +kernel)) ggX8_count_X8_knownSums
set_option maxRecDepth 20000 in
theorem ggX8_count_X2_total : GoodIn wsX8_count wsX2_total := goodIn_r _ [23, 24, 25, 26, 27, 28, 18, 19, 29, 30, 31, 32, 33, 34, 10, 35, 36, 37, 38, 39, 40, 41, 42, 43, 44, 45, 46, 47, 54, 55] (by decide +kernel) (by decide +kernel)
set_option maxRecDepth 20000 in
theorem gX8_count_X2_total : GoodIn wsX8_count (wsV RX8 119 RX2 yX2_total wsX2_total) := goodIn_app (goodIn_of _ (by decide +kernel)) ggX8_count_X2_total
theorem dX8_count_0 : decode cX8_count 0 = .ok (.iload_n 1, 1) := by decide +kernel
theorem dX8_count_1 : decode cX8_count 1 = .ok (.ifCond .lt 9, 3) := by decide +kernel
theorem dX8_count_4 : decode cX8_count 4 = .ok (.iload_n 1, 1) := by decide +kernel
theorem dX8_count_5 : decode cX8_count 5 = .ok (.ldc 114, 2) := by decide +kernel
theorem dX8_count_7 : decode cX8_count 7 = .ok (.if_icmp .le 5, 3) := by decide +kernel
theorem dX8_count_10 : decode cX8_count 10 = .ok (.iconst (-1), 1) := by decide +kernel
theorem dX8_count_11 : decode cX8_count 11 = .ok (.ireturn, 1) := by decide +kernel
theorem dX8_count_12 : decode cX8_count 12 = .ok (.aload_n 0, 1) := by decide +kernel
theorem dX8_count_13 : decode cX8_count 13 = .ok (.invokevirtual 115, 3) := by decide +kernel
theorem dX8_count_16 : decode cX8_count 16 = .ok (.iload_n 1, 1) := by decide +kernel
theorem dX8_count_17 : decode cX8_count 17 = .ok (.iconst 0, 1) := by decide +kernel
theorem dX8_count_18 : decode cX8_count 18 = .ok (.invokevirtual 119, 3) := by decide +kernel
theorem dX8_count_21 : decode cX8_count 21 = .ok (.l2i, 1) := by decide +kernel
theorem dX8_count_22 : decode cX8_count 22 = .ok (.ireturn, 1) := by decide +kernel
set_option maxRecDepth 20000 in
theorem ggX8_sum_X8_knownSums : GoodIn wsX8_sum wsX8_knownSums := goodIn_r _ [7, 8, 9, 10, 11, 12, 13, 14, 15, 16, 17, 18, 19, 20, 49, 50, 51, 52, 53, 54, 55, 56] (by decide +kernel) (by decide +kernel)
set_option maxRecDepth 20000 in
theorem gX8_sum_X8_knownSums : GoodIn wsX8_sum (wsV RX8 115 RX8 yX8_knownSums wsX8_knownSums) := goodIn_app (goodIn_of _ (by decide +kernel)) ggX8_sum_X8_knownSums
set_option maxRecDepth 20000 in
theorem ggX8_sum_X2_total : GoodIn wsX8_sum wsX2_total := goodIn_r _ [24, 25, 26, 27, 28, 29, 19, 20, 30, 31, 32, 33, 34, 35, 11, 36, 37, 38, 39, 40, 41, 42, 43, 44, 45, 46, 47, 48, 55, 56] (by decide +kernel) (by decide +kernel)
set_option maxRecDepth 20000 in
theorem gX8_sum_X2_total : GoodIn wsX8_sum (wsV RX8 119 RX2 yX2_total wsX2_total) := goodIn_app (goodIn_of _ (by decide +kernel)) ggX8_sum_X2_total
theorem dX8_sum_0 : decode cX8_sum 0 = .ok (.iload_n 1, 1) := by decide +kernel
theorem dX8_sum_1 : decode cX8_sum 1 = .ok (.ifCond .lt 9, 3) := by decide +kernel
theorem dX8_sum_4 : decode cX8_sum 4 = .ok (.iload_n 1, 1) := by decide +kernel
theorem dX8_sum_5 : decode cX8_sum 5 = .ok (.ldc 114, 2) := by decide +kernel
theorem dX8_sum_7 : decode cX8_sum 7 = .ok (.if_icmp .le 7, 3) := by decide +kernel
theorem dX8_sum_10 : decode cX8_sum 10 = .ok (.ldc2_w 109, 3) := by decide +kernel
theorem dX8_sum_13 : decode cX8_sum 13 = .ok (.lreturn, 1) := by decide +kernel
theorem dX8_sum_14 : decode cX8_sum 14 = .ok (.aload_n 0, 1) := by decide +kernel
theorem dX8_sum_15 : decode cX8_sum 15 = .ok (.invokevirtual 115, 3) := by decide +kernel
theorem dX8_sum_18 : decode cX8_sum 18 = .ok (.iload_n 1, 1) := by decide +kernel
theorem dX8_sum_19 : decode cX8_sum 19 = .ok (.iconst 1, 1) := by decide +kernel
theorem dX8_sum_20 : decode cX8_sum 20 = .ok (.invokevirtual 119, 3) := by decide +kernel
theorem dX8_sum_23 : decode cX8_sum 23 = .ok (.lreturn, 1) := by decide +kernel
set_option maxRecDepth 20000 in
theorem ggX8_among_X7_commonDivisor : GoodIn wsX8_among wsX7_commonDivisor := goodIn_r _ [5] (by decide +kernel) (by decide +kernel)
set_option maxRecDepth 20000 in
theorem gX8_among_X7_commonDivisor : GoodIn wsX8_among (va_wsS RX8 125 yX7_commonDivisor wsX7_commonDivisor) := goodIn_app (goodIn_of _ (by decide +kernel)) ggX8_among_X7_commonDivisor
set_option maxRecDepth 20000 in
theorem ggX8_among_X8_knownPrimes : GoodIn wsX8_among wsX8_knownPrimes := goodIn_r _ [10, 11, 12, 13, 14, 15, 16, 17, 18, 19, 20, 21, 22, 23, 24, 25, 26, 27, 28, 29, 30, 31, 32, 33, 34, 35, 36, 37, 38, 39, 40, 41, 42, 43, 44, 45, 46, 47, 48, 49, 50, 51, 52, 53, 154, 155, 156, 157, 158, 159, 160, 161, 162] (by decide +kernel) (by decide +kernel)
set_option maxRecDepth 20000 in
theorem gX8_among_X8_knownPrimes : GoodIn wsX8_among (wsV RX8 18 RX8 yX8_knownPrimes wsX8_knownPrimes) := goodIn_app (goodIn_of _ (by decide +kernel)) ggX8_among_X8_knownPrimes
set_option maxRecDepth 20000 in
theorem ggX8_among_X3_isPrime : GoodIn wsX8_among wsX3_isPrime := goodIn_r _ [57, 58, 23, 59, 60, 61, 14, 62, 22, 160, 161] (by decide +kernel) (by decide +kernel)
set_option maxRecDepth 20000 in
theorem gX8_among_X3_isPrime : GoodIn wsX8_among (wsV RX8 57 RX3 yX3_isPrime wsX3_isPrime) := goodIn_app (goodIn_of _ (by decide +kernel)) ggX8_among_X3_isPrime
set_option maxRecDepth 20000 in
theorem ggX8_among_X8_oddPrimesLeaving : GoodIn wsX8_among wsX8_oddPrimesLeaving := goodIn_r _ [66, 67, 68, 52, 69, 70, 71, 72, 73, 74, 75, 76, 9, 77, 78, 79, 80, 81, 82, 83, 84, 85, 19, 20, 33, 86, 87, 88, 89, 90, 91, 92, 93, 94, 95, 96, 97, 4, 98, 99, 100, 101, 102, 103, 104, 105, 106, 107, 51, 53, 108, 109, 110, 111, 112, 113, 114, 115, 116, 25, 26, 117, 118, 119, 30, 31, 32, 34, 6, 7, 8, 10, 11, 12, 13, 14, 15, 16, 17, 18, 21, 22, 23, 24, 27, 28, 29, 35, 36, 37, 38, 39, 40, 41, 42, 43, 44, 45, 46, 47, 48, 49, 50, 120, 121, 122, 123, 124, 125, 126, 127, 128, 129, 130, 131, 132, 133, 134, 135, 136, 137, 60, 61, 62, 138, 139, 140, 141, 142, 143, 144, 145, 146, 147, 148, 149, 150, 151, 152, 153, 154, 155, 156, 157, 158, 159, 163, 164, 165, 162, 160, 161] (by decide +kernel) (by decide +kernel)
set_option maxRecDepth 20000 in
theorem gX8_among_X8_oddPrimesLeaving : GoodIn wsX8_among (wsV RX8 131 RX8 yX8_oddPrimesLeaving wsX8_oddPrimesLeaving) := goodIn_app (goodIn_of _ (by decide +kernel)) ggX8_among_X8_oddPrimesLeaving
theorem dX8_among_0 : decode cX8_among 0 = .ok (.iload_n 1, 1) := by decide +kernel
theorem dX8_among_1 : decode cX8_among 1 = .ok (.ifCond .lt 29, 3) := by decide +kernel
theorem dX8_among_4 : decode cX8_among 4 = .ok (.iload_n 1, 1) := by decide +kernel
theorem dX8_among_5 : decode cX8_among 5 = .ok (.ldc 114, 2) := by decide +kernel
theorem dX8_among_7 : decode cX8_among 7 = .ok (.if_icmp .gt 23, 3) := by decide +kernel
theorem dX8_among_10 : decode cX8_among 10 = .ok (.iload_n 2, 1) := by decide +kernel
theorem dX8_among_11 : decode cX8_among 11 = .ok (.iconst 1, 1) := by decide +kernel
theorem dX8_among_12 : decode cX8_among 12 = .ok (.if_icmp .lt 18, 3) := by decide +kernel
theorem dX8_among_15 : decode cX8_among 15 = .ok (.iload_n 2, 1) := by decide +kernel
theorem dX8_among_16 : decode cX8_among 16 = .ok (.bipush 60, 2) := by decide +kernel
theorem dX8_among_18 : decode cX8_among 18 = .ok (.if_icmp .gt 12, 3) := by decide +kernel
theorem dX8_among_21 : decode cX8_among 21 = .ok (.iload_n 3, 1) := by decide +kernel
theorem dX8_among_22 : decode cX8_among 22 = .ok (.ifCond .lt 8, 3) := by decide +kernel
theorem dX8_among_25 : decode cX8_among 25 = .ok (.iload_n 3, 1) := by decide +kernel
theorem dX8_among_26 : decode cX8_among 26 = .ok (.iload_n 2, 1) := by decide +kernel
theorem dX8_among_27 : decode cX8_among 27 = .ok (.if_icmp .lt 5, 3) := by decide +kernel
theorem dX8_among_30 : decode cX8_among 30 = .ok (.iconst (-1), 1) := by decide +kernel
theorem dX8_among_31 : decode cX8_among 31 = .ok (.ireturn, 1) := by decide +kernel
theorem dX8_among_32 : decode cX8_among 32 = .ok (.iload_n 2, 1) := by decide +kernel
theorem dX8_among_33 : decode cX8_among 33 = .ok (.iload_n 3, 1) := by decide +kernel
theorem dX8_among_34 : decode cX8_among 34 = .ok (.invokestatic 125, 3) := by decide +kernel
theorem dX8_among_37 : decode cX8_among 37 = .ok (.istore 4, 2) := by decide +kernel
theorem dX8_among_39 : decode cX8_among 39 = .ok (.iload 4, 2) := by decide +kernel
theorem dX8_among_41 : decode cX8_among 41 = .ok (.iconst 1, 1) := by decide +kernel
theorem dX8_among_42 : decode cX8_among 42 = .ok (.if_icmp .le 36, 3) := by decide +kernel
theorem dX8_among_45 : decode cX8_among 45 = .ok (.iload 4, 2) := by decide +kernel
theorem dX8_among_47 : decode cX8_among 47 = .ok (.iload_n 1, 1) := by decide +kernel
theorem dX8_among_48 : decode cX8_among 48 = .ok (.if_icmp .gt 28, 3) := by decide +kernel
theorem dX8_among_51 : decode cX8_among 51 = .ok (.iload 4, 2) := by decide +kernel
theorem dX8_among_53 : decode cX8_among 53 = .ok (.iload_n 2, 1) := by decide +kernel
theorem dX8_among_54 : decode cX8_among 54 = .ok (.irem, 1) := by decide +kernel
theorem dX8_among_55 : decode cX8_among 55 = .ok (.iload_n 3, 1) := by decide +kernel
theorem dX8_among_56 : decode cX8_among 56 = .ok (.if_icmp .ne 20, 3) := by decide +kernel
theorem dX8_among_59 : decode cX8_among 59 = .ok (.aload_n 0, 1) := by decide +kernel
theorem dX8_among_60 : decode cX8_among 60 = .ok (.invokevirtual 18, 3) := by decide +kernel
theorem dX8_among_63 : decode cX8_among 63 = .ok (.iload 4, 2) := by decide +kernel
theorem dX8_among_65 : decode cX8_among 65 = .ok (.i2l, 1) := by decide +kernel
theorem dX8_among_66 : decode cX8_among 66 = .ok (.invokevirtual 57, 3) := by decide +kernel
theorem dX8_among_69 : decode cX8_among 69 = .ok (.ifCond .eq 7, 3) := by decide +kernel
theorem dX8_among_72 : decode cX8_among 72 = .ok (.iconst 1, 1) := by decide +kernel
theorem dX8_among_73 : decode cX8_among 73 = .ok (.goto 4, 3) := by decide +kernel
theorem dX8_among_76 : decode cX8_among 76 = .ok (.iconst 0, 1) := by decide +kernel
theorem dX8_among_77 : decode cX8_among 77 = .ok (.ireturn, 1) := by decide +kernel
theorem dX8_among_78 : decode cX8_among 78 = .ok (.iload_n 1, 1) := by decide +kernel
theorem dX8_among_79 : decode cX8_among 79 = .ok (.iconst 2, 1) := by decide +kernel
theorem dX8_among_80 : decode cX8_among 80 = .ok (.if_icmp .lt 14, 3) := by decide +kernel
theorem dX8_among_83 : decode cX8_among 83 = .ok (.iconst 2, 1) := by decide +kernel
theorem dX8_among_84 : decode cX8_among 84 = .ok (.iload_n 2, 1) := by decide +kernel
theorem dX8_among_85 : decode cX8_among 85 = .ok (.irem, 1) := by decide +kernel
theorem dX8_among_86 : decode cX8_among 86 = .ok (.iload_n 3, 1) := by decide +kernel
theorem dX8_among_87 : decode cX8_among 87 = .ok (.if_icmp .ne 7, 3) := by decide +kernel
theorem dX8_among_90 : decode cX8_among 90 = .ok (.iconst 1, 1) := by decide +kernel
theorem dX8_among_91 : decode cX8_among 91 = .ok (.goto 4, 3) := by decide +kernel
theorem dX8_among_94 : decode cX8_among 94 = .ok (.iconst 0, 1) := by decide +kernel
theorem dX8_among_95 : decode cX8_among 95 = .ok (.istore 5, 2) := by decide +kernel
theorem dX8_among_97 : decode cX8_among 97 = .ok (.iload 5, 2) := by decide +kernel
theorem dX8_among_99 : decode cX8_among 99 = .ok (.aload_n 0, 1) := by decide +kernel
theorem dX8_among_100 : decode cX8_among 100 = .ok (.iload_n 1, 1) := by decide +kernel
theorem dX8_among_101 : decode cX8_among 101 = .ok (.iload_n 2, 1) := by decide +kernel
theorem dX8_among_102 : decode cX8_among 102 = .ok (.iload_n 3, 1) := by decide +kernel
theorem dX8_among_103 : decode cX8_among 103 = .ok (.invokevirtual 131, 3) := by decide +kernel
theorem dX8_among_106 : decode cX8_among 106 = .ok (.iadd, 1) := by decide +kernel
theorem dX8_among_107 : decode cX8_among 107 = .ok (.ireturn, 1) := by decide +kernel
set_option maxRecDepth 20000 in
theorem ggX8_floors_X7_floorSum : GoodIn wsX8_floors wsX7_floorSum := goodIn_r _ [7, 8] (by decide +kernel) (by decide +kernel)
set_option maxRecDepth 20000 in
theorem gX8_floors_X7_floorSum : GoodIn wsX8_floors (va_wsS RX8 137 yX7_floorSum wsX7_floorSum) := goodIn_app (goodIn_of _ (by decide +kernel)) ggX8_floors_X7_floorSum
theorem dX8_floors_0 : decode cX8_floors 0 = .ok (.iload_n 1, 1) := by decide +kernel
theorem dX8_floors_1 : decode cX8_floors 1 = .ok (.ifCond .lt 29, 3) := by decide +kernel
theorem dX8_floors_4 : decode cX8_floors 4 = .ok (.iload_n 1, 1) := by decide +kernel
theorem dX8_floors_5 : decode cX8_floors 5 = .ok (.ldc 135, 2) := by decide +kernel
theorem dX8_floors_7 : decode cX8_floors 7 = .ok (.if_icmp .gt 23, 3) := by decide +kernel
theorem dX8_floors_10 : decode cX8_floors 10 = .ok (.iload_n 2, 1) := by decide +kernel
theorem dX8_floors_11 : decode cX8_floors 11 = .ok (.ifCond .lt 19, 3) := by decide +kernel
theorem dX8_floors_14 : decode cX8_floors 14 = .ok (.iload_n 2, 1) := by decide +kernel
theorem dX8_floors_15 : decode cX8_floors 15 = .ok (.ldc 136, 2) := by decide +kernel
theorem dX8_floors_17 : decode cX8_floors 17 = .ok (.if_icmp .gt 13, 3) := by decide +kernel
theorem dX8_floors_20 : decode cX8_floors 20 = .ok (.iload_n 3, 1) := by decide +kernel
theorem dX8_floors_21 : decode cX8_floors 21 = .ok (.ifCond .lt 9, 3) := by decide +kernel
theorem dX8_floors_24 : decode cX8_floors 24 = .ok (.iload_n 3, 1) := by decide +kernel
theorem dX8_floors_25 : decode cX8_floors 25 = .ok (.ldc 136, 2) := by decide +kernel
theorem dX8_floors_27 : decode cX8_floors 27 = .ok (.if_icmp .le 7, 3) := by decide +kernel
theorem dX8_floors_30 : decode cX8_floors 30 = .ok (.ldc2_w 109, 3) := by decide +kernel
theorem dX8_floors_33 : decode cX8_floors 33 = .ok (.lreturn, 1) := by decide +kernel
theorem dX8_floors_34 : decode cX8_floors 34 = .ok (.iload 4, 2) := by decide +kernel
theorem dX8_floors_36 : decode cX8_floors 36 = .ok (.iconst 1, 1) := by decide +kernel
theorem dX8_floors_37 : decode cX8_floors 37 = .ok (.if_icmp .lt 10, 3) := by decide +kernel
theorem dX8_floors_40 : decode cX8_floors 40 = .ok (.iload 4, 2) := by decide +kernel
theorem dX8_floors_42 : decode cX8_floors 42 = .ok (.ldc 136, 2) := by decide +kernel
theorem dX8_floors_44 : decode cX8_floors 44 = .ok (.if_icmp .le 7, 3) := by decide +kernel
theorem dX8_floors_47 : decode cX8_floors 47 = .ok (.ldc2_w 109, 3) := by decide +kernel
theorem dX8_floors_50 : decode cX8_floors 50 = .ok (.lreturn, 1) := by decide +kernel
theorem dX8_floors_51 : decode cX8_floors 51 = .ok (.iload_n 1, 1) := by decide +kernel
theorem dX8_floors_52 : decode cX8_floors 52 = .ok (.i2l, 1) := by decide +kernel
theorem dX8_floors_53 : decode cX8_floors 53 = .ok (.iload_n 2, 1) := by decide +kernel
theorem dX8_floors_54 : decode cX8_floors 54 = .ok (.i2l, 1) := by decide +kernel
theorem dX8_floors_55 : decode cX8_floors 55 = .ok (.iload_n 3, 1) := by decide +kernel
theorem dX8_floors_56 : decode cX8_floors 56 = .ok (.i2l, 1) := by decide +kernel
theorem dX8_floors_57 : decode cX8_floors 57 = .ok (.iload 4, 2) := by decide +kernel
theorem dX8_floors_59 : decode cX8_floors 59 = .ok (.i2l, 1) := by decide +kernel
theorem dX8_floors_60 : decode cX8_floors 60 = .ok (.invokestatic 137, 3) := by decide +kernel
theorem dX8_floors_63 : decode cX8_floors 63 = .ok (.lreturn, 1) := by decide +kernel
set_option maxRecDepth 20000 in
theorem ggX8_points_X7_pointsUnder : GoodIn wsX8_points wsX7_pointsUnder := goodIn_r _ [6, 7, 8, 9, 5, 10] (by decide +kernel) (by decide +kernel)
set_option maxRecDepth 20000 in
theorem gX8_points_X7_pointsUnder : GoodIn wsX8_points (va_wsS RX8 141 yX7_pointsUnder wsX7_pointsUnder) := goodIn_app (goodIn_of _ (by decide +kernel)) ggX8_points_X7_pointsUnder
theorem dX8_points_0 : decode cX8_points 0 = .ok (.lload_n 1, 1) := by decide +kernel
theorem dX8_points_1 : decode cX8_points 1 = .ok (.lconst 0, 1) := by decide +kernel
theorem dX8_points_2 : decode cX8_points 2 = .ok (.lcmp, 1) := by decide +kernel
theorem dX8_points_3 : decode cX8_points 3 = .ok (.ifCond .lt 11, 3) := by decide +kernel
theorem dX8_points_6 : decode cX8_points 6 = .ok (.lload_n 1, 1) := by decide +kernel
theorem dX8_points_7 : decode cX8_points 7 = .ok (.ldc2_w 9, 3) := by decide +kernel
theorem dX8_points_10 : decode cX8_points 10 = .ok (.lcmp, 1) := by decide +kernel
theorem dX8_points_11 : decode cX8_points 11 = .ok (.ifCond .le 7, 3) := by decide +kernel
theorem dX8_points_14 : decode cX8_points 14 = .ok (.ldc2_w 109, 3) := by decide +kernel
theorem dX8_points_17 : decode cX8_points 17 = .ok (.lreturn, 1) := by decide +kernel
theorem dX8_points_18 : decode cX8_points 18 = .ok (.lload_n 1, 1) := by decide +kernel
theorem dX8_points_19 : decode cX8_points 19 = .ok (.invokestatic 141, 3) := by decide +kernel
theorem dX8_points_22 : decode cX8_points 22 = .ok (.lreturn, 1) := by decide +kernel
set_option maxRecDepth 20000 in
theorem ggX8_rule_X8_newRow : GoodIn wsX8_rule wsX8_newRow := goodIn_r _ [6, 1, 7, 8, 9, 10, 11, 12, 13, 14, 15, 16, 17, 18, 19, 20, 21, 22, 23, 24, 25, 26, 27, 28, 29, 51, 52, 53, 54, 55, 56, 57, 58] (by decide +kernel) (by decide +kernel)
set_option maxRecDepth 20000 in
theorem gX8_rule_X8_newRow : GoodIn wsX8_rule (wsV RX8 144 RX8 yX8_newRow wsX8_newRow) := goodIn_app (goodIn_of _ (by decide +kernel)) ggX8_rule_X8_newRow
set_option maxRecDepth 20000 in
theorem ggX8_rule_X5_fillByRule : GoodIn wsX8_rule wsX5_fillByRule := goodIn_r _ [33, 23, 24, 25, 9, 26, 17, 27, 28, 29, 34, 35, 36, 37, 38, 39, 40, 41, 42, 43, 44, 45, 46, 47, 48, 49, 50, 57, 58] (by decide +kernel) (by decide +kernel)
set_option maxRecDepth 20000 in
theorem gX8_rule_X5_fillByRule : GoodIn wsX8_rule (wsV RX8 151 RX5 yX5_fillByRule wsX5_fillByRule) := goodIn_app (goodIn_of _ (by decide +kernel)) ggX8_rule_X5_fillByRule
theorem dX8_rule_0 : decode cX8_rule 0 = .ok (.iload_n 1, 1) := by decide +kernel
theorem dX8_rule_1 : decode cX8_rule 1 = .ok (.ifCond .lt 9, 3) := by decide +kernel
theorem dX8_rule_4 : decode cX8_rule 4 = .ok (.iload_n 1, 1) := by decide +kernel
theorem dX8_rule_5 : decode cX8_rule 5 = .ok (.bipush 10, 2) := by decide +kernel
theorem dX8_rule_7 : decode cX8_rule 7 = .ok (.if_icmp .lt 5, 3) := by decide +kernel
theorem dX8_rule_10 : decode cX8_rule 10 = .ok (.iconst (-1), 1) := by decide +kernel
theorem dX8_rule_11 : decode cX8_rule 11 = .ok (.ireturn, 1) := by decide +kernel
theorem dX8_rule_12 : decode cX8_rule 12 = .ok (.aload_n 0, 1) := by decide +kernel
theorem dX8_rule_13 : decode cX8_rule 13 = .ok (.invokevirtual 144, 3) := by decide +kernel
theorem dX8_rule_16 : decode cX8_rule 16 = .ok (.istore_n 2, 1) := by decide +kernel
theorem dX8_rule_17 : decode cX8_rule 17 = .ok (.iload_n 2, 1) := by decide +kernel
theorem dX8_rule_18 : decode cX8_rule 18 = .ok (.iconst (-1), 1) := by decide +kernel
theorem dX8_rule_19 : decode cX8_rule 19 = .ok (.if_icmp .eq 12, 3) := by decide +kernel
theorem dX8_rule_22 : decode cX8_rule 22 = .ok (.aload_n 0, 1) := by decide +kernel
theorem dX8_rule_23 : decode cX8_rule 23 = .ok (.getfield 147, 3) := by decide +kernel
theorem dX8_rule_26 : decode cX8_rule 26 = .ok (.iload_n 2, 1) := by decide +kernel
theorem dX8_rule_27 : decode cX8_rule 27 = .ok (.iload_n 1, 1) := by decide +kernel
theorem dX8_rule_28 : decode cX8_rule 28 = .ok (.invokevirtual 151, 3) := by decide +kernel
theorem dX8_rule_31 : decode cX8_rule 31 = .ok (.iload_n 2, 1) := by decide +kernel
theorem dX8_rule_32 : decode cX8_rule 32 = .ok (.ireturn, 1) := by decide +kernel
set_option maxRecDepth 20000 in
theorem ggX8_sheet_X8_newRow : GoodIn wsX8_sheet wsX8_newRow := goodIn_r _ [5, 6, 7, 8, 9, 10, 11, 12, 13, 14, 15, 16, 17, 18, 19, 20, 21, 22, 23, 24, 25, 26, 27, 28, 29, 30, 31, 32, 33, 34, 35, 36, 37] (by decide +kernel) (by decide +kernel)
set_option maxRecDepth 20000 in
theorem gX8_sheet_X8_newRow : GoodIn wsX8_sheet (wsV RX8 144 RX8 yX8_newRow wsX8_newRow) := goodIn_app (goodIn_of _ (by decide +kernel)) ggX8_sheet_X8_newRow
theorem dX8_sheet_0 : decode cX8_sheet 0 = .ok (.aload_n 0, 1) := by decide +kernel
theorem dX8_sheet_1 : decode cX8_sheet 1 = .ok (.invokevirtual 144, 3) := by decide +kernel
theorem dX8_sheet_4 : decode cX8_sheet 4 = .ok (.ireturn, 1) := by decide +kernel
set_option maxRecDepth 20000 in
theorem ggX8_tell_X8_hasRow : GoodIn wsX8_tell wsX8_hasRow := goodIn_r _ [6, 1, 16, 17, 18, 19, 20, 21, 22, 23] (by decide +kernel) (by decide +kernel)
set_option maxRecDepth 20000 in
theorem gX8_tell_X8_hasRow : GoodIn wsX8_tell (wsV RX8 157 RX8 yX8_hasRow wsX8_hasRow) := goodIn_app (goodIn_of _ (by decide +kernel)) ggX8_tell_X8_hasRow
set_option maxRecDepth 20000 in
theorem ggX8_tell_X5_put : GoodIn wsX8_tell wsX5_put := goodIn_r _ [11, 12, 13, 14, 10, 15, 22, 23] (by decide +kernel) (by decide +kernel)
set_option maxRecDepth 20000 in
theorem gX8_tell_X5_put : GoodIn wsX8_tell (wsV RX8 161 RX5 yX5_put wsX5_put) := goodIn_app (goodIn_of _ (by decide +kernel)) ggX8_tell_X5_put
theorem dX8_tell_0 : decode cX8_tell 0 = .ok (.aload_n 0, 1) := by decide +kernel
theorem dX8_tell_1 : decode cX8_tell 1 = .ok (.iload_n 1, 1) := by decide +kernel
theorem dX8_tell_2 : decode cX8_tell 2 = .ok (.invokevirtual 157, 3) := by decide +kernel
theorem dX8_tell_5 : decode cX8_tell 5 = .ok (.ifCond .eq 15, 3) := by decide +kernel
theorem dX8_tell_8 : decode cX8_tell 8 = .ok (.iload_n 2, 1) := by decide +kernel
theorem dX8_tell_9 : decode cX8_tell 9 = .ok (.iconst 1, 1) := by decide +kernel
theorem dX8_tell_10 : decode cX8_tell 10 = .ok (.if_icmp .lt 10, 3) := by decide +kernel
theorem dX8_tell_13 : decode cX8_tell 13 = .ok (.iload_n 2, 1) := by decide +kernel
theorem dX8_tell_14 : decode cX8_tell 14 = .ok (.sipush 600, 3) := by decide +kernel
theorem dX8_tell_17 : decode cX8_tell 17 = .ok (.if_icmp .le 5, 3) := by decide +kernel
theorem dX8_tell_20 : decode cX8_tell 20 = .ok (.iconst 0, 1) := by decide +kernel
theorem dX8_tell_21 : decode cX8_tell 21 = .ok (.ireturn, 1) := by decide +kernel
theorem dX8_tell_22 : decode cX8_tell 22 = .ok (.aload_n 0, 1) := by decide +kernel
theorem dX8_tell_23 : decode cX8_tell 23 = .ok (.getfield 147, 3) := by decide +kernel
theorem dX8_tell_26 : decode cX8_tell 26 = .ok (.iload_n 1, 1) := by decide +kernel
theorem dX8_tell_27 : decode cX8_tell 27 = .ok (.iload_n 2, 1) := by decide +kernel
theorem dX8_tell_28 : decode cX8_tell 28 = .ok (.lload_n 3, 1) := by decide +kernel
theorem dX8_tell_29 : decode cX8_tell 29 = .ok (.invokevirtual 161, 3) := by decide +kernel
theorem dX8_tell_32 : decode cX8_tell 32 = .ok (.iconst 1, 1) := by decide +kernel
theorem dX8_tell_33 : decode cX8_tell 33 = .ok (.ireturn, 1) := by decide +kernel
set_option maxRecDepth 20000 in
theorem ggX8_product_X8_hasRow : GoodIn wsX8_product wsX8_hasRow := goodIn_r _ [6, 1, 46, 47, 48, 49, 50, 51, 52, 53] (by decide +kernel) (by decide +kernel)
set_option maxRecDepth 20000 in
theorem gX8_product_X8_hasRow : GoodIn wsX8_product (wsV RX8 157 RX8 yX8_hasRow wsX8_hasRow) := goodIn_app (goodIn_of _ (by decide +kernel)) ggX8_product_X8_hasRow
set_option maxRecDepth 20000 in
theorem ggX8_product_X8_newRow : GoodIn wsX8_product wsX8_newRow := goodIn_r _ [10, 1, 11, 12, 13, 14, 15, 16, 17, 18, 19, 20, 21, 22, 23, 24, 25, 26, 27, 28, 29, 30, 31, 32, 33, 46, 47, 48, 49, 50, 51, 52, 53] (by decide +kernel) (by decide +kernel)
set_option maxRecDepth 20000 in
theorem gX8_product_X8_newRow : GoodIn wsX8_product (wsV RX8 144 RX8 yX8_newRow wsX8_newRow) := goodIn_app (goodIn_of _ (by decide +kernel)) ggX8_product_X8_newRow
set_option maxRecDepth 20000 in
theorem ggX8_product_X5_fillByProduct : GoodIn wsX8_product wsX5_fillByProduct := goodIn_r _ [37, 38, 39, 40, 13, 41, 21, 31, 32, 33, 42, 43, 44, 45, 27, 28, 29, 30, 52, 53] (by decide +kernel) (by decide +kernel)
set_option maxRecDepth 20000 in
theorem gX8_product_X5_fillByProduct : GoodIn wsX8_product (wsV RX8 165 RX5 yX5_fillByProduct wsX5_fillByProduct) := goodIn_app (goodIn_of _ (by decide +kernel)) ggX8_product_X5_fillByProduct
theorem dX8_product_0 : decode cX8_product 0 = .ok (.aload_n 0, 1) := by decide +kernel
theorem dX8_product_1 : decode cX8_product 1 = .ok (.iload_n 1, 1) := by decide +kernel
theorem dX8_product_2 : decode cX8_product 2 = .ok (.invokevirtual 157, 3) := by decide +kernel
theorem dX8_product_5 : decode cX8_product 5 = .ok (.ifCond .eq 11, 3) := by decide +kernel
theorem dX8_product_8 : decode cX8_product 8 = .ok (.aload_n 0, 1) := by decide +kernel
theorem dX8_product_9 : decode cX8_product 9 = .ok (.iload_n 2, 1) := by decide +kernel
theorem dX8_product_10 : decode cX8_product 10 = .ok (.invokevirtual 157, 3) := by decide +kernel
theorem dX8_product_13 : decode cX8_product 13 = .ok (.ifCond .ne 5, 3) := by decide +kernel
theorem dX8_product_16 : decode cX8_product 16 = .ok (.iconst (-1), 1) := by decide +kernel
theorem dX8_product_17 : decode cX8_product 17 = .ok (.ireturn, 1) := by decide +kernel
theorem dX8_product_18 : decode cX8_product 18 = .ok (.aload_n 0, 1) := by decide +kernel
theorem dX8_product_19 : decode cX8_product 19 = .ok (.invokevirtual 144, 3) := by decide +kernel
theorem dX8_product_22 : decode cX8_product 22 = .ok (.istore_n 3, 1) := by decide +kernel
theorem dX8_product_23 : decode cX8_product 23 = .ok (.iload_n 3, 1) := by decide +kernel
theorem dX8_product_24 : decode cX8_product 24 = .ok (.iconst (-1), 1) := by decide +kernel
theorem dX8_product_25 : decode cX8_product 25 = .ok (.if_icmp .eq 13, 3) := by decide +kernel
theorem dX8_product_28 : decode cX8_product 28 = .ok (.aload_n 0, 1) := by decide +kernel
theorem dX8_product_29 : decode cX8_product 29 = .ok (.getfield 147, 3) := by decide +kernel
theorem dX8_product_32 : decode cX8_product 32 = .ok (.iload_n 3, 1) := by decide +kernel
theorem dX8_product_33 : decode cX8_product 33 = .ok (.iload_n 1, 1) := by decide +kernel
theorem dX8_product_34 : decode cX8_product 34 = .ok (.iload_n 2, 1) := by decide +kernel
theorem dX8_product_35 : decode cX8_product 35 = .ok (.invokevirtual 165, 3) := by decide +kernel
theorem dX8_product_38 : decode cX8_product 38 = .ok (.iload_n 3, 1) := by decide +kernel
theorem dX8_product_39 : decode cX8_product 39 = .ok (.ireturn, 1) := by decide +kernel
set_option maxRecDepth 20000 in
theorem ggX8_turned_X8_hasRow : GoodIn wsX8_turned wsX8_hasRow := goodIn_r _ [6, 1, 51, 52, 53, 54, 55, 56, 57, 58] (by decide +kernel) (by decide +kernel)
set_option maxRecDepth 20000 in
theorem gX8_turned_X8_hasRow : GoodIn wsX8_turned (wsV RX8 157 RX8 yX8_hasRow wsX8_hasRow) := goodIn_app (goodIn_of _ (by decide +kernel)) ggX8_turned_X8_hasRow
set_option maxRecDepth 20000 in
theorem ggX8_turned_X5_canTurn : GoodIn wsX8_turned wsX5_canTurn := goodIn_r _ [11, 12, 13, 14, 15, 10, 16, 17, 18, 19, 20, 57, 58] (by decide +kernel) (by decide +kernel)
set_option maxRecDepth 20000 in
theorem gX8_turned_X5_canTurn : GoodIn wsX8_turned (wsV RX8 169 RX5 yX5_canTurn wsX5_canTurn) := goodIn_app (goodIn_of _ (by decide +kernel)) ggX8_turned_X5_canTurn
set_option maxRecDepth 20000 in
theorem ggX8_turned_X8_newRow : GoodIn wsX8_turned wsX8_newRow := goodIn_r _ [24, 1, 25, 26, 10, 27, 28, 29, 30, 31, 32, 33, 17, 34, 35, 36, 37, 38, 39, 40, 41, 42, 18, 19, 20, 51, 52, 53, 54, 55, 56, 57, 58] (by decide +kernel) (by decide +kernel)
set_option maxRecDepth 20000 in
theorem gX8_turned_X8_newRow : GoodIn wsX8_turned (wsV RX8 144 RX8 yX8_newRow wsX8_newRow) := goodIn_app (goodIn_of _ (by decide +kernel)) ggX8_turned_X8_newRow
set_option maxRecDepth 20000 in
theorem ggX8_turned_X5_fillTurned : GoodIn wsX8_turned wsX5_fillTurned := goodIn_r _ [46, 12, 13, 14, 15, 10, 16, 17, 18, 19, 20, 39, 40, 41, 42, 47, 48, 49, 50, 57, 58] (by decide +kernel) (by decide +kernel)
set_option maxRecDepth 20000 in
theorem gX8_turned_X5_fillTurned : GoodIn wsX8_turned (wsV RX8 172 RX5 yX5_fillTurned wsX5_fillTurned) := goodIn_app (goodIn_of _ (by decide +kernel)) ggX8_turned_X5_fillTurned
theorem dX8_turned_0 : decode cX8_turned 0 = .ok (.aload_n 0, 1) := by decide +kernel
theorem dX8_turned_1 : decode cX8_turned 1 = .ok (.iload_n 1, 1) := by decide +kernel
theorem dX8_turned_2 : decode cX8_turned 2 = .ok (.invokevirtual 157, 3) := by decide +kernel
theorem dX8_turned_5 : decode cX8_turned 5 = .ok (.ifCond .eq 14, 3) := by decide +kernel
theorem dX8_turned_8 : decode cX8_turned 8 = .ok (.aload_n 0, 1) := by decide +kernel
theorem dX8_turned_9 : decode cX8_turned 9 = .ok (.getfield 147, 3) := by decide +kernel
theorem dX8_turned_12 : decode cX8_turned 12 = .ok (.iload_n 1, 1) := by decide +kernel
theorem dX8_turned_13 : decode cX8_turned 13 = .ok (.invokevirtual 169, 3) := by decide +kernel
theorem dX8_turned_16 : decode cX8_turned 16 = .ok (.ifCond .ne 5, 3) := by decide +kernel
theorem dX8_turned_19 : decode cX8_turned 19 = .ok (.iconst (-1), 1) := by decide +kernel
theorem dX8_turned_20 : decode cX8_turned 20 = .ok (.ireturn, 1) := by decide +kernel
theorem dX8_turned_21 : decode cX8_turned 21 = .ok (.aload_n 0, 1) := by decide +kernel
theorem dX8_turned_22 : decode cX8_turned 22 = .ok (.invokevirtual 144, 3) := by decide +kernel
theorem dX8_turned_25 : decode cX8_turned 25 = .ok (.istore_n 2, 1) := by decide +kernel
theorem dX8_turned_26 : decode cX8_turned 26 = .ok (.iload_n 2, 1) := by decide +kernel
theorem dX8_turned_27 : decode cX8_turned 27 = .ok (.iconst (-1), 1) := by decide +kernel
theorem dX8_turned_28 : decode cX8_turned 28 = .ok (.if_icmp .eq 12, 3) := by decide +kernel
theorem dX8_turned_31 : decode cX8_turned 31 = .ok (.aload_n 0, 1) := by decide +kernel
theorem dX8_turned_32 : decode cX8_turned 32 = .ok (.getfield 147, 3) := by decide +kernel
theorem dX8_turned_35 : decode cX8_turned 35 = .ok (.iload_n 2, 1) := by decide +kernel
theorem dX8_turned_36 : decode cX8_turned 36 = .ok (.iload_n 1, 1) := by decide +kernel
theorem dX8_turned_37 : decode cX8_turned 37 = .ok (.invokevirtual 172, 3) := by decide +kernel
theorem dX8_turned_40 : decode cX8_turned 40 = .ok (.iload_n 2, 1) := by decide +kernel
theorem dX8_turned_41 : decode cX8_turned 41 = .ok (.ireturn, 1) := by decide +kernel
theorem dX8_clear_0 : decode cX8_clear 0 = .ok (.aload_n 0, 1) := by decide +kernel
theorem dX8_clear_1 : decode cX8_clear 1 = .ok (.getfield 147, 3) := by decide +kernel
theorem dX8_clear_4 : decode cX8_clear 4 = .ok (.ifnull 11, 3) := by decide +kernel
theorem dX8_clear_7 : decode cX8_clear 7 = .ok (.aload_n 0, 1) := by decide +kernel
theorem dX8_clear_8 : decode cX8_clear 8 = .ok (.getfield 147, 3) := by decide +kernel
theorem dX8_clear_11 : decode cX8_clear 11 = .ok (.iconst 0, 1) := by decide +kernel
theorem dX8_clear_12 : decode cX8_clear 12 = .ok (.putfield 175, 3) := by decide +kernel
theorem dX8_clear_15 : decode cX8_clear 15 = .ok (.return_, 1) := by decide +kernel
set_option maxRecDepth 20000 in
theorem ggX8_at_X8_hasRow : GoodIn wsX8_at wsX8_hasRow := goodIn_r _ [6, 1, 16, 17, 18, 19, 20, 21, 22, 23] (by decide +kernel) (by decide +kernel)
set_option maxRecDepth 20000 in
theorem gX8_at_X8_hasRow : GoodIn wsX8_at (wsV RX8 157 RX8 yX8_hasRow wsX8_hasRow) := goodIn_app (goodIn_of _ (by decide +kernel)) ggX8_at_X8_hasRow
set_option maxRecDepth 20000 in
theorem ggX8_at_X5_look : GoodIn wsX8_at wsX5_look := goodIn_r _ [11, 12, 13, 14, 10, 15, 22, 23] (by decide +kernel) (by decide +kernel)
set_option maxRecDepth 20000 in
theorem gX8_at_X5_look : GoodIn wsX8_at (wsV RX8 176 RX5 yX5_look wsX5_look) := goodIn_app (goodIn_of _ (by decide +kernel)) ggX8_at_X5_look
theorem dX8_at_0 : decode cX8_at 0 = .ok (.aload_n 0, 1) := by decide +kernel
theorem dX8_at_1 : decode cX8_at 1 = .ok (.iload_n 1, 1) := by decide +kernel
theorem dX8_at_2 : decode cX8_at 2 = .ok (.invokevirtual 157, 3) := by decide +kernel
theorem dX8_at_5 : decode cX8_at 5 = .ok (.ifCond .eq 15, 3) := by decide +kernel
theorem dX8_at_8 : decode cX8_at 8 = .ok (.aload_n 0, 1) := by decide +kernel
theorem dX8_at_9 : decode cX8_at 9 = .ok (.getfield 147, 3) := by decide +kernel
theorem dX8_at_12 : decode cX8_at 12 = .ok (.iload_n 1, 1) := by decide +kernel
theorem dX8_at_13 : decode cX8_at 13 = .ok (.iload_n 2, 1) := by decide +kernel
theorem dX8_at_14 : decode cX8_at 14 = .ok (.invokevirtual 176, 3) := by decide +kernel
theorem dX8_at_17 : decode cX8_at 17 = .ok (.goto 4, 3) := by decide +kernel
theorem dX8_at_20 : decode cX8_at 20 = .ok (.lconst 0, 1) := by decide +kernel
theorem dX8_at_21 : decode cX8_at 21 = .ok (.lreturn, 1) := by decide +kernel
set_option maxRecDepth 20000 in
theorem ggX8_sumOf_X8_hasRow : GoodIn wsX8_sumOf wsX8_hasRow := goodIn_r _ [6, 1, 20, 21, 22, 23, 24, 25, 26, 27] (by decide +kernel) (by decide +kernel)
set_option maxRecDepth 20000 in
theorem gX8_sumOf_X8_hasRow : GoodIn wsX8_sumOf (wsV RX8 157 RX8 yX8_hasRow wsX8_hasRow) := goodIn_app (goodIn_of _ (by decide +kernel)) ggX8_sumOf_X8_hasRow
set_option maxRecDepth 20000 in
theorem ggX8_sumOf_X5_sumTo : GoodIn wsX8_sumOf wsX5_sumTo := goodIn_r _ [11, 12, 13, 14, 10, 15, 16, 17, 18, 19, 26, 27] (by decide +kernel) (by decide +kernel)
set_option maxRecDepth 20000 in
theorem gX8_sumOf_X5_sumTo : GoodIn wsX8_sumOf (wsV RX8 180 RX5 yX5_sumTo wsX5_sumTo) := goodIn_app (goodIn_of _ (by decide +kernel)) ggX8_sumOf_X5_sumTo
theorem dX8_sumOf_0 : decode cX8_sumOf 0 = .ok (.aload_n 0, 1) := by decide +kernel
theorem dX8_sumOf_1 : decode cX8_sumOf 1 = .ok (.iload_n 1, 1) := by decide +kernel
theorem dX8_sumOf_2 : decode cX8_sumOf 2 = .ok (.invokevirtual 157, 3) := by decide +kernel
theorem dX8_sumOf_5 : decode cX8_sumOf 5 = .ok (.ifCond .eq 14, 3) := by decide +kernel
theorem dX8_sumOf_8 : decode cX8_sumOf 8 = .ok (.iload_n 2, 1) := by decide +kernel
theorem dX8_sumOf_9 : decode cX8_sumOf 9 = .ok (.ifCond .lt 10, 3) := by decide +kernel
theorem dX8_sumOf_12 : decode cX8_sumOf 12 = .ok (.iload_n 2, 1) := by decide +kernel
theorem dX8_sumOf_13 : decode cX8_sumOf 13 = .ok (.sipush 600, 3) := by decide +kernel
theorem dX8_sumOf_16 : decode cX8_sumOf 16 = .ok (.if_icmp .le 5, 3) := by decide +kernel
theorem dX8_sumOf_19 : decode cX8_sumOf 19 = .ok (.lconst 0, 1) := by decide +kernel
theorem dX8_sumOf_20 : decode cX8_sumOf 20 = .ok (.lreturn, 1) := by decide +kernel
theorem dX8_sumOf_21 : decode cX8_sumOf 21 = .ok (.aload_n 0, 1) := by decide +kernel
theorem dX8_sumOf_22 : decode cX8_sumOf 22 = .ok (.getfield 147, 3) := by decide +kernel
theorem dX8_sumOf_25 : decode cX8_sumOf 25 = .ok (.iload_n 1, 1) := by decide +kernel
theorem dX8_sumOf_26 : decode cX8_sumOf 26 = .ok (.iload_n 2, 1) := by decide +kernel
theorem dX8_sumOf_27 : decode cX8_sumOf 27 = .ok (.invokevirtual 180, 3) := by decide +kernel
theorem dX8_sumOf_30 : decode cX8_sumOf 30 = .ok (.lreturn, 1) := by decide +kernel
set_option maxRecDepth 20000 in
theorem ggX8_same_X8_hasRow : GoodIn wsX8_same wsX8_hasRow := goodIn_r _ [6, 1, 20, 21, 22, 23, 24, 25, 26, 27] (by decide +kernel) (by decide +kernel)
set_option maxRecDepth 20000 in
theorem gX8_same_X8_hasRow : GoodIn wsX8_same (wsV RX8 157 RX8 yX8_hasRow wsX8_hasRow) := goodIn_app (goodIn_of _ (by decide +kernel)) ggX8_same_X8_hasRow
set_option maxRecDepth 20000 in
theorem ggX8_same_X5_firstDifference : GoodIn wsX8_same wsX5_firstDifference := goodIn_r _ [11, 12, 13, 14, 10, 15, 16, 17, 18, 19, 26, 27] (by decide +kernel) (by decide +kernel)
set_option maxRecDepth 20000 in
theorem gX8_same_X5_firstDifference : GoodIn wsX8_same (wsV RX8 183 RX5 yX5_firstDifference wsX5_firstDifference) := goodIn_app (goodIn_of _ (by decide +kernel)) ggX8_same_X5_firstDifference
theorem dX8_same_0 : decode cX8_same 0 = .ok (.aload_n 0, 1) := by decide +kernel
theorem dX8_same_1 : decode cX8_same 1 = .ok (.iload_n 1, 1) := by decide +kernel
theorem dX8_same_2 : decode cX8_same 2 = .ok (.invokevirtual 157, 3) := by decide +kernel
theorem dX8_same_5 : decode cX8_same 5 = .ok (.ifCond .eq 11, 3) := by decide +kernel
theorem dX8_same_8 : decode cX8_same 8 = .ok (.aload_n 0, 1) := by decide +kernel
theorem dX8_same_9 : decode cX8_same 9 = .ok (.iload_n 2, 1) := by decide +kernel
theorem dX8_same_10 : decode cX8_same 10 = .ok (.invokevirtual 157, 3) := by decide +kernel
theorem dX8_same_13 : decode cX8_same 13 = .ok (.ifCond .ne 5, 3) := by decide +kernel
theorem dX8_same_16 : decode cX8_same 16 = .ok (.iconst (-1), 1) := by decide +kernel
theorem dX8_same_17 : decode cX8_same 17 = .ok (.ireturn, 1) := by decide +kernel
theorem dX8_same_18 : decode cX8_same 18 = .ok (.aload_n 0, 1) := by decide +kernel
theorem dX8_same_19 : decode cX8_same 19 = .ok (.getfield 147, 3) := by decide +kernel
theorem dX8_same_22 : decode cX8_same 22 = .ok (.iload_n 1, 1) := by decide +kernel
theorem dX8_same_23 : decode cX8_same 23 = .ok (.iload_n 2, 1) := by decide +kernel
theorem dX8_same_24 : decode cX8_same 24 = .ok (.invokevirtual 183, 3) := by decide +kernel
theorem dX8_same_27 : decode cX8_same 27 = .ok (.ireturn, 1) := by decide +kernel
set_option maxRecDepth 20000 in
theorem ggX8_far_X7_isFarRule : GoodIn wsX8_far wsX7_isFarRule := goodIn_r _ [5] (by decide +kernel) (by decide +kernel)
set_option maxRecDepth 20000 in
theorem gX8_far_X7_isFarRule : GoodIn wsX8_far (va_wsS RX8 186 yX7_isFarRule wsX7_isFarRule) := goodIn_app (goodIn_of _ (by decide +kernel)) ggX8_far_X7_isFarRule
set_option maxRecDepth 20000 in
theorem ggX8_far_X7_farSum : GoodIn wsX8_far wsX7_farSum := goodIn_r _ [8, 9, 10, 4, 11, 12, 13, 14, 15, 16, 17, 18, 19, 20, 21, 22] (by decide +kernel) (by decide +kernel)
set_option maxRecDepth 20000 in
theorem gX8_far_X7_farSum : GoodIn wsX8_far (va_wsS RX8 189 yX7_farSum wsX7_farSum) := goodIn_app (goodIn_of _ (by decide +kernel)) ggX8_far_X7_farSum
theorem dX8_far_0 : decode cX8_far 0 = .ok (.iload_n 1, 1) := by decide +kernel
theorem dX8_far_1 : decode cX8_far 1 = .ok (.invokestatic 186, 3) := by decide +kernel
theorem dX8_far_4 : decode cX8_far 4 = .ok (.ifCond .eq 20, 3) := by decide +kernel
theorem dX8_far_7 : decode cX8_far 7 = .ok (.iload_n 2, 1) := by decide +kernel
theorem dX8_far_8 : decode cX8_far 8 = .ok (.invokestatic 186, 3) := by decide +kernel
theorem dX8_far_11 : decode cX8_far 11 = .ok (.ifCond .eq 13, 3) := by decide +kernel
theorem dX8_far_14 : decode cX8_far 14 = .ok (.iload_n 3, 1) := by decide +kernel
theorem dX8_far_15 : decode cX8_far 15 = .ok (.ifCond .lt 9, 3) := by decide +kernel
theorem dX8_far_18 : decode cX8_far 18 = .ok (.iload_n 3, 1) := by decide +kernel
theorem dX8_far_19 : decode cX8_far 19 = .ok (.ldc 135, 2) := by decide +kernel
theorem dX8_far_21 : decode cX8_far 21 = .ok (.if_icmp .le 5, 3) := by decide +kernel
theorem dX8_far_24 : decode cX8_far 24 = .ok (.lconst 0, 1) := by decide +kernel
theorem dX8_far_25 : decode cX8_far 25 = .ok (.lreturn, 1) := by decide +kernel
theorem dX8_far_26 : decode cX8_far 26 = .ok (.iload_n 1, 1) := by decide +kernel
theorem dX8_far_27 : decode cX8_far 27 = .ok (.iload_n 2, 1) := by decide +kernel
theorem dX8_far_28 : decode cX8_far 28 = .ok (.iload_n 3, 1) := by decide +kernel
theorem dX8_far_29 : decode cX8_far 29 = .ok (.invokestatic 189, 3) := by decide +kernel
theorem dX8_far_32 : decode cX8_far 32 = .ok (.lreturn, 1) := by decide +kernel
theorem dX8_about_0 : decode cX8_about 0 = .ok (.iload_n 1, 1) := by decide +kernel
theorem dX8_about_1 : decode cX8_about 1 = .ok (.tableswitch 84 0 2 #[27, 46, 65], 27) := by decide +kernel
theorem dX8_about_28 : decode cX8_about 28 = .ok (.aload_n 0, 1) := by decide +kernel
theorem dX8_about_29 : decode cX8_about 29 = .ok (.getfield 147, 3) := by decide +kernel
theorem dX8_about_32 : decode cX8_about 32 = .ok (.ifnonnull 7, 3) := by decide +kernel
theorem dX8_about_35 : decode cX8_about 35 = .ok (.iconst 0, 1) := by decide +kernel
theorem dX8_about_36 : decode cX8_about 36 = .ok (.goto 10, 3) := by decide +kernel
theorem dX8_about_39 : decode cX8_about 39 = .ok (.aload_n 0, 1) := by decide +kernel
theorem dX8_about_40 : decode cX8_about 40 = .ok (.getfield 147, 3) := by decide +kernel
theorem dX8_about_43 : decode cX8_about 43 = .ok (.getfield 175, 3) := by decide +kernel
theorem dX8_about_46 : decode cX8_about 46 = .ok (.ireturn, 1) := by decide +kernel
theorem dX8_about_47 : decode cX8_about 47 = .ok (.aload_n 0, 1) := by decide +kernel
theorem dX8_about_48 : decode cX8_about 48 = .ok (.getfield 11, 3) := by decide +kernel
theorem dX8_about_51 : decode cX8_about 51 = .ok (.ifnonnull 7, 3) := by decide +kernel
theorem dX8_about_54 : decode cX8_about 54 = .ok (.iconst 0, 1) := by decide +kernel
theorem dX8_about_55 : decode cX8_about 55 = .ok (.goto 10, 3) := by decide +kernel
theorem dX8_about_58 : decode cX8_about 58 = .ok (.aload_n 0, 1) := by decide +kernel
theorem dX8_about_59 : decode cX8_about 59 = .ok (.getfield 11, 3) := by decide +kernel
theorem dX8_about_62 : decode cX8_about 62 = .ok (.getfield 43, 3) := by decide +kernel
theorem dX8_about_65 : decode cX8_about 65 = .ok (.ireturn, 1) := by decide +kernel
theorem dX8_about_66 : decode cX8_about 66 = .ok (.aload_n 0, 1) := by decide +kernel
theorem dX8_about_67 : decode cX8_about 67 = .ok (.getfield 69, 3) := by decide +kernel
theorem dX8_about_70 : decode cX8_about 70 = .ok (.ifnonnull 7, 3) := by decide +kernel
theorem dX8_about_73 : decode cX8_about 73 = .ok (.iconst (-1), 1) := by decide +kernel
theorem dX8_about_74 : decode cX8_about 74 = .ok (.goto 10, 3) := by decide +kernel
theorem dX8_about_77 : decode cX8_about 77 = .ok (.aload_n 0, 1) := by decide +kernel
theorem dX8_about_78 : decode cX8_about 78 = .ok (.getfield 69, 3) := by decide +kernel
theorem dX8_about_81 : decode cX8_about 81 = .ok (.getfield 80, 3) := by decide +kernel
theorem dX8_about_84 : decode cX8_about 84 = .ok (.ireturn, 1) := by decide +kernel
theorem dX8_about_85 : decode cX8_about 85 = .ok (.iconst (-1), 1) := by decide +kernel
theorem dX8_about_86 : decode cX8_about 86 = .ok (.ireturn, 1) := by decide +kernel
theorem dX8_isInRange_0 : decode cX8_isInRange 0 = .ok (.lload_n 0, 1) := by decide +kernel
theorem dX8_isInRange_1 : decode cX8_isInRange 1 = .ok (.lconst 1, 1) := by decide +kernel
theorem dX8_isInRange_2 : decode cX8_isInRange 2 = .ok (.lcmp, 1) := by decide +kernel
theorem dX8_isInRange_3 : decode cX8_isInRange 3 = .ok (.ifCond .lt 15, 3) := by decide +kernel
theorem dX8_isInRange_6 : decode cX8_isInRange 6 = .ok (.lload_n 0, 1) := by decide +kernel
theorem dX8_isInRange_7 : decode cX8_isInRange 7 = .ok (.ldc2_w 9, 3) := by decide +kernel
theorem dX8_isInRange_10 : decode cX8_isInRange 10 = .ok (.lcmp, 1) := by decide +kernel
theorem dX8_isInRange_11 : decode cX8_isInRange 11 = .ok (.ifCond .gt 7, 3) := by decide +kernel
theorem dX8_isInRange_14 : decode cX8_isInRange 14 = .ok (.iconst 1, 1) := by decide +kernel
theorem dX8_isInRange_15 : decode cX8_isInRange 15 = .ok (.goto 4, 3) := by decide +kernel
theorem dX8_isInRange_18 : decode cX8_isInRange 18 = .ok (.iconst 0, 1) := by decide +kernel
theorem dX8_isInRange_19 : decode cX8_isInRange 19 = .ok (.ireturn, 1) := by decide +kernel
set_option maxRecDepth 20000 in
theorem ggX8_knownPrimes_X3_init : GoodIn wsX8_knownPrimes wsX3_init := goodIn_r _ [7, 8, 9, 10, 11, 12, 13, 14, 15, 16, 17, 18, 19, 20, 21, 22, 23, 24, 25, 26, 27, 4, 28, 29, 30, 31, 32, 33, 34, 35, 36, 37, 38, 39, 40, 41, 42, 43, 50, 51, 52] (by decide +kernel) (by decide +kernel)
set_option maxRecDepth 20000 in
theorem gX8_knownPrimes_X3_init : GoodIn wsX8_knownPrimes (wsX3_init) := ggX8_knownPrimes_X3_init
theorem dX8_knownPrimes_0 : decode cX8_knownPrimes 0 = .ok (.aload_n 0, 1) := by decide +kernel
theorem dX8_knownPrimes_1 : decode cX8_knownPrimes 1 = .ok (.getfield 193, 3) := by decide +kernel
theorem dX8_knownPrimes_4 : decode cX8_knownPrimes 4 = .ok (.ifnonnull 14, 3) := by decide +kernel
theorem dX8_knownPrimes_7 : decode cX8_knownPrimes 7 = .ok (.aload_n 0, 1) := by decide +kernel
theorem dX8_knownPrimes_8 : decode cX8_knownPrimes 8 = .ok (.new 58, 3) := by decide +kernel
theorem dX8_knownPrimes_11 : decode cX8_knownPrimes 11 = .ok (.dup, 1) := by decide +kernel
theorem dX8_knownPrimes_12 : decode cX8_knownPrimes 12 = .ok (.invokespecial 197, 3) := by decide +kernel
theorem dX8_knownPrimes_15 : decode cX8_knownPrimes 15 = .ok (.putfield 193, 3) := by decide +kernel
theorem dX8_knownPrimes_18 : decode cX8_knownPrimes 18 = .ok (.aload_n 0, 1) := by decide +kernel
theorem dX8_knownPrimes_19 : decode cX8_knownPrimes 19 = .ok (.getfield 193, 3) := by decide +kernel
theorem dX8_knownPrimes_22 : decode cX8_knownPrimes 22 = .ok (.areturn, 1) := by decide +kernel
set_option maxRecDepth 20000 in
theorem ggX8_knownSums_X2_init : GoodIn wsX8_knownSums wsX2_init := goodIn_r _ [7, 8, 9, 10, 11, 12, 13, 20, 21] (by decide +kernel) (by decide +kernel)
set_option maxRecDepth 20000 in
theorem gX8_knownSums_X2_init : GoodIn wsX8_knownSums (wsX2_init) := ggX8_knownSums_X2_init
theorem dX8_knownSums_0 : decode cX8_knownSums 0 = .ok (.aload_n 0, 1) := by decide +kernel
theorem dX8_knownSums_1 : decode cX8_knownSums 1 = .ok (.getfield 198, 3) := by decide +kernel
theorem dX8_knownSums_4 : decode cX8_knownSums 4 = .ok (.ifnonnull 14, 3) := by decide +kernel
theorem dX8_knownSums_7 : decode cX8_knownSums 7 = .ok (.aload_n 0, 1) := by decide +kernel
theorem dX8_knownSums_8 : decode cX8_knownSums 8 = .ok (.new 120, 3) := by decide +kernel
theorem dX8_knownSums_11 : decode cX8_knownSums 11 = .ok (.dup, 1) := by decide +kernel
theorem dX8_knownSums_12 : decode cX8_knownSums 12 = .ok (.invokespecial 202, 3) := by decide +kernel
theorem dX8_knownSums_15 : decode cX8_knownSums 15 = .ok (.putfield 198, 3) := by decide +kernel
theorem dX8_knownSums_18 : decode cX8_knownSums 18 = .ok (.aload_n 0, 1) := by decide +kernel
theorem dX8_knownSums_19 : decode cX8_knownSums 19 = .ok (.getfield 198, 3) := by decide +kernel
theorem dX8_knownSums_22 : decode cX8_knownSums 22 = .ok (.areturn, 1) := by decide +kernel
theorem dX8_hasRow_0 : decode cX8_hasRow 0 = .ok (.aload_n 0, 1) := by decide +kernel
theorem dX8_hasRow_1 : decode cX8_hasRow 1 = .ok (.getfield 147, 3) := by decide +kernel
theorem dX8_hasRow_4 : decode cX8_hasRow 4 = .ok (.ifnull 22, 3) := by decide +kernel
theorem dX8_hasRow_7 : decode cX8_hasRow 7 = .ok (.iload_n 1, 1) := by decide +kernel
theorem dX8_hasRow_8 : decode cX8_hasRow 8 = .ok (.ifCond .lt 18, 3) := by decide +kernel
theorem dX8_hasRow_11 : decode cX8_hasRow 11 = .ok (.iload_n 1, 1) := by decide +kernel
theorem dX8_hasRow_12 : decode cX8_hasRow 12 = .ok (.aload_n 0, 1) := by decide +kernel
theorem dX8_hasRow_13 : decode cX8_hasRow 13 = .ok (.getfield 147, 3) := by decide +kernel
theorem dX8_hasRow_16 : decode cX8_hasRow 16 = .ok (.getfield 175, 3) := by decide +kernel
theorem dX8_hasRow_19 : decode cX8_hasRow 19 = .ok (.if_icmp .ge 7, 3) := by decide +kernel
theorem dX8_hasRow_22 : decode cX8_hasRow 22 = .ok (.iconst 1, 1) := by decide +kernel
theorem dX8_hasRow_23 : decode cX8_hasRow 23 = .ok (.goto 4, 3) := by decide +kernel
theorem dX8_hasRow_26 : decode cX8_hasRow 26 = .ok (.iconst 0, 1) := by decide +kernel
theorem dX8_hasRow_27 : decode cX8_hasRow 27 = .ok (.ireturn, 1) := by decide +kernel
set_option maxRecDepth 20000 in
theorem ggX8_newRow_X5_init : GoodIn wsX8_newRow wsX5_init := goodIn_r _ [7, 8, 9, 10, 11, 12, 13, 31, 32] (by decide +kernel) (by decide +kernel)
set_option maxRecDepth 20000 in
theorem gX8_newRow_X5_init : GoodIn wsX8_newRow (wsX5_init) := ggX8_newRow_X5_init
set_option maxRecDepth 20000 in
theorem ggX8_newRow_X5_addZeros : GoodIn wsX8_newRow wsX5_addZeros := goodIn_r _ [17, 13, 18, 19, 20, 4, 21, 12, 22, 23, 24, 31, 32] (by decide +kernel) (by decide +kernel)
set_option maxRecDepth 20000 in
theorem gX8_newRow_X5_addZeros : GoodIn wsX8_newRow (wsV RX8 204 RX5 yX5_addZeros wsX5_addZeros) := goodIn_app (goodIn_of _ (by decide +kernel)) ggX8_newRow_X5_addZeros
theorem dX8_newRow_0 : decode cX8_newRow 0 = .ok (.aload_n 0, 1) := by decide +kernel
theorem dX8_newRow_1 : decode cX8_newRow 1 = .ok (.getfield 147, 3) := by decide +kernel
theorem dX8_newRow_4 : decode cX8_newRow 4 = .ok (.ifnonnull 14, 3) := by decide +kernel
theorem dX8_newRow_7 : decode cX8_newRow 7 = .ok (.aload_n 0, 1) := by decide +kernel
theorem dX8_newRow_8 : decode cX8_newRow 8 = .ok (.new 152, 3) := by decide +kernel
theorem dX8_newRow_11 : decode cX8_newRow 11 = .ok (.dup, 1) := by decide +kernel
theorem dX8_newRow_12 : decode cX8_newRow 12 = .ok (.invokespecial 203, 3) := by decide +kernel
theorem dX8_newRow_15 : decode cX8_newRow 15 = .ok (.putfield 147, 3) := by decide +kernel
theorem dX8_newRow_18 : decode cX8_newRow 18 = .ok (.aload_n 0, 1) := by decide +kernel
theorem dX8_newRow_19 : decode cX8_newRow 19 = .ok (.getfield 147, 3) := by decide +kernel
theorem dX8_newRow_22 : decode cX8_newRow 22 = .ok (.invokevirtual 204, 3) := by decide +kernel
theorem dX8_newRow_25 : decode cX8_newRow 25 = .ok (.ireturn, 1) := by decide +kernel
set_option maxRecDepth 20000 in
theorem ggX8_oddPrimesLeaving_X8_knownSums : GoodIn wsX8_oddPrimesLeaving wsX8_knownSums := goodIn_r _ [13, 14, 15, 16, 17, 18, 19, 20, 21, 22, 23, 24, 25, 26, 140, 141, 142, 143, 144, 145, 147, 148] (by decide +kernel) (by decide +kernel)
set_option maxRecDepth 20000 in
theorem gX8_oddPrimesLeaving_X8_knownSums : GoodIn wsX8_oddPrimesLeaving (wsV RX8 115 RX8 yX8_knownSums wsX8_knownSums) := goodIn_app (goodIn_of _ (by decide +kernel)) ggX8_oddPrimesLeaving_X8_knownSums
set_option maxRecDepth 20000 in
theorem ggX8_oddPrimesLeaving_X2_total : GoodIn wsX8_oddPrimesLeaving wsX2_total := goodIn_r _ [30, 31, 32, 33, 3, 34, 25, 26, 35, 36, 37, 38, 39, 40, 17, 41, 42, 43, 44, 45, 46, 47, 48, 49, 50, 51, 52, 53, 147, 148] (by decide +kernel) (by decide +kernel)
set_option maxRecDepth 20000 in
theorem gX8_oddPrimesLeaving_X2_total : GoodIn wsX8_oddPrimesLeaving (wsV RX8 119 RX2 yX2_total wsX2_total) := goodIn_app (goodIn_of _ (by decide +kernel)) ggX8_oddPrimesLeaving_X2_total
set_option maxRecDepth 20000 in
theorem ggX8_oddPrimesLeaving_X4_init : GoodIn wsX8_oddPrimesLeaving wsX4_init := goodIn_r _ [56, 57, 22, 23, 58, 59, 60, 61, 62, 63, 64, 65, 66, 24, 67, 149, 146] (by decide +kernel) (by decide +kernel)
set_option maxRecDepth 20000 in
theorem gX8_oddPrimesLeaving_X4_init : GoodIn wsX8_oddPrimesLeaving (wsX4_init) := ggX8_oddPrimesLeaving_X4_init
set_option maxRecDepth 20000 in
theorem ggX8_oddPrimesLeaving_X8_knownPrimes : GoodIn wsX8_oddPrimesLeaving wsX8_knownPrimes := goodIn_r _ [71, 72, 73, 74, 75, 76, 77, 78, 79, 22, 23, 80, 81, 82, 83, 59, 60, 84, 85, 86, 64, 65, 66, 24, 67, 87, 88, 89, 90, 91, 92, 93, 94, 95, 96, 97, 98, 99, 100, 101, 102, 48, 3, 49, 140, 141, 142, 143, 144, 145, 150, 151, 149] (by decide +kernel) (by decide +kernel)
set_option maxRecDepth 20000 in
theorem gX8_oddPrimesLeaving_X8_knownPrimes : GoodIn wsX8_oddPrimesLeaving (wsV RX8 18 RX8 yX8_knownPrimes wsX8_knownPrimes) := goodIn_app (goodIn_of _ (by decide +kernel)) ggX8_oddPrimesLeaving_X8_knownPrimes
set_option maxRecDepth 20000 in
theorem ggX8_oddPrimesLeaving_X4_primesOf : GoodIn wsX8_oddPrimesLeaving wsX4_primesOf := goodIn_r _ [106, 61, 107, 48, 3, 49, 62, 108, 109, 110, 60, 111, 67, 112, 113, 114, 115, 116, 117, 118, 119, 120, 121, 122, 75, 123, 82, 81, 124, 125, 126, 8, 127, 128, 99, 100, 101, 102, 129, 130, 131, 132, 133, 134, 135, 136, 137, 138, 139, 146, 150, 151, 149] (by decide +kernel) (by decide +kernel)
set_option maxRecDepth 20000 in
theorem gX8_oddPrimesLeaving_X4_primesOf : GoodIn wsX8_oddPrimesLeaving (wsV RX8 219 RX4 yX4_primesOf wsX4_primesOf) := goodIn_app (goodIn_of _ (by decide +kernel)) ggX8_oddPrimesLeaving_X4_primesOf
theorem dX8_oddPrimesLeaving_0 : decode cX8_oddPrimesLeaving 0 = .ok (.iload_n 2, 1) := by decide +kernel
theorem dX8_oddPrimesLeaving_1 : decode cX8_oddPrimesLeaving 1 = .ok (.iconst 2, 1) := by decide +kernel
theorem dX8_oddPrimesLeaving_2 : decode cX8_oddPrimesLeaving 2 = .ok (.irem, 1) := by decide +kernel
theorem dX8_oddPrimesLeaving_3 : decode cX8_oddPrimesLeaving 3 = .ok (.ifCond .ne 7, 3) := by decide +kernel
theorem dX8_oddPrimesLeaving_6 : decode cX8_oddPrimesLeaving 6 = .ok (.iload_n 2, 1) := by decide +kernel
theorem dX8_oddPrimesLeaving_7 : decode cX8_oddPrimesLeaving 7 = .ok (.goto 6, 3) := by decide +kernel
theorem dX8_oddPrimesLeaving_10 : decode cX8_oddPrimesLeaving 10 = .ok (.iconst 2, 1) := by decide +kernel
theorem dX8_oddPrimesLeaving_11 : decode cX8_oddPrimesLeaving 11 = .ok (.iload_n 2, 1) := by decide +kernel
theorem dX8_oddPrimesLeaving_12 : decode cX8_oddPrimesLeaving 12 = .ok (.imul, 1) := by decide +kernel
theorem dX8_oddPrimesLeaving_13 : decode cX8_oddPrimesLeaving 13 = .ok (.istore 4, 2) := by decide +kernel
theorem dX8_oddPrimesLeaving_15 : decode cX8_oddPrimesLeaving 15 = .ok (.iload_n 3, 1) := by decide +kernel
theorem dX8_oddPrimesLeaving_16 : decode cX8_oddPrimesLeaving 16 = .ok (.iconst 2, 1) := by decide +kernel
theorem dX8_oddPrimesLeaving_17 : decode cX8_oddPrimesLeaving 17 = .ok (.irem, 1) := by decide +kernel
theorem dX8_oddPrimesLeaving_18 : decode cX8_oddPrimesLeaving 18 = .ok (.iconst 1, 1) := by decide +kernel
theorem dX8_oddPrimesLeaving_19 : decode cX8_oddPrimesLeaving 19 = .ok (.if_icmp .ne 7, 3) := by decide +kernel
theorem dX8_oddPrimesLeaving_22 : decode cX8_oddPrimesLeaving 22 = .ok (.iload_n 3, 1) := by decide +kernel
theorem dX8_oddPrimesLeaving_23 : decode cX8_oddPrimesLeaving 23 = .ok (.goto 6, 3) := by decide +kernel
theorem dX8_oddPrimesLeaving_26 : decode cX8_oddPrimesLeaving 26 = .ok (.iload_n 3, 1) := by decide +kernel
theorem dX8_oddPrimesLeaving_27 : decode cX8_oddPrimesLeaving 27 = .ok (.iload_n 2, 1) := by decide +kernel
theorem dX8_oddPrimesLeaving_28 : decode cX8_oddPrimesLeaving 28 = .ok (.iadd, 1) := by decide +kernel
theorem dX8_oddPrimesLeaving_29 : decode cX8_oddPrimesLeaving 29 = .ok (.istore 5, 2) := by decide +kernel
theorem dX8_oddPrimesLeaving_31 : decode cX8_oddPrimesLeaving 31 = .ok (.iload 4, 2) := by decide +kernel
theorem dX8_oddPrimesLeaving_33 : decode cX8_oddPrimesLeaving 33 = .ok (.iconst 2, 1) := by decide +kernel
theorem dX8_oddPrimesLeaving_34 : decode cX8_oddPrimesLeaving 34 = .ok (.if_icmp .ne 20, 3) := by decide +kernel
theorem dX8_oddPrimesLeaving_37 : decode cX8_oddPrimesLeaving 37 = .ok (.iconst 0, 1) := by decide +kernel
theorem dX8_oddPrimesLeaving_38 : decode cX8_oddPrimesLeaving 38 = .ok (.aload_n 0, 1) := by decide +kernel
theorem dX8_oddPrimesLeaving_39 : decode cX8_oddPrimesLeaving 39 = .ok (.invokevirtual 115, 3) := by decide +kernel
theorem dX8_oddPrimesLeaving_42 : decode cX8_oddPrimesLeaving 42 = .ok (.iload_n 1, 1) := by decide +kernel
theorem dX8_oddPrimesLeaving_43 : decode cX8_oddPrimesLeaving 43 = .ok (.iconst 0, 1) := by decide +kernel
theorem dX8_oddPrimesLeaving_44 : decode cX8_oddPrimesLeaving 44 = .ok (.invokevirtual 119, 3) := by decide +kernel
theorem dX8_oddPrimesLeaving_47 : decode cX8_oddPrimesLeaving 47 = .ok (.l2i, 1) := by decide +kernel
theorem dX8_oddPrimesLeaving_48 : decode cX8_oddPrimesLeaving 48 = .ok (.iconst 1, 1) := by decide +kernel
theorem dX8_oddPrimesLeaving_49 : decode cX8_oddPrimesLeaving 49 = .ok (.isub, 1) := by decide +kernel
theorem dX8_oddPrimesLeaving_50 : decode cX8_oddPrimesLeaving 50 = .ok (.invokestatic 207, 3) := by decide +kernel
theorem dX8_oddPrimesLeaving_53 : decode cX8_oddPrimesLeaving 53 = .ok (.ireturn, 1) := by decide +kernel
theorem dX8_oddPrimesLeaving_54 : decode cX8_oddPrimesLeaving 54 = .ok (.aload_n 0, 1) := by decide +kernel
theorem dX8_oddPrimesLeaving_55 : decode cX8_oddPrimesLeaving 55 = .ok (.getfield 212, 3) := by decide +kernel
theorem dX8_oddPrimesLeaving_58 : decode cX8_oddPrimesLeaving 58 = .ok (.ifnonnull 14, 3) := by decide +kernel
theorem dX8_oddPrimesLeaving_61 : decode cX8_oddPrimesLeaving 61 = .ok (.aload_n 0, 1) := by decide +kernel
theorem dX8_oddPrimesLeaving_62 : decode cX8_oddPrimesLeaving 62 = .ok (.new 216, 3) := by decide +kernel
theorem dX8_oddPrimesLeaving_65 : decode cX8_oddPrimesLeaving 65 = .ok (.dup, 1) := by decide +kernel
theorem dX8_oddPrimesLeaving_66 : decode cX8_oddPrimesLeaving 66 = .ok (.invokespecial 218, 3) := by decide +kernel
theorem dX8_oddPrimesLeaving_69 : decode cX8_oddPrimesLeaving 69 = .ok (.putfield 212, 3) := by decide +kernel
theorem dX8_oddPrimesLeaving_72 : decode cX8_oddPrimesLeaving 72 = .ok (.aload_n 0, 1) := by decide +kernel
theorem dX8_oddPrimesLeaving_73 : decode cX8_oddPrimesLeaving 73 = .ok (.getfield 212, 3) := by decide +kernel
theorem dX8_oddPrimesLeaving_76 : decode cX8_oddPrimesLeaving 76 = .ok (.iload 5, 2) := by decide +kernel
theorem dX8_oddPrimesLeaving_78 : decode cX8_oddPrimesLeaving 78 = .ok (.iload 4, 2) := by decide +kernel
theorem dX8_oddPrimesLeaving_80 : decode cX8_oddPrimesLeaving 80 = .ok (.iload_n 1, 1) := by decide +kernel
theorem dX8_oddPrimesLeaving_81 : decode cX8_oddPrimesLeaving 81 = .ok (.aload_n 0, 1) := by decide +kernel
theorem dX8_oddPrimesLeaving_82 : decode cX8_oddPrimesLeaving 82 = .ok (.invokevirtual 18, 3) := by decide +kernel
theorem dX8_oddPrimesLeaving_85 : decode cX8_oddPrimesLeaving 85 = .ok (.invokevirtual 219, 3) := by decide +kernel
theorem dX8_oddPrimesLeaving_88 : decode cX8_oddPrimesLeaving 88 = .ok (.ireturn, 1) := by decide +kernel
set_option maxRecDepth 20000 in
theorem ggX9_span_X9_in : GoodIn wsX9_span wsX9_in := goodIn_r _ [15] (by decide +kernel) (by decide +kernel)
set_option maxRecDepth 20000 in
theorem gX9_span_X9_in : GoodIn wsX9_span (va_wsS RX9 61 yX9_in wsX9_in) := goodIn_app (goodIn_of _ (by decide +kernel)) ggX9_span_X9_in
set_option maxRecDepth 20000 in
theorem ggX9_span_X9_parts : GoodIn wsX9_span wsX9_parts := goodIn_r _ [19, 7, 9, 11, 20, 21, 22, 23, 24, 33, 34, 35, 36, 37, 38, 39, 40, 41, 42, 43, 44, 45, 46, 47, 48, 49, 50, 51] (by decide +kernel) (by decide +kernel)
set_option maxRecDepth 20000 in
theorem gX9_span_X9_parts : GoodIn wsX9_span (wsV RX9 76 RX9 yX9_parts wsX9_parts) := goodIn_app (goodIn_of _ (by decide +kernel)) ggX9_span_X9_parts
set_option maxRecDepth 20000 in
theorem ggX9_span_X9_spanned : GoodIn wsX9_span wsX9_spanned := goodIn_r _ [28, 3, 5, 10, 29, 30, 31, 14, 32, 4, 6, 12, 13, 15, 33, 34, 35, 36, 37, 38, 39, 40, 41, 42, 43, 44, 45, 46, 47, 48, 49, 50, 51] (by decide +kernel) (by decide +kernel)
set_option maxRecDepth 20000 in
theorem gX9_span_X9_spanned : GoodIn wsX9_span (wsV RX9 80 RX9 yX9_spanned wsX9_spanned) := goodIn_app (goodIn_of _ (by decide +kernel)) ggX9_span_X9_spanned
set_option maxRecDepth 20000 in
theorem ggX9_least_X9_in : GoodIn wsX9_least wsX9_in := goodIn_r _ [7] (by decide +kernel) (by decide +kernel)
set_option maxRecDepth 20000 in
theorem gX9_least_X9_in : GoodIn wsX9_least (va_wsS RX9 61 yX9_in wsX9_in) := goodIn_app (goodIn_of _ (by decide +kernel)) ggX9_least_X9_in
set_option maxRecDepth 20000 in
theorem ggX9_isPrimeAt_X9_in : GoodIn wsX9_isPrimeAt wsX9_in := goodIn_r _ [7] (by decide +kernel) (by decide +kernel)
set_option maxRecDepth 20000 in
theorem gX9_isPrimeAt_X9_in : GoodIn wsX9_isPrimeAt (va_wsS RX9 61 yX9_in wsX9_in) := goodIn_app (goodIn_of _ (by decide +kernel)) ggX9_isPrimeAt_X9_in
set_option maxRecDepth 20000 in
theorem ggX9_spanned_X9_isPrimeAt : GoodIn wsX9_spanned wsX9_isPrimeAt := goodIn_r _ [8, 2, 9, 10, 11, 12, 7, 13, 14, 15, 16, 17, 18, 19, 20, 21, 22, 23, 24, 25, 26, 27, 28, 29, 30, 31, 32] (by decide +kernel) (by decide +kernel)
set_option maxRecDepth 20000 in
theorem gX9_spanned_X9_isPrimeAt : GoodIn wsX9_spanned (wsV RX9 84 RX9 yX9_isPrimeAt wsX9_isPrimeAt) := goodIn_app (goodIn_of _ (by decide +kernel)) ggX9_spanned_X9_isPrimeAt
set_option maxRecDepth 20000 in
theorem ggX9_smooth_X9_in : GoodIn wsX9_smooth wsX9_in := goodIn_r _ [10] (by decide +kernel) (by decide +kernel)
set_option maxRecDepth 20000 in
theorem gX9_smooth_X9_in : GoodIn wsX9_smooth (va_wsS RX9 61 yX9_in wsX9_in) := goodIn_app (goodIn_of _ (by decide +kernel)) ggX9_smooth_X9_in
set_option maxRecDepth 20000 in
theorem ggX9_prime_X9_in : GoodIn wsX9_prime wsX9_in := goodIn_r _ [5] (by decide +kernel) (by decide +kernel)
set_option maxRecDepth 20000 in
theorem gX9_prime_X9_in : GoodIn wsX9_prime (va_wsS RX9 61 yX9_in wsX9_in) := goodIn_app (goodIn_of _ (by decide +kernel)) ggX9_prime_X9_in
set_option maxRecDepth 20000 in
theorem ggX9_prime_X9_isPrime : GoodIn wsX9_prime wsX9_isPrime := goodIn_r _ [9, 10, 11, 12, 13, 14, 15, 16, 17, 18, 19, 20, 21, 22, 23, 24, 25, 26, 27, 28, 29, 30, 31] (by decide +kernel) (by decide +kernel)
set_option maxRecDepth 20000 in
theorem gX9_prime_X9_isPrime : GoodIn wsX9_prime (wsV RX9 88 RX9 yX9_isPrime wsX9_isPrime) := goodIn_app (goodIn_of _ (by decide +kernel)) ggX9_prime_X9_isPrime
set_option maxRecDepth 20000 in
theorem ggX9_next_X9_in : GoodIn wsX9_next wsX9_in := goodIn_r _ [6] (by decide +kernel) (by decide +kernel)
set_option maxRecDepth 20000 in
theorem gX9_next_X9_in : GoodIn wsX9_next (va_wsS RX9 61 yX9_in wsX9_in) := goodIn_app (goodIn_of _ (by decide +kernel)) ggX9_next_X9_in
set_option maxRecDepth 20000 in
theorem ggX9_next_X9_isPrime : GoodIn wsX9_next wsX9_isPrime := goodIn_r _ [10, 11, 12, 13, 14, 15, 16, 17, 18, 19, 20, 21, 22, 23, 24, 25, 26, 27, 28, 29, 30, 31, 32] (by decide +kernel) (by decide +kernel)
set_option maxRecDepth 20000 in
theorem gX9_next_X9_isPrime : GoodIn wsX9_next (wsV RX9 88 RX9 yX9_isPrime wsX9_isPrime) := goodIn_app (goodIn_of _ (by decide +kernel)) ggX9_next_X9_isPrime
set_option maxRecDepth 20000 in
theorem ggX9_part_X9_in : GoodIn wsX9_part wsX9_in := goodIn_r _ [8] (by decide +kernel) (by decide +kernel)
set_option maxRecDepth 20000 in
theorem gX9_part_X9_in : GoodIn wsX9_part (va_wsS RX9 61 yX9_in wsX9_in) := goodIn_app (goodIn_of _ (by decide +kernel)) ggX9_part_X9_in
set_option maxRecDepth 20000 in
theorem ggX9_part_X9_parts : GoodIn wsX9_part wsX9_parts := goodIn_r _ [12, 13, 14, 15, 16, 17, 18, 19, 4, 20, 21, 22, 23, 24, 25, 26, 27, 28, 29, 30, 31, 32, 33, 34, 35, 36, 37, 38] (by decide +kernel) (by decide +kernel)
set_option maxRecDepth 20000 in
theorem gX9_part_X9_parts : GoodIn wsX9_part (wsV RX9 76 RX9 yX9_parts wsX9_parts) := goodIn_app (goodIn_of _ (by decide +kernel)) ggX9_part_X9_parts
set_option maxRecDepth 20000 in
theorem ggX9_parts__X9_in : GoodIn wsX9_parts_ wsX9_in := goodIn_r _ [8] (by decide +kernel) (by decide +kernel)
set_option maxRecDepth 20000 in
theorem gX9_parts__X9_in : GoodIn wsX9_parts_ (va_wsS RX9 61 yX9_in wsX9_in) := goodIn_app (goodIn_of _ (by decide +kernel)) ggX9_parts__X9_in
set_option maxRecDepth 20000 in
theorem ggX9_without_X9_in : GoodIn wsX9_without wsX9_in := goodIn_r _ [9] (by decide +kernel) (by decide +kernel)
set_option maxRecDepth 20000 in
theorem gX9_without_X9_in : GoodIn wsX9_without (va_wsS RX9 61 yX9_in wsX9_in) := goodIn_app (goodIn_of _ (by decide +kernel)) ggX9_without_X9_in
set_option maxRecDepth 20000 in
theorem ggX9_count_X9_in : GoodIn wsX9_count wsX9_in := goodIn_r _ [6] (by decide +kernel) (by decide +kernel)
set_option maxRecDepth 20000 in
theorem gX9_count_X9_in : GoodIn wsX9_count (va_wsS RX9 61 yX9_in wsX9_in) := goodIn_app (goodIn_of _ (by decide +kernel)) ggX9_count_X9_in
set_option maxRecDepth 20000 in
theorem ggX9_sum_X9_in : GoodIn wsX9_sum wsX9_in := goodIn_r _ [7] (by decide +kernel) (by decide +kernel)
set_option maxRecDepth 20000 in
theorem gX9_sum_X9_in : GoodIn wsX9_sum (va_wsS RX9 61 yX9_in wsX9_in) := goodIn_app (goodIn_of _ (by decide +kernel)) ggX9_sum_X9_in
set_option maxRecDepth 20000 in
theorem ggX9_among_X9_in : GoodIn wsX9_among wsX9_in := goodIn_r _ [7] (by decide +kernel) (by decide +kernel)
set_option maxRecDepth 20000 in
theorem gX9_among_X9_in : GoodIn wsX9_among (va_wsS RX9 61 yX9_in wsX9_in) := goodIn_app (goodIn_of _ (by decide +kernel)) ggX9_among_X9_in
set_option maxRecDepth 20000 in
theorem ggX9_floors_X9_in : GoodIn wsX9_floors wsX9_in := goodIn_r _ [7] (by decide +kernel) (by decide +kernel)
set_option maxRecDepth 20000 in
theorem gX9_floors_X9_in : GoodIn wsX9_floors (va_wsS RX9 61 yX9_in wsX9_in) := goodIn_app (goodIn_of _ (by decide +kernel)) ggX9_floors_X9_in
set_option maxRecDepth 20000 in
theorem ggX9_floors_X9_pairs : GoodIn wsX9_floors wsX9_pairs := goodIn_r _ [10, 11] (by decide +kernel) (by decide +kernel)
set_option maxRecDepth 20000 in
theorem gX9_floors_X9_pairs : GoodIn wsX9_floors (va_wsS RX9 108 yX9_pairs wsX9_pairs) := goodIn_app (goodIn_of _ (by decide +kernel)) ggX9_floors_X9_pairs
set_option maxRecDepth 20000 in
theorem ggX9_points_X9_in : GoodIn wsX9_points wsX9_in := goodIn_r _ [7] (by decide +kernel) (by decide +kernel)
set_option maxRecDepth 20000 in
theorem gX9_points_X9_in : GoodIn wsX9_points (va_wsS RX9 61 yX9_in wsX9_in) := goodIn_app (goodIn_of _ (by decide +kernel)) ggX9_points_X9_in
set_option maxRecDepth 20000 in
theorem ggX9_isRow_X9_in : GoodIn wsX9_isRow wsX9_in := goodIn_r _ [5] (by decide +kernel) (by decide +kernel)
set_option maxRecDepth 20000 in
theorem gX9_isRow_X9_in : GoodIn wsX9_isRow (va_wsS RX9 61 yX9_in wsX9_in) := goodIn_app (goodIn_of _ (by decide +kernel)) ggX9_isRow_X9_in
set_option maxRecDepth 20000 in
theorem ggX9_atPower_X9_powered : GoodIn wsX9_atPower wsX9_powered := goodIn_r _ [5] (by decide +kernel) (by decide +kernel)
set_option maxRecDepth 20000 in
theorem gX9_atPower_X9_powered : GoodIn wsX9_atPower (va_wsS RX9 115 yX9_powered wsX9_powered) := goodIn_app (goodIn_of _ (by decide +kernel)) ggX9_atPower_X9_powered
set_option maxRecDepth 20000 in
theorem ggX9_byRule_X9_atPower : GoodIn wsX9_byRule wsX9_atPower := goodIn_r _ [4, 5, 6, 7, 3, 8] (by decide +kernel) (by decide +kernel)
set_option maxRecDepth 20000 in
theorem gX9_byRule_X9_atPower : GoodIn wsX9_byRule (va_wsS RX9 119 yX9_atPower wsX9_atPower) := goodIn_app (goodIn_of _ (by decide +kernel)) ggX9_byRule_X9_atPower
set_option maxRecDepth 20000 in
theorem ggX9_rule_X9_in : GoodIn wsX9_rule wsX9_in := goodIn_r _ [7] (by decide +kernel) (by decide +kernel)
set_option maxRecDepth 20000 in
theorem gX9_rule_X9_in : GoodIn wsX9_rule (va_wsS RX9 61 yX9_in wsX9_in) := goodIn_app (goodIn_of _ (by decide +kernel)) ggX9_rule_X9_in
set_option maxRecDepth 20000 in
theorem ggX9_rule_X9_byRule : GoodIn wsX9_rule wsX9_byRule := goodIn_r _ [10, 11, 12, 6, 13, 14, 15, 16, 17] (by decide +kernel) (by decide +kernel)
set_option maxRecDepth 20000 in
theorem gX9_rule_X9_byRule : GoodIn wsX9_rule (va_wsS RX9 125 yX9_byRule wsX9_byRule) := goodIn_app (goodIn_of _ (by decide +kernel)) ggX9_rule_X9_byRule
set_option maxRecDepth 20000 in
theorem ggX9_tell_X9_isRow : GoodIn wsX9_tell wsX9_isRow := goodIn_r _ [7, 8, 9, 10, 6, 11, 12, 13, 14, 15, 16, 17, 18, 19, 20, 21, 22, 23, 24, 25, 26, 27, 28, 29, 30] (by decide +kernel) (by decide +kernel)
set_option maxRecDepth 20000 in
theorem gX9_tell_X9_isRow : GoodIn wsX9_tell (wsV RX9 129 RX9 yX9_isRow wsX9_isRow) := goodIn_app (goodIn_of _ (by decide +kernel)) ggX9_tell_X9_isRow
set_option maxRecDepth 20000 in
theorem ggX9_tell_X9_in : GoodIn wsX9_tell wsX9_in := goodIn_r _ [11] (by decide +kernel) (by decide +kernel)
set_option maxRecDepth 20000 in
theorem gX9_tell_X9_in : GoodIn wsX9_tell (va_wsS RX9 61 yX9_in wsX9_in) := goodIn_app (goodIn_of _ (by decide +kernel)) ggX9_tell_X9_in
set_option maxRecDepth 20000 in
theorem ggX9_product_X9_isRow : GoodIn wsX9_product wsX9_isRow := goodIn_r _ [7, 1, 8, 9, 6, 10, 11, 12, 13, 14, 15, 16, 17, 18, 19, 20, 21, 22, 23, 24, 25, 26, 27, 28, 29] (by decide +kernel) (by decide +kernel)
set_option maxRecDepth 20000 in
theorem gX9_product_X9_isRow : GoodIn wsX9_product (wsV RX9 129 RX9 yX9_isRow wsX9_isRow) := goodIn_app (goodIn_of _ (by decide +kernel)) ggX9_product_X9_isRow
set_option maxRecDepth 20000 in
theorem ggX9_turned_X9_isRow : GoodIn wsX9_turned wsX9_isRow := goodIn_r _ [8, 3, 9, 10, 7, 11, 12, 13, 14, 15, 16, 17, 18, 19, 20, 21, 22, 23, 24, 25, 26, 27, 28, 29, 30] (by decide +kernel) (by decide +kernel)
set_option maxRecDepth 20000 in
theorem gX9_turned_X9_isRow : GoodIn wsX9_turned (wsV RX9 129 RX9 yX9_isRow wsX9_isRow) := goodIn_app (goodIn_of _ (by decide +kernel)) ggX9_turned_X9_isRow
set_option maxRecDepth 20000 in
theorem ggX9_at_X9_isRow : GoodIn wsX9_at wsX9_isRow := goodIn_r _ [7, 8, 9, 10, 6, 11, 12, 13, 14, 15, 16, 17, 18, 19, 20, 21, 22, 23, 24, 25, 26, 27, 28, 29, 30] (by decide +kernel) (by decide +kernel)
set_option maxRecDepth 20000 in
theorem gX9_at_X9_isRow : GoodIn wsX9_at (wsV RX9 129 RX9 yX9_isRow wsX9_isRow) := goodIn_app (goodIn_of _ (by decide +kernel)) ggX9_at_X9_isRow
set_option maxRecDepth 20000 in
theorem ggX9_at_X9_in : GoodIn wsX9_at wsX9_in := goodIn_r _ [11] (by decide +kernel) (by decide +kernel)
set_option maxRecDepth 20000 in
theorem gX9_at_X9_in : GoodIn wsX9_at (va_wsS RX9 61 yX9_in wsX9_in) := goodIn_app (goodIn_of _ (by decide +kernel)) ggX9_at_X9_in
set_option maxRecDepth 20000 in
theorem ggX9_sumOf_X9_isRow : GoodIn wsX9_sumOf wsX9_isRow := goodIn_r _ [7, 8, 9, 10, 6, 11, 12, 13, 14, 15, 16, 17, 18, 19, 20, 21, 22, 23, 24, 25, 26, 27, 28, 29, 30] (by decide +kernel) (by decide +kernel)
set_option maxRecDepth 20000 in
theorem gX9_sumOf_X9_isRow : GoodIn wsX9_sumOf (wsV RX9 129 RX9 yX9_isRow wsX9_isRow) := goodIn_app (goodIn_of _ (by decide +kernel)) ggX9_sumOf_X9_isRow
set_option maxRecDepth 20000 in
theorem ggX9_sumOf_X9_in : GoodIn wsX9_sumOf wsX9_in := goodIn_r _ [11] (by decide +kernel) (by decide +kernel)
set_option maxRecDepth 20000 in
theorem gX9_sumOf_X9_in : GoodIn wsX9_sumOf (va_wsS RX9 61 yX9_in wsX9_in) := goodIn_app (goodIn_of _ (by decide +kernel)) ggX9_sumOf_X9_in
set_option maxRecDepth 20000 in
theorem ggX9_same_X9_isRow : GoodIn wsX9_same wsX9_isRow := goodIn_r _ [6, 7, 8, 9, 5, 10, 11, 12, 13, 14, 15, 16, 17, 18, 19, 20, 21, 22, 23, 24, 25, 26, 27, 28, 29] (by decide +kernel) (by decide +kernel)
set_option maxRecDepth 20000 in
theorem gX9_same_X9_isRow : GoodIn wsX9_same (wsV RX9 129 RX9 yX9_isRow wsX9_isRow) := goodIn_app (goodIn_of _ (by decide +kernel)) ggX9_same_X9_isRow
set_option maxRecDepth 20000 in
theorem ggX9_upTo_X9_pairs : GoodIn wsX9_upTo wsX9_pairs := goodIn_r _ [6, 2] (by decide +kernel) (by decide +kernel)
set_option maxRecDepth 20000 in
theorem gX9_upTo_X9_pairs : GoodIn wsX9_upTo (va_wsS RX9 108 yX9_pairs wsX9_pairs) := goodIn_app (goodIn_of _ (by decide +kernel)) ggX9_upTo_X9_pairs
set_option maxRecDepth 20000 in
theorem ggX9_far_X9_isFar : GoodIn wsX9_far wsX9_isFar := goodIn_r _ [5] (by decide +kernel) (by decide +kernel)
set_option maxRecDepth 20000 in
theorem gX9_far_X9_isFar : GoodIn wsX9_far (va_wsS RX9 136 yX9_isFar wsX9_isFar) := goodIn_app (goodIn_of _ (by decide +kernel)) ggX9_far_X9_isFar
set_option maxRecDepth 20000 in
theorem ggX9_far_X9_in : GoodIn wsX9_far wsX9_in := goodIn_r _ [8] (by decide +kernel) (by decide +kernel)
set_option maxRecDepth 20000 in
theorem gX9_far_X9_in : GoodIn wsX9_far (va_wsS RX9 61 yX9_in wsX9_in) := goodIn_app (goodIn_of _ (by decide +kernel)) ggX9_far_X9_in
set_option maxRecDepth 20000 in
theorem ggX9_far_X9_upTo : GoodIn wsX9_far wsX9_upTo := goodIn_r _ [11, 12, 13, 14, 15, 4, 16] (by decide +kernel) (by decide +kernel)
set_option maxRecDepth 20000 in
theorem gX9_far_X9_upTo : GoodIn wsX9_far (va_wsS RX9 139 yX9_upTo wsX9_upTo) := goodIn_app (goodIn_of _ (by decide +kernel)) ggX9_far_X9_upTo
theorem dJ6_bitCount_0f7a4_0 : decode cJ6_bitCount_0f7a4 0 = .ok (.iload_n 0, 1) := by decide +kernel
theorem dJ6_bitCount_0f7a4_1 : decode cJ6_bitCount_0f7a4 1 = .ok (.iload_n 0, 1) := by decide +kernel
theorem dJ6_bitCount_0f7a4_2 : decode cJ6_bitCount_0f7a4 2 = .ok (.iconst 1, 1) := by decide +kernel
theorem dJ6_bitCount_0f7a4_3 : decode cJ6_bitCount_0f7a4 3 = .ok (.iushr, 1) := by decide +kernel
theorem dJ6_bitCount_0f7a4_4 : decode cJ6_bitCount_0f7a4 4 = .ok (.ldc_w 265, 3) := by decide +kernel
theorem dJ6_bitCount_0f7a4_7 : decode cJ6_bitCount_0f7a4 7 = .ok (.iand, 1) := by decide +kernel
theorem dJ6_bitCount_0f7a4_8 : decode cJ6_bitCount_0f7a4 8 = .ok (.isub, 1) := by decide +kernel
theorem dJ6_bitCount_0f7a4_9 : decode cJ6_bitCount_0f7a4 9 = .ok (.istore_n 0, 1) := by decide +kernel
theorem dJ6_bitCount_0f7a4_10 : decode cJ6_bitCount_0f7a4 10 = .ok (.iload_n 0, 1) := by decide +kernel
theorem dJ6_bitCount_0f7a4_11 : decode cJ6_bitCount_0f7a4 11 = .ok (.ldc_w 266, 3) := by decide +kernel
theorem dJ6_bitCount_0f7a4_14 : decode cJ6_bitCount_0f7a4 14 = .ok (.iand, 1) := by decide +kernel
theorem dJ6_bitCount_0f7a4_15 : decode cJ6_bitCount_0f7a4 15 = .ok (.iload_n 0, 1) := by decide +kernel
theorem dJ6_bitCount_0f7a4_16 : decode cJ6_bitCount_0f7a4 16 = .ok (.iconst 2, 1) := by decide +kernel
theorem dJ6_bitCount_0f7a4_17 : decode cJ6_bitCount_0f7a4 17 = .ok (.iushr, 1) := by decide +kernel
theorem dJ6_bitCount_0f7a4_18 : decode cJ6_bitCount_0f7a4 18 = .ok (.ldc_w 266, 3) := by decide +kernel
theorem dJ6_bitCount_0f7a4_21 : decode cJ6_bitCount_0f7a4 21 = .ok (.iand, 1) := by decide +kernel
theorem dJ6_bitCount_0f7a4_22 : decode cJ6_bitCount_0f7a4 22 = .ok (.iadd, 1) := by decide +kernel
theorem dJ6_bitCount_0f7a4_23 : decode cJ6_bitCount_0f7a4 23 = .ok (.istore_n 0, 1) := by decide +kernel
theorem dJ6_bitCount_0f7a4_24 : decode cJ6_bitCount_0f7a4 24 = .ok (.iload_n 0, 1) := by decide +kernel
theorem dJ6_bitCount_0f7a4_25 : decode cJ6_bitCount_0f7a4 25 = .ok (.iload_n 0, 1) := by decide +kernel
theorem dJ6_bitCount_0f7a4_26 : decode cJ6_bitCount_0f7a4 26 = .ok (.iconst 4, 1) := by decide +kernel
theorem dJ6_bitCount_0f7a4_27 : decode cJ6_bitCount_0f7a4 27 = .ok (.iushr, 1) := by decide +kernel
theorem dJ6_bitCount_0f7a4_28 : decode cJ6_bitCount_0f7a4 28 = .ok (.iadd, 1) := by decide +kernel
theorem dJ6_bitCount_0f7a4_29 : decode cJ6_bitCount_0f7a4 29 = .ok (.ldc_w 267, 3) := by decide +kernel
theorem dJ6_bitCount_0f7a4_32 : decode cJ6_bitCount_0f7a4 32 = .ok (.iand, 1) := by decide +kernel
theorem dJ6_bitCount_0f7a4_33 : decode cJ6_bitCount_0f7a4 33 = .ok (.istore_n 0, 1) := by decide +kernel
theorem dJ6_bitCount_0f7a4_34 : decode cJ6_bitCount_0f7a4 34 = .ok (.iload_n 0, 1) := by decide +kernel
theorem dJ6_bitCount_0f7a4_35 : decode cJ6_bitCount_0f7a4 35 = .ok (.iload_n 0, 1) := by decide +kernel
theorem dJ6_bitCount_0f7a4_36 : decode cJ6_bitCount_0f7a4 36 = .ok (.bipush 8, 2) := by decide +kernel
theorem dJ6_bitCount_0f7a4_38 : decode cJ6_bitCount_0f7a4 38 = .ok (.iushr, 1) := by decide +kernel
theorem dJ6_bitCount_0f7a4_39 : decode cJ6_bitCount_0f7a4 39 = .ok (.iadd, 1) := by decide +kernel
theorem dJ6_bitCount_0f7a4_40 : decode cJ6_bitCount_0f7a4 40 = .ok (.istore_n 0, 1) := by decide +kernel
theorem dJ6_bitCount_0f7a4_41 : decode cJ6_bitCount_0f7a4 41 = .ok (.iload_n 0, 1) := by decide +kernel
theorem dJ6_bitCount_0f7a4_42 : decode cJ6_bitCount_0f7a4 42 = .ok (.iload_n 0, 1) := by decide +kernel
theorem dJ6_bitCount_0f7a4_43 : decode cJ6_bitCount_0f7a4 43 = .ok (.bipush 16, 2) := by decide +kernel
theorem dJ6_bitCount_0f7a4_45 : decode cJ6_bitCount_0f7a4 45 = .ok (.iushr, 1) := by decide +kernel
theorem dJ6_bitCount_0f7a4_46 : decode cJ6_bitCount_0f7a4 46 = .ok (.iadd, 1) := by decide +kernel
theorem dJ6_bitCount_0f7a4_47 : decode cJ6_bitCount_0f7a4 47 = .ok (.istore_n 0, 1) := by decide +kernel
theorem dJ6_bitCount_0f7a4_48 : decode cJ6_bitCount_0f7a4 48 = .ok (.iload_n 0, 1) := by decide +kernel
theorem dJ6_bitCount_0f7a4_49 : decode cJ6_bitCount_0f7a4 49 = .ok (.bipush 63, 2) := by decide +kernel
theorem dJ6_bitCount_0f7a4_51 : decode cJ6_bitCount_0f7a4 51 = .ok (.iand, 1) := by decide +kernel
theorem dJ6_bitCount_0f7a4_52 : decode cJ6_bitCount_0f7a4 52 = .ok (.ireturn, 1) := by decide +kernel
theorem dJ13_bitCount_95d88_0 : decode cJ13_bitCount_95d88 0 = .ok (.lload_n 0, 1) := by decide +kernel
theorem dJ13_bitCount_95d88_1 : decode cJ13_bitCount_95d88 1 = .ok (.lload_n 0, 1) := by decide +kernel
theorem dJ13_bitCount_95d88_2 : decode cJ13_bitCount_95d88 2 = .ok (.iconst 1, 1) := by decide +kernel
theorem dJ13_bitCount_95d88_3 : decode cJ13_bitCount_95d88 3 = .ok (.lushr, 1) := by decide +kernel
theorem dJ13_bitCount_95d88_4 : decode cJ13_bitCount_95d88 4 = .ok (.ldc2_w 314, 3) := by decide +kernel
theorem dJ13_bitCount_95d88_7 : decode cJ13_bitCount_95d88 7 = .ok (.land, 1) := by decide +kernel
theorem dJ13_bitCount_95d88_8 : decode cJ13_bitCount_95d88 8 = .ok (.lsub, 1) := by decide +kernel
theorem dJ13_bitCount_95d88_9 : decode cJ13_bitCount_95d88 9 = .ok (.lstore_n 0, 1) := by decide +kernel
theorem dJ13_bitCount_95d88_10 : decode cJ13_bitCount_95d88 10 = .ok (.lload_n 0, 1) := by decide +kernel
theorem dJ13_bitCount_95d88_11 : decode cJ13_bitCount_95d88 11 = .ok (.ldc2_w 316, 3) := by decide +kernel
theorem dJ13_bitCount_95d88_14 : decode cJ13_bitCount_95d88 14 = .ok (.land, 1) := by decide +kernel
theorem dJ13_bitCount_95d88_15 : decode cJ13_bitCount_95d88 15 = .ok (.lload_n 0, 1) := by decide +kernel
theorem dJ13_bitCount_95d88_16 : decode cJ13_bitCount_95d88 16 = .ok (.iconst 2, 1) := by decide +kernel
theorem dJ13_bitCount_95d88_17 : decode cJ13_bitCount_95d88 17 = .ok (.lushr, 1) := by decide +kernel
theorem dJ13_bitCount_95d88_18 : decode cJ13_bitCount_95d88 18 = .ok (.ldc2_w 316, 3) := by decide +kernel
theorem dJ13_bitCount_95d88_21 : decode cJ13_bitCount_95d88 21 = .ok (.land, 1) := by decide +kernel
theorem dJ13_bitCount_95d88_22 : decode cJ13_bitCount_95d88 22 = .ok (.ladd, 1) := by decide +kernel
theorem dJ13_bitCount_95d88_23 : decode cJ13_bitCount_95d88 23 = .ok (.lstore_n 0, 1) := by decide +kernel
theorem dJ13_bitCount_95d88_24 : decode cJ13_bitCount_95d88 24 = .ok (.lload_n 0, 1) := by decide +kernel
theorem dJ13_bitCount_95d88_25 : decode cJ13_bitCount_95d88 25 = .ok (.lload_n 0, 1) := by decide +kernel
theorem dJ13_bitCount_95d88_26 : decode cJ13_bitCount_95d88 26 = .ok (.iconst 4, 1) := by decide +kernel
theorem dJ13_bitCount_95d88_27 : decode cJ13_bitCount_95d88 27 = .ok (.lushr, 1) := by decide +kernel
theorem dJ13_bitCount_95d88_28 : decode cJ13_bitCount_95d88 28 = .ok (.ladd, 1) := by decide +kernel
theorem dJ13_bitCount_95d88_29 : decode cJ13_bitCount_95d88 29 = .ok (.ldc2_w 318, 3) := by decide +kernel
theorem dJ13_bitCount_95d88_32 : decode cJ13_bitCount_95d88 32 = .ok (.land, 1) := by decide +kernel
theorem dJ13_bitCount_95d88_33 : decode cJ13_bitCount_95d88 33 = .ok (.lstore_n 0, 1) := by decide +kernel
theorem dJ13_bitCount_95d88_34 : decode cJ13_bitCount_95d88 34 = .ok (.lload_n 0, 1) := by decide +kernel
theorem dJ13_bitCount_95d88_35 : decode cJ13_bitCount_95d88 35 = .ok (.lload_n 0, 1) := by decide +kernel
theorem dJ13_bitCount_95d88_36 : decode cJ13_bitCount_95d88 36 = .ok (.bipush 8, 2) := by decide +kernel
theorem dJ13_bitCount_95d88_38 : decode cJ13_bitCount_95d88 38 = .ok (.lushr, 1) := by decide +kernel
theorem dJ13_bitCount_95d88_39 : decode cJ13_bitCount_95d88 39 = .ok (.ladd, 1) := by decide +kernel
theorem dJ13_bitCount_95d88_40 : decode cJ13_bitCount_95d88 40 = .ok (.lstore_n 0, 1) := by decide +kernel
theorem dJ13_bitCount_95d88_41 : decode cJ13_bitCount_95d88 41 = .ok (.lload_n 0, 1) := by decide +kernel
theorem dJ13_bitCount_95d88_42 : decode cJ13_bitCount_95d88 42 = .ok (.lload_n 0, 1) := by decide +kernel
theorem dJ13_bitCount_95d88_43 : decode cJ13_bitCount_95d88 43 = .ok (.bipush 16, 2) := by decide +kernel
theorem dJ13_bitCount_95d88_45 : decode cJ13_bitCount_95d88 45 = .ok (.lushr, 1) := by decide +kernel
theorem dJ13_bitCount_95d88_46 : decode cJ13_bitCount_95d88 46 = .ok (.ladd, 1) := by decide +kernel
theorem dJ13_bitCount_95d88_47 : decode cJ13_bitCount_95d88 47 = .ok (.lstore_n 0, 1) := by decide +kernel
theorem dJ13_bitCount_95d88_48 : decode cJ13_bitCount_95d88 48 = .ok (.lload_n 0, 1) := by decide +kernel
theorem dJ13_bitCount_95d88_49 : decode cJ13_bitCount_95d88 49 = .ok (.lload_n 0, 1) := by decide +kernel
theorem dJ13_bitCount_95d88_50 : decode cJ13_bitCount_95d88 50 = .ok (.bipush 32, 2) := by decide +kernel
theorem dJ13_bitCount_95d88_52 : decode cJ13_bitCount_95d88 52 = .ok (.lushr, 1) := by decide +kernel
theorem dJ13_bitCount_95d88_53 : decode cJ13_bitCount_95d88 53 = .ok (.ladd, 1) := by decide +kernel
theorem dJ13_bitCount_95d88_54 : decode cJ13_bitCount_95d88 54 = .ok (.lstore_n 0, 1) := by decide +kernel
theorem dJ13_bitCount_95d88_55 : decode cJ13_bitCount_95d88 55 = .ok (.lload_n 0, 1) := by decide +kernel
theorem dJ13_bitCount_95d88_56 : decode cJ13_bitCount_95d88 56 = .ok (.l2i, 1) := by decide +kernel
theorem dJ13_bitCount_95d88_57 : decode cJ13_bitCount_95d88 57 = .ok (.bipush 127, 2) := by decide +kernel
theorem dJ13_bitCount_95d88_59 : decode cJ13_bitCount_95d88 59 = .ok (.iand, 1) := by decide +kernel
theorem dJ13_bitCount_95d88_60 : decode cJ13_bitCount_95d88 60 = .ok (.ireturn, 1) := by decide +kernel
theorem dJ9_max_7cf53_0 : decode cJ9_max_7cf53 0 = .ok (.iload_n 0, 1) := by decide +kernel
theorem dJ9_max_7cf53_1 : decode cJ9_max_7cf53 1 = .ok (.iload_n 1, 1) := by decide +kernel
theorem dJ9_max_7cf53_2 : decode cJ9_max_7cf53 2 = .ok (.if_icmp .lt 7, 3) := by decide +kernel
theorem dJ9_max_7cf53_5 : decode cJ9_max_7cf53 5 = .ok (.iload_n 0, 1) := by decide +kernel
theorem dJ9_max_7cf53_6 : decode cJ9_max_7cf53 6 = .ok (.goto 4, 3) := by decide +kernel
theorem dJ9_max_7cf53_9 : decode cJ9_max_7cf53 9 = .ok (.iload_n 1, 1) := by decide +kernel
theorem dJ9_max_7cf53_10 : decode cJ9_max_7cf53 10 = .ok (.ireturn, 1) := by decide +kernel
theorem dJ9_min_7cf53_0 : decode cJ9_min_7cf53 0 = .ok (.iload_n 0, 1) := by decide +kernel
theorem dJ9_min_7cf53_1 : decode cJ9_min_7cf53 1 = .ok (.iload_n 1, 1) := by decide +kernel
theorem dJ9_min_7cf53_2 : decode cJ9_min_7cf53 2 = .ok (.if_icmp .gt 7, 3) := by decide +kernel
theorem dJ9_min_7cf53_5 : decode cJ9_min_7cf53 5 = .ok (.iload_n 0, 1) := by decide +kernel
theorem dJ9_min_7cf53_6 : decode cJ9_min_7cf53 6 = .ok (.goto 4, 3) := by decide +kernel
theorem dJ9_min_7cf53_9 : decode cJ9_min_7cf53 9 = .ok (.iload_n 1, 1) := by decide +kernel
theorem dJ9_min_7cf53_10 : decode cJ9_min_7cf53 10 = .ok (.ireturn, 1) := by decide +kernel
theorem dJ9_min_f86c9_0 : decode cJ9_min_f86c9 0 = .ok (.lload_n 0, 1) := by decide +kernel
theorem dJ9_min_f86c9_1 : decode cJ9_min_f86c9 1 = .ok (.lload_n 2, 1) := by decide +kernel
theorem dJ9_min_f86c9_2 : decode cJ9_min_f86c9 2 = .ok (.lcmp, 1) := by decide +kernel
theorem dJ9_min_f86c9_3 : decode cJ9_min_f86c9 3 = .ok (.ifCond .gt 7, 3) := by decide +kernel
theorem dJ9_min_f86c9_6 : decode cJ9_min_f86c9 6 = .ok (.lload_n 0, 1) := by decide +kernel
theorem dJ9_min_f86c9_7 : decode cJ9_min_f86c9 7 = .ok (.goto 4, 3) := by decide +kernel
theorem dJ9_min_f86c9_10 : decode cJ9_min_f86c9 10 = .ok (.lload_n 2, 1) := by decide +kernel
theorem dJ9_min_f86c9_11 : decode cJ9_min_f86c9 11 = .ok (.lreturn, 1) := by decide +kernel
theorem dJ7_fill_d0a16_0 : decode cJ7_fill_d0a16 0 = .ok (.iconst 0, 1) := by decide +kernel
theorem dJ7_fill_d0a16_1 : decode cJ7_fill_d0a16 1 = .ok (.istore_n 3, 1) := by decide +kernel
theorem dJ7_fill_d0a16_2 : decode cJ7_fill_d0a16 2 = .ok (.aload_n 0, 1) := by decide +kernel
theorem dJ7_fill_d0a16_3 : decode cJ7_fill_d0a16 3 = .ok (.arraylength, 1) := by decide +kernel
theorem dJ7_fill_d0a16_4 : decode cJ7_fill_d0a16 4 = .ok (.istore 4, 2) := by decide +kernel
theorem dJ7_fill_d0a16_6 : decode cJ7_fill_d0a16 6 = .ok (.iload_n 3, 1) := by decide +kernel
theorem dJ7_fill_d0a16_7 : decode cJ7_fill_d0a16 7 = .ok (.iload 4, 2) := by decide +kernel
theorem dJ7_fill_d0a16_9 : decode cJ7_fill_d0a16 9 = .ok (.if_icmp .ge 13, 3) := by decide +kernel
theorem dJ7_fill_d0a16_12 : decode cJ7_fill_d0a16 12 = .ok (.aload_n 0, 1) := by decide +kernel
theorem dJ7_fill_d0a16_13 : decode cJ7_fill_d0a16 13 = .ok (.iload_n 3, 1) := by decide +kernel
theorem dJ7_fill_d0a16_14 : decode cJ7_fill_d0a16 14 = .ok (.lload_n 1, 1) := by decide +kernel
theorem dJ7_fill_d0a16_15 : decode cJ7_fill_d0a16 15 = .ok (.lastore, 1) := by decide +kernel
theorem dJ7_fill_d0a16_16 : decode cJ7_fill_d0a16 16 = .ok (.iinc 3 1, 3) := by decide +kernel
theorem dJ7_fill_d0a16_19 : decode cJ7_fill_d0a16 19 = .ok (.goto (-13), 3) := by decide +kernel
theorem dJ7_fill_d0a16_22 : decode cJ7_fill_d0a16 22 = .ok (.return_, 1) := by decide +kernel

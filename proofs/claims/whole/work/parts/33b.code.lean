/-! Code tables -/
def k_WordPlaces_init : List jO := [
  (.aload_n 0, 1, 0, 0, 0, 0, [], j0m), (.invokespecial 1, 3, 0, 1, 0, 0, [1027, 1028, 1029], j0m), j0, j0, (.aload_n 0, 1, 0, 0, 0, 0, [], j0m), (.sipush 400, 3, 0, 0, 0, 0, [], j0m), j0, j0, (.newarray .byte, 2, 0, 0, 2, 0, [1068], j0m), 
  j0, (.putfield 9, 3, 11, 0, 0, 0, [2226], j0m), j0, j0, (.aload_n 0, 1, 0, 0, 0, 0, [], j0m), (.iconst 0, 1, 0, 0, 0, 0, [], j0m), (.putfield 13, 3, 11, 1, 0, 1, [2227], j0m), j0, j0, (.aload_n 0, 1, 0, 0, 0, 0, [], j0m), 
  (.new 17, 3, 2, 7, 0, 0, [1030, 1031, 1002], j0m), j0, j0, (.dup, 1, 0, 0, 0, 0, [], j0m), (.invokespecial 19, 3, 22, 1, 2, 7800, [1002, 1033, 1034], m_Image_init), j0, j0, (.putfield 20, 3, 11, 2, 0, 2, [2228], j0m), 
  j0, j0, (.aload_n 0, 1, 0, 0, 0, 0, [], j0m), (.iconst 3, 1, 0, 0, 0, 0, [], j0m), (.anewarray 17, 3, 0, 0, 0, 0, [1030], j0m), j0, j0, (.dup, 1, 0, 0, 0, 0, [], j0m), (.iconst 0, 1, 0, 0, 0, 0, [], j0m), 
  (.new 17, 3, 2, 7, 0, 0, [1030, 1031, 1002], j0m), j0, j0, (.dup, 1, 0, 0, 0, 0, [], j0m), (.invokespecial 19, 3, 22, 1, 2, 7800, [1002, 1033, 1034], m_Image_init), j0, j0, (.aastore, 1, 2, 0, 0, 0, [], j0m), 
  (.dup, 1, 0, 0, 0, 0, [], j0m), (.iconst 1, 1, 0, 0, 0, 0, [], j0m), (.new 17, 3, 2, 7, 0, 0, [1030, 1031, 1002], j0m), j0, j0, (.dup, 1, 0, 0, 0, 0, [], j0m), (.invokespecial 19, 3, 22, 1, 2, 7800, [1002, 1033, 1034], m_Image_init), 
  j0, j0, (.aastore, 1, 2, 0, 0, 0, [], j0m), (.dup, 1, 0, 0, 0, 0, [], j0m), (.iconst 2, 1, 0, 0, 0, 0, [], j0m), (.new 17, 3, 2, 7, 0, 0, [1030, 1031, 1002], j0m), j0, j0, (.dup, 1, 0, 0, 0, 0, [], j0m), 
  (.invokespecial 19, 3, 22, 1, 2, 7800, [1002, 1033, 1034], m_Image_init), j0, j0, (.aastore, 1, 2, 0, 0, 0, [], j0m), (.putfield 24, 3, 11, 3, 0, 3, [2229], j0m), j0, j0, (.aload_n 0, 1, 0, 0, 0, 0, [], j0m), 
  (.iconst 3, 1, 0, 0, 0, 0, [], j0m), (.newarray .boolean, 2, 0, 0, 3, 0, [1210], j0m), j0, (.putfield 28, 3, 11, 4, 0, 4, [2230], j0m), j0, j0, (.aload_n 0, 1, 0, 0, 0, 0, [], j0m), (.new 32, 3, 1, 7, 0, 0, [1167, 1168, 1007], j0m), 
  j0, j0, (.dup, 1, 0, 0, 0, 0, [], j0m), (.invokespecial 34, 3, 37, 1, 2, 11002, [1007, 1170, 1171], m_Book_init), j0, j0, (.putfield 35, 3, 11, 5, 0, 5, [2231], j0m), j0, j0, (.aload_n 0, 1, 0, 0, 0, 0, [], j0m), 
  (.new 39, 3, 5, 6, 0, 0, [2059, 2060, 1010], j0m), j0, j0, (.dup, 1, 0, 0, 0, 0, [], j0m), (.invokespecial 41, 3, 4, 1, 2, 2402, [1010, 2062, 2063], m_Likeness_init), j0, j0, (.putfield 42, 3, 11, 6, 0, 6, [2232], j0m), 
  j0, j0, (.aload_n 0, 1, 0, 0, 0, 0, [], j0m), (.new 46, 3, 9, 8, 0, 0, [2087, 2088, 1011], j0m), j0, j0, (.dup, 1, 0, 0, 0, 0, [], j0m), (.aload_n 0, 1, 0, 0, 0, 0, [], j0m), (.getfield 9, 3, 11, 0, 0, 0, [2226], j0m), 
  j0, j0, (.invokespecial 48, 3, 0, 2, 1, 0, [2089, 1011, 2090, 2091], m_Tokens_init), j0, j0, (.putfield 51, 3, 11, 7, 0, 7, [2233], j0m), j0, j0, (.aload_n 0, 1, 0, 0, 0, 0, [], j0m), (.new 55, 3, 6, 3, 0, 0, [2123, 2124, 1012], j0m), 
  j0, j0, (.dup, 1, 0, 0, 0, 0, [], j0m), (.aload_n 0, 1, 0, 0, 0, 0, [], j0m), (.getfield 51, 3, 11, 7, 0, 7, [2233], j0m), j0, j0, (.invokespecial 57, 3, 15, 2, 1, 359, [2125, 1012, 2126, 2127], m_RuleReader_init), 
  j0, j0, (.putfield 60, 3, 11, 8, 0, 8, [2234], j0m), j0, j0, (.aload_n 0, 1, 0, 0, 0, 0, [], j0m), (.new 64, 3, 0, 13, 0, 0, [2144, 2145, 1013], j0m), j0, j0, (.dup, 1, 0, 0, 0, 0, [], j0m), (.aload_n 0, 1, 0, 0, 0, 0, [], j0m), 
  (.getfield 51, 3, 11, 7, 0, 7, [2233], j0m), j0, j0, (.aload_n 0, 1, 0, 0, 0, 0, [], j0m), (.getfield 20, 3, 11, 2, 0, 2, [2228], j0m), j0, j0, (.getfield 66, 3, 2, 0, 0, 0, [1141], j0m), j0, j0, (.aload_n 0, 1, 0, 0, 0, 0, [], j0m), 
  (.getfield 35, 3, 11, 5, 0, 5, [2231], j0m), j0, j0, (.invokespecial 70, 3, 21, 4, 1, 5457, [2146, 1013, 2147, 2148], m_Asker_init), j0, j0, (.putfield 73, 3, 11, 9, 0, 9, [2235], j0m), j0, j0, (.aload_n 0, 1, 0, 0, 0, 0, [], j0m), 
  (.new 77, 3, 3, 3, 0, 0, [2202, 1184, 1009], j0m), j0, j0, (.dup, 1, 0, 0, 0, 0, [], j0m), (.invokespecial 79, 3, 0, 1, 2, 0, [1009, 1186, 1187], m_Key_init), j0, j0, (.putfield 80, 3, 11, 10, 0, 10, [2236], j0m), 
  j0, j0, (.aload_n 0, 1, 0, 0, 0, 0, [], j0m), (.bipush 8, 2, 0, 0, 0, 0, [], j0m), j0, (.newarray .int, 2, 0, 0, 1, 0, [1137], j0m), j0, (.putfield 84, 3, 11, 11, 0, 11, [2237], j0m), j0, j0, (.aload_n 0, 1, 0, 0, 0, 0, [], j0m), 
  (.iconst 0, 1, 0, 0, 0, 0, [], j0m), (.putfield 88, 3, 11, 12, 0, 12, [2238], j0m), j0, j0, (.aload_n 0, 1, 0, 0, 0, 0, [], j0m), (.bipush 40, 2, 0, 0, 0, 0, [], j0m), j0, (.newarray .int, 2, 0, 0, 1, 0, [1137], j0m), 
  j0, (.putfield 91, 3, 11, 13, 0, 13, [2239], j0m), j0, j0, (.aload_n 0, 1, 0, 0, 0, 0, [], j0m), (.bipush 40, 2, 0, 0, 0, 0, [], j0m), j0, (.newarray .int, 2, 0, 0, 1, 0, [1137], j0m), j0, (.putfield 94, 3, 11, 14, 0, 14, [3000], j0m), 
  j0, j0, (.aload_n 0, 1, 0, 0, 0, 0, [], j0m), (.iconst 0, 1, 0, 0, 0, 0, [], j0m), (.putfield 97, 3, 11, 15, 0, 15, [3001], j0m), j0, j0, (.aload_n 0, 1, 0, 0, 0, 0, [], j0m), (.iconst 0, 1, 0, 0, 0, 0, [], j0m), 
  (.putfield 100, 3, 11, 16, 0, 16, [3002], j0m), j0, j0, (.aload_n 0, 1, 0, 0, 0, 0, [], j0m), (.iconst 0, 1, 0, 0, 0, 0, [], j0m), (.putfield 103, 3, 11, 17, 0, 17, [3003], j0m), j0, j0, (.aload_n 0, 1, 0, 0, 0, 0, [], j0m), 
  (.sipush 600, 3, 0, 0, 0, 0, [], j0m), j0, j0, (.newarray .int, 2, 0, 0, 1, 0, [1137], j0m), j0, (.putfield 106, 3, 11, 18, 0, 18, [3004], j0m), j0, j0, (.aload_n 0, 1, 0, 0, 0, 0, [], j0m), (.new 109, 3, 8, 4, 0, 0, [2204, 2205, 1014], j0m), 
  j0, j0, (.dup, 1, 0, 0, 0, 0, [], j0m), (.invokespecial 111, 3, 4, 1, 1, 308, [2206, 1014, 2207, 2208], m_Slots_init), j0, j0, (.putfield 112, 3, 11, 19, 0, 19, [3005], j0m), j0, j0, (.aload_n 0, 1, 0, 0, 0, 0, [], j0m), 
  (.getfield 106, 3, 11, 18, 0, 18, [3004], j0m), j0, j0, (.iconst (-1), 1, 0, 0, 0, 0, [], j0m), (.invokestatic 116, 3, 0, 2, 0, 0, [2225, 1075, 1006, 1076], m_Arrays_fill), j0, j0, (.return_, 1, 0, 0, 0, 0, [], j0m)
  ]
set_option maxRecDepth 20000 in
theorem t_WordPlaces_init : okT m_WordPlaces_init k_WordPlaces_init = true := by decide +kernel
def k_Arrays_fill : List jO := [
  (.iconst 0, 1, 0, 0, 0, 0, [], j0m), (.istore_n 2, 1, 2, 0, 0, 0, [], j0m), (.aload_n 0, 1, 0, 0, 0, 0, [], j0m), (.arraylength, 1, 0, 0, 0, 0, [], j0m), (.istore_n 3, 1, 3, 0, 0, 0, [], j0m), (.iload_n 2, 1, 2, 0, 0, 0, [], j0m), 
  (.iload_n 3, 1, 3, 0, 0, 0, [], j0m), (.if_icmp .ge 13, 3, 0, 20, 0, 0, [], j0m), j0, j0, (.aload_n 0, 1, 0, 0, 0, 0, [], j0m), (.iload_n 2, 1, 2, 0, 0, 0, [], j0m), (.iload_n 1, 1, 1, 0, 0, 0, [], j0m), 
  (.iastore, 1, 0, 0, 0, 0, [], j0m), (.iinc 2 1, 3, 2, 0, 0, 0, [], j0m), j0, j0, (.goto (-12), 3, 0, 5, 0, 0, [], j0m), j0, j0, (.return_, 1, 0, 0, 0, 0, [], j0m)]
set_option maxRecDepth 20000 in
theorem t_Arrays_fill : okT m_Arrays_fill k_Arrays_fill = true := by decide +kernel
def k_WordPlaces_feed : List jO := [
  (.aload_n 0, 1, 0, 0, 0, 0, [], j0m), (.getfield 13, 3, 11, 1, 0, 1, [2227], j0m), j0, j0, (.bipush 20, 2, 0, 0, 0, 0, [], j0m), j0, (.iadd, 1, 0, 0, 0, 0, [], j0m), (.sipush 400, 3, 0, 0, 0, 0, [], j0m), 
  j0, j0, (.if_icmp .le 5, 3, 0, 15, 0, 0, [], j0m), j0, j0, (.iconst (-1), 1, 0, 0, 0, 0, [], j0m), (.ireturn, 1, 0, 0, 0, 0, [], j0m), (.aload_n 0, 1, 0, 0, 0, 0, [], j0m), (.iload_n 1, 1, 1, 0, 0, 0, [], j0m), 
  (.invokevirtual 122, 3, 11, 2, 1, 0, [3051, 3053, 0, 1001, 3054], m_WordPlaces_putNumber), j0, j0, (.aload_n 0, 1, 0, 0, 0, 0, [], j0m), (.iload_n 2, 1, 2, 0, 0, 0, [], j0m), (.invokevirtual 122, 3, 11, 2, 1, 0, [3051, 3053, 0, 1001, 3054], m_WordPlaces_putNumber), 
  j0, j0, (.aload_n 0, 1, 0, 0, 0, 0, [], j0m), (.iload_n 3, 1, 3, 0, 0, 0, [], j0m), (.invokevirtual 122, 3, 11, 2, 1, 0, [3051, 3053, 0, 1001, 3054], m_WordPlaces_putNumber), j0, j0, (.aload_n 0, 1, 0, 0, 0, 0, [], j0m), 
  (.iload 4, 2, 4, 0, 0, 0, [], j0m), j0, (.invokevirtual 122, 3, 11, 2, 1, 0, [3051, 3053, 0, 1001, 3054], m_WordPlaces_putNumber), j0, j0, (.aload_n 0, 1, 0, 0, 0, 0, [], j0m), (.iload 5, 2, 5, 0, 0, 0, [], j0m), 
  j0, (.invokevirtual 122, 3, 11, 2, 1, 0, [3051, 3053, 0, 1001, 3054], m_WordPlaces_putNumber), j0, j0, (.aload_n 0, 1, 0, 0, 0, 0, [], j0m), (.getfield 13, 3, 11, 1, 0, 1, [2227], j0m), j0, j0, (.ireturn, 1, 0, 0, 0, 0, [], j0m)
  ]
set_option maxRecDepth 20000 in
theorem t_WordPlaces_feed : okT m_WordPlaces_feed k_WordPlaces_feed = true := by decide +kernel
def k_WordPlaces_putNumber : List jO := [
  (.bipush 24, 2, 0, 0, 0, 0, [], j0m), j0, (.istore_n 2, 1, 2, 0, 0, 0, [], j0m), (.iload_n 2, 1, 2, 0, 0, 0, [], j0m), (.ifCond .lt 49, 3, 0, 53, 0, 0, [], j0m), j0, j0, (.aload_n 0, 1, 0, 0, 0, 0, [], j0m), 
  (.getfield 13, 3, 11, 1, 0, 1, [2227], j0m), j0, j0, (.ifCond .lt 36, 3, 0, 47, 0, 0, [], j0m), j0, j0, (.aload_n 0, 1, 0, 0, 0, 0, [], j0m), (.getfield 13, 3, 11, 1, 0, 1, [2227], j0m), j0, j0, (.sipush 400, 3, 0, 0, 0, 0, [], j0m), 
  j0, j0, (.if_icmp .ge 26, 3, 0, 47, 0, 0, [], j0m), j0, j0, (.aload_n 0, 1, 0, 0, 0, 0, [], j0m), (.getfield 9, 3, 11, 0, 0, 0, [2226], j0m), j0, j0, (.aload_n 0, 1, 0, 0, 0, 0, [], j0m), (.getfield 13, 3, 11, 1, 0, 1, [2227], j0m), 
  j0, j0, (.iload_n 1, 1, 1, 0, 0, 0, [], j0m), (.iload_n 2, 1, 2, 0, 0, 0, [], j0m), (.ishr, 1, 0, 0, 0, 0, [], j0m), (.i2b, 1, 0, 0, 0, 0, [], j0m), (.bastore, 1, 0, 0, 2, 0, [], j0m), (.aload_n 0, 1, 0, 0, 0, 0, [], j0m), 
  (.dup, 1, 0, 0, 0, 0, [], j0m), (.getfield 13, 3, 11, 1, 0, 1, [2227], j0m), j0, j0, (.iconst 1, 1, 0, 0, 0, 0, [], j0m), (.iadd, 1, 0, 0, 0, 0, [], j0m), (.putfield 13, 3, 11, 1, 0, 1, [2227], j0m), 
  j0, j0, (.iinc 2 (-8), 3, 2, 0, 0, 0, [], j0m), j0, j0, (.goto (-47), 3, 0, 3, 0, 0, [], j0m), j0, j0, (.return_, 1, 0, 0, 0, 0, [], j0m)]
set_option maxRecDepth 20000 in
theorem t_WordPlaces_putNumber : okT m_WordPlaces_putNumber k_WordPlaces_putNumber = true := by decide +kernel
def k_WordPlaces_end : List jO := [
  (.iload_n 1, 1, 1, 0, 0, 0, [], j0m), (.ifCond .lt 11, 3, 0, 12, 0, 0, [], j0m), j0, j0, (.iload_n 1, 1, 1, 0, 0, 0, [], j0m), (.aload_n 0, 1, 0, 0, 0, 0, [], j0m), (.getfield 13, 3, 11, 1, 0, 1, [2227], j0m), 
  j0, j0, (.if_icmp .le 5, 3, 0, 14, 0, 0, [], j0m), j0, j0, (.iconst (-1), 1, 0, 0, 0, 0, [], j0m), (.ireturn, 1, 0, 0, 0, 0, [], j0m), (.aload_n 0, 1, 0, 0, 0, 0, [], j0m), (.iload_n 1, 1, 1, 0, 0, 0, [], j0m), 
  (.putfield 13, 3, 11, 1, 0, 1, [2227], j0m), j0, j0, (.iload_n 1, 1, 1, 0, 0, 0, [], j0m), (.ireturn, 1, 0, 0, 0, 0, [], j0m)]
set_option maxRecDepth 20000 in
theorem t_WordPlaces_end : okT m_WordPlaces_end k_WordPlaces_end = true := by decide +kernel
def k_WordPlaces_rules : List jO := [
  (.aload_n 0, 1, 0, 0, 0, 0, [], j0m), (.getfield 60, 3, 11, 8, 0, 8, [2234], j0m), j0, j0, (.aload_n 0, 1, 0, 0, 0, 0, [], j0m), (.invokevirtual 130, 3, 11, 1, 1, 0, [3063, 3065, 1, 1001, 3066], m_WordPlaces_takeTape), 
  j0, j0, (.invokevirtual 134, 3, 6, 2, 1, 0, [3067, 3068, 3069, 1012, 3070], m_RuleReader_read), j0, j0, (.ifCond .ne 6, 3, 0, 17, 0, 0, [], j0m), j0, j0, (.bipush (-4), 2, 0, 0, 0, 0, [], j0m), j0, (.ireturn, 1, 0, 0, 0, 0, [], j0m), 
  (.aload_n 0, 1, 0, 0, 0, 0, [], j0m), (.getfield 20, 3, 11, 2, 0, 2, [2228], j0m), j0, j0, (.getfield 66, 3, 2, 0, 0, 0, [1141], j0m), j0, j0, (.aload_n 0, 1, 0, 0, 0, 0, [], j0m), (.getfield 60, 3, 11, 8, 0, 8, [2234], j0m), 
  j0, j0, (.getfield 137, 3, 6, 0, 0, 0, [2134], j0m), j0, j0, (.invokevirtual 140, 3, 7, 2, 1, 0, [4003, 4004, 4005, 1003, 4006], m_Rules_copyFrom), j0, j0, (.aload_n 0, 1, 0, 0, 0, 0, [], j0m), (.invokevirtual 146, 3, 11, 1, 1, 0, [4016, 4018, 13, 1001, 4019], m_WordPlaces_forgetBook), 
  j0, j0, (.aload_n 0, 1, 0, 0, 0, 0, [], j0m), (.getfield 20, 3, 11, 2, 0, 2, [2228], j0m), j0, j0, (.getfield 66, 3, 2, 0, 0, 0, [1141], j0m), j0, j0, (.getfield 149, 3, 7, 0, 0, 0, [1079], j0m), j0, 
  j0, (.ireturn, 1, 0, 0, 0, 0, [], j0m)]
set_option maxRecDepth 20000 in
theorem t_WordPlaces_rules : okT m_WordPlaces_rules k_WordPlaces_rules = true := by decide +kernel
def k_WordPlaces_takeTape : List jO := [
  (.aload_n 0, 1, 0, 0, 0, 0, [], j0m), (.getfield 13, 3, 11, 1, 0, 1, [2227], j0m), j0, j0, (.istore_n 1, 1, 1, 0, 0, 0, [], j0m), (.aload_n 0, 1, 0, 0, 0, 0, [], j0m), (.iconst 0, 1, 0, 0, 0, 0, [], j0m), 
  (.putfield 13, 3, 11, 1, 0, 1, [2227], j0m), j0, j0, (.iload_n 1, 1, 1, 0, 0, 0, [], j0m), (.ireturn, 1, 0, 0, 0, 0, [], j0m)]
set_option maxRecDepth 20000 in
theorem t_WordPlaces_takeTape : okT m_WordPlaces_takeTape k_WordPlaces_takeTape = true := by decide +kernel
def k_WordPlaces_isLetter : List jO := [
  (.iload_n 0, 1, 0, 0, 0, 0, [], j0m), (.bipush 97, 2, 0, 0, 0, 0, [], j0m), j0, (.if_icmp .lt 13, 3, 0, 16, 0, 0, [], j0m), j0, j0, (.iload_n 0, 1, 0, 0, 0, 0, [], j0m), (.bipush 122, 2, 0, 0, 0, 0, [], j0m), 
  j0, (.if_icmp .gt 7, 3, 0, 16, 0, 0, [], j0m), j0, j0, (.iconst 1, 1, 0, 0, 0, 0, [], j0m), (.goto 4, 3, 0, 17, 0, 0, [], j0m), j0, j0, (.iconst 0, 1, 0, 0, 0, 0, [], j0m), (.ireturn, 1, 0, 0, 1, 0, [], j0m)
  ]
set_option maxRecDepth 20000 in
theorem t_WordPlaces_isLetter : okT m_WordPlaces_isLetter k_WordPlaces_isLetter = true := by decide +kernel
def k_Arrays_fill2 : List jO := [
  (.iconst 0, 1, 0, 0, 0, 0, [], j0m), (.istore_n 2, 1, 2, 0, 0, 0, [], j0m), (.aload_n 0, 1, 0, 0, 0, 0, [], j0m), (.arraylength, 1, 0, 0, 0, 0, [], j0m), (.istore_n 3, 1, 3, 0, 0, 0, [], j0m), (.iload_n 2, 1, 2, 0, 0, 0, [], j0m), 
  (.iload_n 3, 1, 3, 0, 0, 0, [], j0m), (.if_icmp .ge 13, 3, 0, 20, 0, 0, [], j0m), j0, j0, (.aload_n 0, 1, 0, 0, 0, 0, [], j0m), (.iload_n 2, 1, 2, 0, 0, 0, [], j0m), (.iload_n 1, 1, 1, 0, 0, 0, [], j0m), 
  (.bastore, 1, 0, 0, 2, 0, [], j0m), (.iinc 2 1, 3, 2, 0, 0, 0, [], j0m), j0, j0, (.goto (-12), 3, 0, 5, 0, 0, [], j0m), j0, j0, (.return_, 1, 0, 0, 0, 0, [], j0m)]
set_option maxRecDepth 20000 in
theorem t_Arrays_fill2 : okT m_Arrays_fill2 k_Arrays_fill2 = true := by decide +kernel
def k_WordPlaces_forgetBook : List jO := [
  (.aload_n 0, 1, 0, 0, 0, 0, [], j0m), (.getfield 35, 3, 11, 5, 0, 5, [2231], j0m), j0, j0, (.iconst 0, 1, 0, 0, 0, 0, [], j0m), (.putfield 202, 3, 1, 0, 0, 0, [2032], j0m), j0, j0, (.aload_n 0, 1, 0, 0, 0, 0, [], j0m), 
  (.getfield 42, 3, 11, 6, 0, 6, [2232], j0m), j0, j0, (.iconst 0, 1, 0, 0, 0, 0, [], j0m), (.putfield 206, 3, 5, 0, 0, 0, [2066], j0m), j0, j0, (.return_, 1, 0, 0, 0, 0, [], j0m)]
set_option maxRecDepth 20000 in
theorem t_WordPlaces_forgetBook : okT m_WordPlaces_forgetBook k_WordPlaces_forgetBook = true := by decide +kernel
def k_WordPlaces_fault : List jO := [
  (.iload_n 1, 1, 1, 0, 0, 0, [], j0m), (.ifCond .ne 11, 3, 0, 12, 0, 0, [], j0m), j0, j0, (.aload_n 0, 1, 0, 0, 0, 0, [], j0m), (.getfield 51, 3, 11, 7, 0, 7, [2233], j0m), j0, j0, (.getfield 152, 3, 9, 6, 0, 6, [2103], j0m), 
  j0, j0, (.ireturn, 1, 0, 0, 0, 0, [], j0m), (.iload_n 1, 1, 1, 0, 0, 0, [], j0m), (.iconst 1, 1, 0, 0, 0, 0, [], j0m), (.if_icmp .ne 13, 3, 0, 27, 0, 0, [], j0m), j0, j0, (.aload_n 0, 1, 0, 0, 0, 0, [], j0m), 
  (.getfield 51, 3, 11, 7, 0, 7, [2233], j0m), j0, j0, (.getfield 155, 3, 9, 7, 0, 7, [2105], j0m), j0, j0, (.goto 4, 3, 0, 28, 0, 0, [], j0m), j0, j0, (.iconst (-1), 1, 0, 0, 0, 0, [], j0m), (.ireturn, 1, 0, 0, 0, 0, [], j0m)
  ]
set_option maxRecDepth 20000 in
theorem t_WordPlaces_fault : okT m_WordPlaces_fault k_WordPlaces_fault = true := by decide +kernel
def k_WordPlaces_line : List jO := [
  (.iload_n 1, 1, 1, 0, 0, 0, [], j0m), (.invokestatic 158, 3, 0, 1, 0, 0, [4028, 4029, 1001, 4030], m_WordPlaces_isEdition), j0, j0, (.ifCond .ne 6, 3, 0, 10, 0, 0, [], j0m), j0, j0, (.bipush (-2), 2, 0, 0, 0, 0, [], j0m), 
  j0, (.ireturn, 1, 0, 0, 0, 0, [], j0m), (.aload_n 0, 1, 0, 0, 0, 0, [], j0m), (.iload_n 1, 1, 1, 0, 0, 0, [], j0m), (.aload_n 0, 1, 0, 0, 0, 0, [], j0m), (.getfield 9, 3, 11, 0, 0, 0, [2226], j0m), j0, 
  j0, (.aload_n 0, 1, 0, 0, 0, 0, [], j0m), (.invokevirtual 130, 3, 11, 1, 1, 0, [3063, 3065, 1, 1001, 3066], m_WordPlaces_takeTape), j0, j0, (.invokevirtual 161, 3, 11, 4, 1, 0, [4031, 4033, 14, 1001, 4034], m_WordPlaces_addLine), 
  j0, j0, (.ireturn, 1, 0, 0, 0, 0, [], j0m)]
set_option maxRecDepth 20000 in
theorem t_WordPlaces_line : okT m_WordPlaces_line k_WordPlaces_line = true := by decide +kernel
def k_WordPlaces_isEdition : List jO := [
  (.iload_n 0, 1, 0, 0, 0, 0, [], j0m), (.ifCond .lt 12, 3, 0, 13, 0, 0, [], j0m), j0, j0, (.iload_n 0, 1, 0, 0, 0, 0, [], j0m), (.iconst 2, 1, 0, 0, 0, 0, [], j0m), (.if_icmp .ge 7, 3, 0, 13, 0, 0, [], j0m), 
  j0, j0, (.iconst 1, 1, 0, 0, 0, 0, [], j0m), (.goto 4, 3, 0, 14, 0, 0, [], j0m), j0, j0, (.iconst 0, 1, 0, 0, 0, 0, [], j0m), (.ireturn, 1, 0, 0, 1, 0, [], j0m)]
set_option maxRecDepth 20000 in
theorem t_WordPlaces_isEdition : okT m_WordPlaces_isEdition k_WordPlaces_isEdition = true := by decide +kernel
def k_WordPlaces_addLine : List jO := [
  (.aload_n 0, 1, 0, 0, 0, 0, [], j0m), (.getfield 20, 3, 11, 2, 0, 2, [2228], j0m), j0, j0, (.iload_n 1, 1, 1, 0, 0, 0, [], j0m), (.invokevirtual 165, 3, 2, 2, 1, 0, [4035, 4036, 4037, 1002, 4038], m_Image_lineCount), 
  j0, j0, (.istore 4, 2, 4, 0, 0, 0, [], j0m), j0, (.aload_n 0, 1, 0, 0, 0, 0, [], j0m), (.iload_n 1, 1, 1, 0, 0, 0, [], j0m), (.iload 4, 2, 4, 0, 0, 0, [], j0m), j0, (.aload_n 2, 1, 2, 0, 0, 0, [], j0m), 
  (.iload_n 3, 1, 3, 0, 0, 0, [], j0m), (.invokevirtual 169, 3, 11, 5, 1, 0, [4040, 4042, 15, 1001, 4043], m_WordPlaces_lineFault), j0, j0, (.istore 5, 2, 5, 0, 0, 0, [], j0m), j0, (.iload 5, 2, 5, 0, 0, 0, [], j0m), 
  j0, (.ifCond .eq 6, 3, 0, 29, 0, 0, [], j0m), j0, j0, (.iload 5, 2, 5, 0, 0, 0, [], j0m), j0, (.ireturn, 1, 0, 0, 0, 0, [], j0m), (.aload_n 0, 1, 0, 0, 0, 0, [], j0m), (.getfield 20, 3, 11, 2, 0, 2, [2228], j0m), 
  j0, j0, (.iload_n 1, 1, 1, 0, 0, 0, [], j0m), (.iload 4, 2, 4, 0, 0, 0, [], j0m), j0, (.aload_n 2, 1, 2, 0, 0, 0, [], j0m), (.iload_n 3, 1, 3, 0, 0, 0, [], j0m), (.invokevirtual 173, 3, 2, 5, 1, 0, [4062, 4063, 4064, 1002, 4065], m_Image_putLine), 
  j0, j0, (.aload_n 0, 1, 0, 0, 0, 0, [], j0m), (.invokevirtual 146, 3, 11, 1, 1, 0, [4016, 4018, 13, 1001, 4019], m_WordPlaces_forgetBook), j0, j0, (.iload 4, 2, 4, 0, 0, 0, [], j0m), j0, (.ireturn, 1, 0, 0, 0, 0, [], j0m)
  ]
set_option maxRecDepth 20000 in
theorem t_WordPlaces_addLine : okT m_WordPlaces_addLine k_WordPlaces_addLine = true := by decide +kernel
def k_WordPlaces_lineFault : List jO := [
  (.aload_n 3, 1, 3, 0, 0, 0, [], j0m), (.iload 4, 2, 4, 0, 0, 0, [], j0m), j0, (.invokestatic 195, 3, 0, 2, 0, 0, [4044, 4045, 1001, 4046], m_WordPlaces_isLineText), j0, j0, (.ifCond .ne 6, 3, 0, 12, 0, 0, [], j0m), 
  j0, j0, (.bipush (-4), 2, 0, 0, 0, 0, [], j0m), j0, (.ireturn, 1, 0, 0, 0, 0, [], j0m), (.iload_n 2, 1, 2, 0, 0, 0, [], j0m), (.bipush 40, 2, 0, 0, 0, 0, [], j0m), j0, (.if_icmp .ge 21, 3, 0, 36, 0, 0, [], j0m), 
  j0, j0, (.aload_n 0, 1, 0, 0, 0, 0, [], j0m), (.getfield 20, 3, 11, 2, 0, 2, [2228], j0m), j0, j0, (.iload_n 1, 1, 1, 0, 0, 0, [], j0m), (.iload_n 2, 1, 2, 0, 0, 0, [], j0m), (.aload_n 3, 1, 3, 0, 0, 0, [], j0m), 
  (.iload 4, 2, 4, 0, 0, 0, [], j0m), j0, (.invokevirtual 199, 3, 2, 5, 1, 0, [4048, 4049, 4050, 1002, 4051], m_Image_wordCountWith), j0, j0, (.sipush 300, 3, 0, 0, 0, 0, [], j0m), j0, j0, (.if_icmp .le 6, 3, 0, 39, 0, 0, [], j0m), 
  j0, j0, (.bipush (-3), 2, 0, 0, 0, 0, [], j0m), j0, (.ireturn, 1, 0, 0, 0, 0, [], j0m), (.iconst 0, 1, 0, 0, 0, 0, [], j0m), (.ireturn, 1, 0, 0, 0, 0, [], j0m)]
set_option maxRecDepth 20000 in
theorem t_WordPlaces_lineFault : okT m_WordPlaces_lineFault k_WordPlaces_lineFault = true := by decide +kernel
def k_WordPlaces_isLineText : List jO := [
  (.iload_n 1, 1, 1, 0, 0, 0, [], j0m), (.bipush 60, 2, 0, 0, 0, 0, [], j0m), j0, (.if_icmp .gt 9, 3, 0, 12, 0, 0, [], j0m), j0, j0, (.iload_n 1, 1, 1, 0, 0, 0, [], j0m), (.aload_n 0, 1, 0, 0, 0, 0, [], j0m), 
  (.arraylength, 1, 0, 0, 0, 0, [], j0m), (.if_icmp .le 5, 3, 0, 14, 0, 0, [], j0m), j0, j0, (.iconst 0, 1, 0, 0, 0, 0, [], j0m), (.ireturn, 1, 0, 0, 1, 0, [], j0m), (.iconst 0, 1, 0, 0, 0, 0, [], j0m), 
  (.istore_n 2, 1, 2, 0, 0, 0, [], j0m), (.iload_n 2, 1, 2, 0, 0, 0, [], j0m), (.iload_n 1, 1, 1, 0, 0, 0, [], j0m), (.if_icmp .ge 36, 3, 0, 54, 0, 0, [], j0m), j0, j0, (.aload_n 0, 1, 0, 0, 0, 0, [], j0m), 
  (.iload_n 2, 1, 2, 0, 0, 0, [], j0m), (.baload, 1, 0, 0, 2, 0, [], j0m), (.invokestatic 126, 3, 0, 1, 0, 0, [4047, 3088, 1001, 3089], m_WordPlaces_isLetter), j0, j0, (.ifCond .ne 21, 3, 0, 48, 0, 0, [], j0m), 
  j0, j0, (.aload_n 0, 1, 0, 0, 0, 0, [], j0m), (.iload_n 2, 1, 2, 0, 0, 0, [], j0m), (.baload, 1, 0, 0, 2, 0, [], j0m), (.bipush 32, 2, 0, 0, 0, 0, [], j0m), j0, (.if_icmp .eq 13, 3, 0, 48, 0, 0, [], j0m), 
  j0, j0, (.aload_n 0, 1, 0, 0, 0, 0, [], j0m), (.iload_n 2, 1, 2, 0, 0, 0, [], j0m), (.baload, 1, 0, 0, 2, 0, [], j0m), (.bipush 45, 2, 0, 0, 0, 0, [], j0m), j0, (.if_icmp .eq 5, 3, 0, 48, 0, 0, [], j0m), 
  j0, j0, (.iconst 0, 1, 0, 0, 0, 0, [], j0m), (.ireturn, 1, 0, 0, 1, 0, [], j0m), (.iinc 2 1, 3, 2, 0, 0, 0, [], j0m), j0, j0, (.goto (-35), 3, 0, 16, 0, 0, [], j0m), j0, j0, (.iconst 1, 1, 0, 0, 0, 0, [], j0m), 
  (.ireturn, 1, 0, 0, 1, 0, [], j0m)]
set_option maxRecDepth 20000 in
theorem t_WordPlaces_isLineText : okT m_WordPlaces_isLineText k_WordPlaces_isLineText = true := by decide +kernel
def k_WordPlaces_right : List jO := [
  (.iload_n 1, 1, 1, 0, 0, 0, [], j0m), (.invokestatic 158, 3, 0, 1, 0, 0, [4028, 4029, 1001, 4030], m_WordPlaces_isEdition), j0, j0, (.ifCond .eq 19, 3, 0, 23, 0, 0, [], j0m), j0, j0, (.iload_n 2, 1, 2, 0, 0, 0, [], j0m), 
  (.ifCond .lt 15, 3, 0, 23, 0, 0, [], j0m), j0, j0, (.iload_n 2, 1, 2, 0, 0, 0, [], j0m), (.aload_n 0, 1, 0, 0, 0, 0, [], j0m), (.getfield 20, 3, 11, 2, 0, 2, [2228], j0m), j0, j0, (.iload_n 1, 1, 1, 0, 0, 0, [], j0m), 
  (.invokevirtual 165, 3, 2, 2, 1, 0, [4035, 4036, 4037, 1002, 4038], m_Image_lineCount), j0, j0, (.if_icmp .lt 6, 3, 0, 26, 0, 0, [], j0m), j0, j0, (.bipush (-2), 2, 0, 0, 0, 0, [], j0m), j0, (.ireturn, 1, 0, 0, 0, 0, [], j0m), 
  (.aload_n 0, 1, 0, 0, 0, 0, [], j0m), (.invokevirtual 130, 3, 11, 1, 1, 0, [3063, 3065, 1, 1001, 3066], m_WordPlaces_takeTape), j0, j0, (.istore_n 3, 1, 3, 0, 0, 0, [], j0m), (.aload_n 0, 1, 0, 0, 0, 0, [], j0m), 
  (.iload_n 1, 1, 1, 0, 0, 0, [], j0m), (.iload_n 2, 1, 2, 0, 0, 0, [], j0m), (.aload_n 0, 1, 0, 0, 0, 0, [], j0m), (.getfield 9, 3, 11, 0, 0, 0, [2226], j0m), j0, j0, (.iload_n 3, 1, 3, 0, 0, 0, [], j0m), 
  (.invokevirtual 169, 3, 11, 5, 1, 0, [4040, 4042, 15, 1001, 4043], m_WordPlaces_lineFault), j0, j0, (.istore 4, 2, 4, 0, 0, 0, [], j0m), j0, (.iload 4, 2, 4, 0, 0, 0, [], j0m), j0, (.ifCond .eq 6, 3, 0, 52, 0, 0, [], j0m), 
  j0, j0, (.iload 4, 2, 4, 0, 0, 0, [], j0m), j0, (.ireturn, 1, 0, 0, 0, 0, [], j0m), (.aload_n 0, 1, 0, 0, 0, 0, [], j0m), (.getfield 20, 3, 11, 2, 0, 2, [2228], j0m), j0, j0, (.iload_n 1, 1, 1, 0, 0, 0, [], j0m), 
  (.iload_n 2, 1, 2, 0, 0, 0, [], j0m), (.aload_n 0, 1, 0, 0, 0, 0, [], j0m), (.getfield 9, 3, 11, 0, 0, 0, [2226], j0m), j0, j0, (.iload_n 3, 1, 3, 0, 0, 0, [], j0m), (.invokevirtual 173, 3, 2, 5, 1, 0, [4062, 4063, 4064, 1002, 4065], m_Image_putLine), 
  j0, j0, (.aload_n 0, 1, 0, 0, 0, 0, [], j0m), (.invokevirtual 146, 3, 11, 1, 1, 0, [4016, 4018, 13, 1001, 4019], m_WordPlaces_forgetBook), j0, j0, (.aload_n 0, 1, 0, 0, 0, 0, [], j0m), (.getfield 20, 3, 11, 2, 0, 2, [2228], j0m), 
  j0, j0, (.iload_n 1, 1, 1, 0, 0, 0, [], j0m), (.invokevirtual 177, 3, 2, 2, 1, 0, [4071, 4072, 4073, 1002, 4074], m_Image_wordCount), j0, j0, (.ireturn, 1, 0, 0, 0, 0, [], j0m)]
set_option maxRecDepth 20000 in
theorem t_WordPlaces_right : okT m_WordPlaces_right k_WordPlaces_right = true := by decide +kernel
def k_WordPlaces_lineOf : List jO := [
  (.iload_n 1, 1, 1, 0, 0, 0, [], j0m), (.invokestatic 158, 3, 0, 1, 0, 0, [4028, 4029, 1001, 4030], m_WordPlaces_isEdition), j0, j0, (.ifCond .eq 14, 3, 0, 18, 0, 0, [], j0m), j0, j0, (.aload_n 0, 1, 0, 0, 0, 0, [], j0m), 
  (.getfield 112, 3, 11, 19, 0, 19, [3005], j0m), j0, j0, (.iload_n 2, 1, 2, 0, 0, 0, [], j0m), (.invokevirtual 180, 3, 8, 2, 1, 0, [4083, 4084, 4085, 1014, 4086], m_Slots_isSlot), j0, j0, (.ifCond .ne 6, 3, 0, 21, 0, 0, [], j0m), 
  j0, j0, (.bipush (-2), 2, 0, 0, 0, 0, [], j0m), j0, (.ireturn, 1, 0, 0, 0, 0, [], j0m), (.aload_n 0, 1, 0, 0, 0, 0, [], j0m), (.getfield 112, 3, 11, 19, 0, 19, [3005], j0m), j0, j0, (.iload_n 2, 1, 2, 0, 0, 0, [], j0m), 
  (.invokevirtual 183, 3, 8, 2, 1, 0, [4087, 4088, 4089, 1014, 4090], m_Slots_isEmpty), j0, j0, (.ifCond .eq 6, 3, 0, 35, 0, 0, [], j0m), j0, j0, (.bipush (-6), 2, 0, 0, 0, 0, [], j0m), j0, (.ireturn, 1, 0, 0, 0, 0, [], j0m), 
  (.aload_n 0, 1, 0, 0, 0, 0, [], j0m), (.getfield 112, 3, 11, 19, 0, 19, [3005], j0m), j0, j0, (.iload_n 2, 1, 2, 0, 0, 0, [], j0m), (.invokevirtual 186, 3, 8, 2, 1, 0, [4092, 4093, 4094, 1014, 4095], m_Slots_widthOf), 
  j0, j0, (.ifCond .eq 6, 3, 0, 49, 0, 0, [], j0m), j0, j0, (.bipush (-8), 2, 0, 0, 0, 0, [], j0m), j0, (.ireturn, 1, 0, 0, 0, 0, [], j0m), (.aload_n 0, 1, 0, 0, 0, 0, [], j0m), (.getfield 112, 3, 11, 19, 0, 19, [3005], j0m), 
  j0, j0, (.iload_n 2, 1, 2, 0, 0, 0, [], j0m), (.invokevirtual 189, 3, 8, 2, 1, 0, [4096, 4097, 4098, 1014, 4099], m_Slots_takeBytes), j0, j0, (.istore_n 3, 1, 3, 0, 0, 0, [], j0m), (.aload_n 0, 1, 0, 0, 0, 0, [], j0m), 
  (.iload_n 1, 1, 1, 0, 0, 0, [], j0m), (.aload_n 0, 1, 0, 0, 0, 0, [], j0m), (.getfield 112, 3, 11, 19, 0, 19, [3005], j0m), j0, j0, (.getfield 192, 3, 8, 3, 0, 3, [2215], j0m), j0, j0, (.iload_n 3, 1, 3, 0, 0, 0, [], j0m), 
  (.invokevirtual 161, 3, 11, 4, 1, 0, [4031, 4033, 14, 1001, 4034], m_WordPlaces_addLine), j0, j0, (.ireturn, 1, 0, 0, 0, 0, [], j0m)]
set_option maxRecDepth 20000 in
theorem t_WordPlaces_lineOf : okT m_WordPlaces_lineOf k_WordPlaces_lineOf = true := by decide +kernel
def k_WordPlaces_edition : List jO := [
  (.iload_n 1, 1, 1, 0, 0, 0, [], j0m), (.invokestatic 158, 3, 0, 1, 0, 0, [4028, 4029, 1001, 4030], m_WordPlaces_isEdition), j0, j0, (.ifCond .ne 6, 3, 0, 10, 0, 0, [], j0m), j0, j0, (.ldc 215, 2, 0, 0, 0, (-2000000000), [4106], j0m), 
  j0, (.ireturn, 1, 0, 0, 0, 0, [], j0m), (.iload_n 2, 1, 2, 0, 0, 0, [], j0m), (.tableswitch 52 0 2 #[25, 34, 43], 25, 0, 0, 0, 0, [], j0m), j0, j0, j0, j0, j0, j0, j0, j0, j0, j0, j0, j0, j0, j0, j0, 
  j0, j0, j0, j0, j0, j0, j0, j0, j0, (.aload_n 0, 1, 0, 0, 0, 0, [], j0m), (.getfield 20, 3, 11, 2, 0, 2, [2228], j0m), j0, j0, (.iload_n 1, 1, 1, 0, 0, 0, [], j0m), (.invokevirtual 165, 3, 2, 2, 1, 0, [4035, 4036, 4037, 1002, 4038], m_Image_lineCount), 
  j0, j0, (.ireturn, 1, 0, 0, 0, 0, [], j0m), (.aload_n 0, 1, 0, 0, 0, 0, [], j0m), (.getfield 20, 3, 11, 2, 0, 2, [2228], j0m), j0, j0, (.iload_n 1, 1, 1, 0, 0, 0, [], j0m), (.invokevirtual 177, 3, 2, 2, 1, 0, [4071, 4072, 4073, 1002, 4074], m_Image_wordCount), 
  j0, j0, (.ireturn, 1, 0, 0, 0, 0, [], j0m), (.aload_n 0, 1, 0, 0, 0, 0, [], j0m), (.iload_n 1, 1, 1, 0, 0, 0, [], j0m), (.invokevirtual 216, 3, 11, 2, 1, 0, [4107, 4109, 16, 1001, 4110], m_WordPlaces_freshWords), 
  j0, j0, (.getfield 219, 3, 10, 9, 0, 9, [1236], j0m), j0, j0, (.ireturn, 1, 0, 0, 0, 0, [], j0m), (.ldc 215, 2, 0, 0, 0, (-2000000000), [4106], j0m), j0, (.ireturn, 1, 0, 0, 0, 0, [], j0m)]
set_option maxRecDepth 20000 in
theorem t_WordPlaces_edition : okT m_WordPlaces_edition k_WordPlaces_edition = true := by decide +kernel
def k_WordPlaces_freshWords : List jO := [
  (.aload_n 0, 1, 0, 0, 0, 0, [], j0m), (.getfield 35, 3, 11, 5, 0, 5, [2231], j0m), j0, j0, (.aload_n 0, 1, 0, 0, 0, 0, [], j0m), (.getfield 20, 3, 11, 2, 0, 2, [2228], j0m), j0, j0, (.invokevirtual 207, 3, 1, 2, 1, 0, [4111, 4112, 4113, 1007, 4114], m_Book_refresh), 
  j0, j0, (.aload_n 0, 1, 0, 0, 0, 0, [], j0m), (.getfield 35, 3, 11, 5, 0, 5, [2231], j0m), j0, j0, (.iload_n 1, 1, 1, 0, 0, 0, [], j0m), (.invokevirtual 211, 3, 1, 2, 1, 0, [4178, 2155, 2156, 1007, 2157], m_Book_wordsOf), 
  j0, j0, (.areturn, 1, 0, 0, 0, 0, [], j0m)]
set_option maxRecDepth 20000 in
theorem t_WordPlaces_freshWords : okT m_WordPlaces_freshWords k_WordPlaces_freshWords = true := by decide +kernel
def k_Long_compare : List jO := [
  (.lload_n 0, 1, 0, 0, 0, 0, [], j0m), (.lload_n 2, 1, 2, 0, 0, 0, [], j0m), (.lcmp, 1, 0, 0, 0, 0, [], j0m), (.ifCond .ge 7, 3, 0, 10, 0, 0, [], j0m), j0, j0, (.iconst (-1), 1, 0, 0, 0, 0, [], j0m), 
  (.goto 14, 3, 0, 21, 0, 0, [], j0m), j0, j0, (.lload_n 0, 1, 0, 0, 0, 0, [], j0m), (.lload_n 2, 1, 2, 0, 0, 0, [], j0m), (.lcmp, 1, 0, 0, 0, 0, [], j0m), (.ifCond .ne 7, 3, 0, 20, 0, 0, [], j0m), j0, 
  j0, (.iconst 0, 1, 0, 0, 0, 0, [], j0m), (.goto 4, 3, 0, 21, 0, 0, [], j0m), j0, j0, (.iconst 1, 1, 0, 0, 0, 0, [], j0m), (.ireturn, 1, 0, 0, 0, 0, [], j0m)]
set_option maxRecDepth 20000 in
theorem t_Long_compare : okT m_Long_compare k_Long_compare = true := by decide +kernel
def k_WordPlaces_word : List jO := [
  (.iload_n 1, 1, 1, 0, 0, 0, [], j0m), (.invokestatic 158, 3, 0, 1, 0, 0, [4028, 4029, 1001, 4030], m_WordPlaces_isEdition), j0, j0, (.ifCond .ne 6, 3, 0, 10, 0, 0, [], j0m), j0, j0, (.ldc 215, 2, 0, 0, 0, (-2000000000), [4106], j0m), 
  j0, (.ireturn, 1, 0, 0, 0, 0, [], j0m), (.aload_n 0, 1, 0, 0, 0, 0, [], j0m), (.iload_n 1, 1, 1, 0, 0, 0, [], j0m), (.invokevirtual 216, 3, 11, 2, 1, 0, [4107, 4109, 16, 1001, 4110], m_WordPlaces_freshWords), 
  j0, j0, (.astore 4, 2, 4, 0, 0, 0, [], j0m), j0, (.aload 4, 2, 4, 0, 0, 0, [], j0m), j0, (.iload_n 2, 1, 2, 0, 0, 0, [], j0m), (.invokevirtual 224, 3, 10, 2, 1, 0, [4183, 4184, 4185, 1008, 4186], m_Words_has), 
  j0, j0, (.ifCond .ne 6, 3, 0, 29, 0, 0, [], j0m), j0, j0, (.ldc 215, 2, 0, 0, 0, (-2000000000), [4106], j0m), j0, (.ireturn, 1, 0, 0, 0, 0, [], j0m), (.iload_n 3, 1, 3, 0, 0, 0, [], j0m), (.tableswitch 62 0 3 #[30, 38, 46, 54], 30, 0, 0, 0, 0, [], j0m), 
  j0, j0, j0, j0, j0, j0, j0, j0, j0, j0, j0, j0, j0, j0, j0, j0, j0, j0, j0, j0, j0, j0, j0, j0, j0, j0, j0, j0, j0, (.aload 4, 2, 4, 0, 0, 0, [], j0m), j0, (.getfield 227, 3, 10, 5, 0, 5, [1230], j0m), 
  j0, j0, (.iload_n 2, 1, 2, 0, 0, 0, [], j0m), (.iaload, 1, 0, 0, 0, 0, [], j0m), (.ireturn, 1, 0, 0, 0, 0, [], j0m), (.aload 4, 2, 4, 0, 0, 0, [], j0m), j0, (.getfield 230, 3, 10, 2, 0, 2, [1222], j0m), 
  j0, j0, (.iload_n 2, 1, 2, 0, 0, 0, [], j0m), (.iaload, 1, 0, 0, 0, 0, [], j0m), (.ireturn, 1, 0, 0, 0, 0, [], j0m), (.aload 4, 2, 4, 0, 0, 0, [], j0m), j0, (.getfield 233, 3, 10, 3, 0, 3, [1225], j0m), 
  j0, j0, (.iload_n 2, 1, 2, 0, 0, 0, [], j0m), (.iaload, 1, 0, 0, 0, 0, [], j0m), (.ireturn, 1, 0, 0, 0, 0, [], j0m), (.aload 4, 2, 4, 0, 0, 0, [], j0m), j0, (.getfield 236, 3, 10, 4, 0, 4, [1227], j0m), 
  j0, j0, (.iload_n 2, 1, 2, 0, 0, 0, [], j0m), (.iaload, 1, 0, 0, 0, 0, [], j0m), (.ireturn, 1, 0, 0, 0, 0, [], j0m), (.ldc 215, 2, 0, 0, 0, (-2000000000), [4106], j0m), j0, (.ireturn, 1, 0, 0, 0, 0, [], j0m)
  ]
set_option maxRecDepth 20000 in
theorem t_WordPlaces_word : okT m_WordPlaces_word k_WordPlaces_word = true := by decide +kernel
def k_WordPlaces_forms : List jO := [
  (.aload_n 0, 1, 0, 0, 0, 0, [], j0m), (.invokevirtual 239, 3, 11, 1, 1, 0, [4191, 4193, 23, 1001, 4194], m_WordPlaces_freshBook), j0, j0, (.getfield 243, 3, 1, 1, 0, 1, [2035], j0m), j0, j0, (.ireturn, 1, 0, 0, 0, 0, [], j0m)
  ]
set_option maxRecDepth 20000 in
theorem t_WordPlaces_forms : okT m_WordPlaces_forms k_WordPlaces_forms = true := by decide +kernel
def k_WordPlaces_freshBook : List jO := [
  (.aload_n 0, 1, 0, 0, 0, 0, [], j0m), (.getfield 35, 3, 11, 5, 0, 5, [2231], j0m), j0, j0, (.aload_n 0, 1, 0, 0, 0, 0, [], j0m), (.getfield 20, 3, 11, 2, 0, 2, [2228], j0m), j0, j0, (.invokevirtual 207, 3, 1, 2, 1, 0, [4111, 4112, 4113, 1007, 4114], m_Book_refresh), 
  j0, j0, (.aload_n 0, 1, 0, 0, 0, 0, [], j0m), (.getfield 35, 3, 11, 5, 0, 5, [2231], j0m), j0, j0, (.areturn, 1, 0, 0, 0, 0, [], j0m)]
set_option maxRecDepth 20000 in
theorem t_WordPlaces_freshBook : okT m_WordPlaces_freshBook k_WordPlaces_freshBook = true := by decide +kernel
def k_WordPlaces_form : List jO := [
  (.aload_n 0, 1, 0, 0, 0, 0, [], j0m), (.invokevirtual 239, 3, 11, 1, 1, 0, [4191, 4193, 23, 1001, 4194], m_WordPlaces_freshBook), j0, j0, (.astore_n 3, 1, 3, 0, 0, 0, [], j0m), (.aload_n 3, 1, 3, 0, 0, 0, [], j0m), 
  (.iload_n 1, 1, 1, 0, 0, 0, [], j0m), (.invokevirtual 246, 3, 1, 2, 1, 0, [4199, 4200, 4201, 1007, 4202], m_Book_has), j0, j0, (.ifCond .eq 7, 3, 0, 17, 0, 0, [], j0m), j0, j0, (.iload_n 2, 1, 2, 0, 0, 0, [], j0m), 
  (.ifCond .ge 6, 3, 0, 20, 0, 0, [], j0m), j0, j0, (.ldc 215, 2, 0, 0, 0, (-2000000000), [4106], j0m), j0, (.ireturn, 1, 0, 0, 0, 0, [], j0m), (.aload_n 3, 1, 3, 0, 0, 0, [], j0m), (.getfield 247, 3, 1, 2, 0, 2, [2038], j0m), 
  j0, j0, (.getfield 250, 3, 4, 0, 0, 0, [1056], j0m), j0, j0, (.iload_n 1, 1, 1, 0, 0, 0, [], j0m), (.laload, 1, 0, 0, 0, 0, [], j0m), (.lstore 4, 2, 4, 0, 0, 0, [], j0m), j0, (.aload_n 3, 1, 3, 0, 0, 0, [], j0m), 
  (.getfield 247, 3, 1, 2, 0, 2, [2038], j0m), j0, j0, (.getfield 256, 3, 4, 1, 0, 1, [1062], j0m), j0, j0, (.iload_n 1, 1, 1, 0, 0, 0, [], j0m), (.laload, 1, 0, 0, 0, 0, [], j0m), (.lstore 6, 2, 6, 0, 0, 0, [], j0m), 
  j0, (.iload_n 2, 1, 2, 0, 0, 0, [], j0m), (.bipush 10, 2, 0, 0, 0, 0, [], j0m), j0, (.if_icmp .lt 32, 3, 0, 77, 0, 0, [], j0m), j0, j0, (.lload 4, 2, 4, 0, 0, 0, [], j0m), j0, (.lload 6, 2, 6, 0, 0, 0, [], j0m), 
  j0, (.iload_n 2, 1, 2, 0, 0, 0, [], j0m), (.bipush 10, 2, 0, 0, 0, 0, [], j0m), j0, (.isub, 1, 0, 0, 0, 0, [], j0m), (.invokestatic 259, 3, 0, 3, 0, 0, [4203, 4204, 1009, 4205], m_Key_letterAt), j0, 
  j0, (.istore 8, 2, 8, 0, 0, 0, [], j0m), j0, (.iload 8, 2, 8, 0, 0, 0, [], j0m), j0, (.iconst (-1), 1, 0, 0, 0, 0, [], j0m), (.if_icmp .ne 7, 3, 0, 71, 0, 0, [], j0m), j0, j0, (.iconst (-1), 1, 0, 0, 0, 0, [], j0m), 
  (.goto 8, 3, 0, 76, 0, 0, [], j0m), j0, j0, (.bipush 97, 2, 0, 0, 0, 0, [], j0m), j0, (.iload 8, 2, 8, 0, 0, 0, [], j0m), j0, (.iadd, 1, 0, 0, 0, 0, [], j0m), (.ireturn, 1, 0, 0, 0, 0, [], j0m), (.iload_n 2, 1, 2, 0, 0, 0, [], j0m), 
  (.tableswitch 100 0 4 #[34, 42, 52, 62, 85], 34, 0, 0, 0, 0, [], j0m), j0, j0, j0, j0, j0, j0, j0, j0, j0, j0, j0, j0, j0, j0, j0, j0, j0, j0, j0, j0, j0, j0, j0, j0, j0, j0, j0, j0, j0, j0, j0, j0, 
  j0, (.lload 4, 2, 4, 0, 0, 0, [], j0m), j0, (.lload 6, 2, 6, 0, 0, 0, [], j0m), j0, (.invokestatic 263, 3, 0, 2, 0, 0, [4206, 4207, 1009, 4208], m_Key_lengthOf), j0, j0, (.ireturn, 1, 0, 0, 0, 0, [], j0m), 
  (.aload_n 3, 1, 3, 0, 0, 0, [], j0m), (.iconst 0, 1, 0, 0, 0, 0, [], j0m), (.invokevirtual 211, 3, 1, 2, 1, 0, [4178, 2155, 2156, 1007, 2157], m_Book_wordsOf), j0, j0, (.iload_n 1, 1, 1, 0, 0, 0, [], j0m), 
  (.invokevirtual 267, 3, 10, 2, 1, 0, [4210, 4211, 4212, 1008, 4213], m_Words_oftenOf), j0, j0, (.ireturn, 1, 0, 0, 0, 0, [], j0m), (.aload_n 3, 1, 3, 0, 0, 0, [], j0m), (.iconst 1, 1, 0, 0, 0, 0, [], j0m), 
  (.invokevirtual 211, 3, 1, 2, 1, 0, [4178, 2155, 2156, 1007, 2157], m_Book_wordsOf), j0, j0, (.iload_n 1, 1, 1, 0, 0, 0, [], j0m), (.invokevirtual 267, 3, 10, 2, 1, 0, [4210, 4211, 4212, 1008, 4213], m_Words_oftenOf), 
  j0, j0, (.ireturn, 1, 0, 0, 0, 0, [], j0m), (.aload_n 0, 1, 0, 0, 0, 0, [], j0m), (.getfield 20, 3, 11, 2, 0, 2, [2228], j0m), j0, j0, (.getfield 66, 3, 2, 0, 0, 0, [1141], j0m), j0, j0, (.lload 4, 2, 4, 0, 0, 0, [], j0m), 
  j0, (.lload 6, 2, 6, 0, 0, 0, [], j0m), j0, (.invokevirtual 270, 3, 7, 3, 1, 0, [4214, 4215, 4216, 1003, 4217], m_Rules_isStop), j0, j0, (.ifCond .eq 7, 3, 0, 161, 0, 0, [], j0m), j0, j0, (.iconst 1, 1, 0, 0, 0, 0, [], j0m), 
  (.goto 4, 3, 0, 162, 0, 0, [], j0m), j0, j0, (.iconst 0, 1, 0, 0, 0, 0, [], j0m), (.ireturn, 1, 0, 0, 0, 0, [], j0m), (.aload_n 0, 1, 0, 0, 0, 0, [], j0m), (.getfield 20, 3, 11, 2, 0, 2, [2228], j0m), 
  j0, j0, (.getfield 66, 3, 2, 0, 0, 0, [1141], j0m), j0, j0, (.lload 4, 2, 4, 0, 0, 0, [], j0m), j0, (.lload 6, 2, 6, 0, 0, 0, [], j0m), j0, (.invokevirtual 274, 3, 7, 3, 1, 0, [4222, 4223, 4224, 1003, 4225], m_Rules_rootOf), 
  j0, j0, (.ireturn, 1, 0, 0, 0, 0, [], j0m), (.ldc 215, 2, 0, 0, 0, (-2000000000), [4106], j0m), j0, (.ireturn, 1, 0, 0, 0, 0, [], j0m)]
set_option maxRecDepth 20000 in
theorem t_WordPlaces_form : okT m_WordPlaces_form k_WordPlaces_form = true := by decide +kernel
def k_WordPlaces_ordered : List jO := [
  (.aload_n 0, 1, 0, 0, 0, 0, [], j0m), (.invokevirtual 239, 3, 11, 1, 1, 0, [4191, 4193, 23, 1001, 4194], m_WordPlaces_freshBook), j0, j0, (.astore_n 2, 1, 2, 0, 0, 0, [], j0m), (.aload_n 2, 1, 2, 0, 0, 0, [], j0m), 
  (.iload_n 1, 1, 1, 0, 0, 0, [], j0m), (.invokevirtual 246, 3, 1, 2, 1, 0, [4199, 4200, 4201, 1007, 4202], m_Book_has), j0, j0, (.ifCond .eq 12, 3, 0, 22, 0, 0, [], j0m), j0, j0, (.aload_n 2, 1, 2, 0, 0, 0, [], j0m), 
  (.getfield 277, 3, 1, 3, 0, 3, [2040], j0m), j0, j0, (.iload_n 1, 1, 1, 0, 0, 0, [], j0m), (.iaload, 1, 0, 0, 0, 0, [], j0m), (.goto 4, 3, 0, 23, 0, 0, [], j0m), j0, j0, (.iconst (-1), 1, 0, 0, 0, 0, [], j0m), 
  (.ireturn, 1, 0, 0, 0, 0, [], j0m)]
set_option maxRecDepth 20000 in
theorem t_WordPlaces_ordered : okT m_WordPlaces_ordered k_WordPlaces_ordered = true := by decide +kernel
def k_WordPlaces_ask : List jO := [
  (.iload_n 1, 1, 1, 0, 0, 0, [], j0m), (.invokestatic 158, 3, 0, 1, 0, 0, [4028, 4029, 1001, 4030], m_WordPlaces_isEdition), j0, j0, (.ifCond .ne 6, 3, 0, 10, 0, 0, [], j0m), j0, j0, (.bipush (-2), 2, 0, 0, 0, 0, [], j0m), 
  j0, (.ireturn, 1, 0, 0, 0, 0, [], j0m), (.aload_n 0, 1, 0, 0, 0, 0, [], j0m), (.getfield 35, 3, 11, 5, 0, 5, [2231], j0m), j0, j0, (.aload_n 0, 1, 0, 0, 0, 0, [], j0m), (.getfield 20, 3, 11, 2, 0, 2, [2228], j0m), 
  j0, j0, (.invokevirtual 207, 3, 1, 2, 1, 0, [4111, 4112, 4113, 1007, 4114], m_Book_refresh), j0, j0, (.aload_n 0, 1, 0, 0, 0, 0, [], j0m), (.getfield 73, 3, 11, 9, 0, 9, [2235], j0m), j0, j0, (.iload_n 1, 1, 1, 0, 0, 0, [], j0m), 
  (.aload_n 0, 1, 0, 0, 0, 0, [], j0m), (.invokevirtual 130, 3, 11, 1, 1, 0, [3063, 3065, 1, 1001, 3066], m_WordPlaces_takeTape), j0, j0, (.invokevirtual 280, 3, 0, 3, 1, 0, [4234, 4235, 4236, 1013, 4237], m_Asker_solve), 
  j0, j0, (.ifCond .eq 13, 3, 0, 46, 0, 0, [], j0m), j0, j0, (.aload_n 0, 1, 0, 0, 0, 0, [], j0m), (.getfield 73, 3, 11, 9, 0, 9, [2235], j0m), j0, j0, (.getfield 284, 3, 0, 9, 0, 9, [2168], j0m), j0, 
  j0, (.goto 5, 3, 0, 48, 0, 0, [], j0m), j0, j0, (.bipush (-4), 2, 0, 0, 0, 0, [], j0m), j0, (.ireturn, 1, 0, 0, 0, 0, [], j0m)]
set_option maxRecDepth 20000 in
theorem t_WordPlaces_ask : okT m_WordPlaces_ask k_WordPlaces_ask = true := by decide +kernel
def k_WordPlaces_answer : List jO := [
  (.iload_n 1, 1, 1, 0, 0, 0, [], j0m), (.ifCond .lt 21, 3, 0, 22, 0, 0, [], j0m), j0, j0, (.iload_n 1, 1, 1, 0, 0, 0, [], j0m), (.aload_n 0, 1, 0, 0, 0, 0, [], j0m), (.getfield 73, 3, 11, 9, 0, 9, [2235], j0m), 
  j0, j0, (.getfield 284, 3, 0, 9, 0, 9, [2168], j0m), j0, j0, (.if_icmp .ge 10, 3, 0, 22, 0, 0, [], j0m), j0, j0, (.iload_n 1, 1, 1, 0, 0, 0, [], j0m), (.sipush 300, 3, 0, 0, 0, 0, [], j0m), j0, j0, (.if_icmp .lt 6, 3, 0, 25, 0, 0, [], j0m), 
  j0, j0, (.ldc 215, 2, 0, 0, 0, (-2000000000), [4106], j0m), j0, (.ireturn, 1, 0, 0, 0, 0, [], j0m), (.iload_n 2, 1, 2, 0, 0, 0, [], j0m), (.tableswitch 56 0 2 #[26, 36, 46], 26, 0, 0, 0, 0, [], j0m), 
  j0, j0, j0, j0, j0, j0, j0, j0, j0, j0, j0, j0, j0, j0, j0, j0, j0, j0, j0, j0, j0, j0, j0, j0, j0, (.aload_n 0, 1, 0, 0, 0, 0, [], j0m), (.getfield 73, 3, 11, 9, 0, 9, [2235], j0m), j0, j0, (.getfield 285, 3, 0, 10, 0, 10, [2170], j0m), 
  j0, j0, (.iload_n 1, 1, 1, 0, 0, 0, [], j0m), (.iaload, 1, 0, 0, 0, 0, [], j0m), (.ireturn, 1, 0, 0, 0, 0, [], j0m), (.aload_n 0, 1, 0, 0, 0, 0, [], j0m), (.getfield 73, 3, 11, 9, 0, 9, [2235], j0m), 
  j0, j0, (.getfield 288, 3, 0, 11, 0, 11, [2172], j0m), j0, j0, (.iload_n 1, 1, 1, 0, 0, 0, [], j0m), (.iaload, 1, 0, 0, 0, 0, [], j0m), (.ireturn, 1, 0, 0, 0, 0, [], j0m), (.aload_n 0, 1, 0, 0, 0, 0, [], j0m), 
  (.getfield 73, 3, 11, 9, 0, 9, [2235], j0m), j0, j0, (.getfield 289, 3, 0, 12, 0, 12, [2174], j0m), j0, j0, (.iload_n 1, 1, 1, 0, 0, 0, [], j0m), (.iaload, 1, 0, 0, 0, 0, [], j0m), (.ireturn, 1, 0, 0, 0, 0, [], j0m), 
  (.ldc 215, 2, 0, 0, 0, (-2000000000), [4106], j0m), j0, (.ireturn, 1, 0, 0, 0, 0, [], j0m)]
set_option maxRecDepth 20000 in
theorem t_WordPlaces_answer : okT m_WordPlaces_answer k_WordPlaces_answer = true := by decide +kernel
def k_WordPlaces_stands : List jO := [
  (.iload_n 1, 1, 1, 0, 0, 0, [], j0m), (.invokestatic 158, 3, 0, 1, 0, 0, [4028, 4029, 1001, 4030], m_WordPlaces_isEdition), j0, j0, (.ifCond .eq 11, 3, 0, 15, 0, 0, [], j0m), j0, j0, (.aload_n 0, 1, 0, 0, 0, 0, [], j0m), 
  (.iload_n 2, 1, 2, 0, 0, 0, [], j0m), (.invokevirtual 290, 3, 11, 2, 1, 0, [5103, 5105, 39, 1001, 5106], m_WordPlaces_isForm), j0, j0, (.ifCond .ne 5, 3, 0, 17, 0, 0, [], j0m), j0, j0, (.iconst (-1), 1, 0, 0, 0, 0, [], j0m), 
  (.ireturn, 1, 0, 0, 0, 0, [], j0m), (.aload_n 0, 1, 0, 0, 0, 0, [], j0m), (.iload_n 1, 1, 1, 0, 0, 0, [], j0m), (.invokevirtual 216, 3, 11, 2, 1, 0, [4107, 4109, 16, 1001, 4110], m_WordPlaces_freshWords), 
  j0, j0, (.iload_n 2, 1, 2, 0, 0, 0, [], j0m), (.iload_n 3, 1, 3, 0, 0, 0, [], j0m), (.invokevirtual 293, 3, 10, 3, 1, 0, [5107, 5062, 5063, 1008, 5064], m_Words_placeOf), j0, j0, (.ireturn, 1, 0, 0, 0, 0, [], j0m)
  ]
set_option maxRecDepth 20000 in
theorem t_WordPlaces_stands : okT m_WordPlaces_stands k_WordPlaces_stands = true := by decide +kernel
def k_WordPlaces_isForm : List jO := [
  (.aload_n 0, 1, 0, 0, 0, 0, [], j0m), (.invokevirtual 239, 3, 11, 1, 1, 0, [4191, 4193, 23, 1001, 4194], m_WordPlaces_freshBook), j0, j0, (.iload_n 1, 1, 1, 0, 0, 0, [], j0m), (.invokevirtual 246, 3, 1, 2, 1, 0, [4199, 4200, 4201, 1007, 4202], m_Book_has), 
  j0, j0, (.ireturn, 1, 0, 0, 1, 0, [], j0m)]
set_option maxRecDepth 20000 in
theorem t_WordPlaces_isForm : okT m_WordPlaces_isForm k_WordPlaces_isForm = true := by decide +kernel
def k_WordPlaces_pack : List jO := [
  (.iload_n 1, 1, 1, 0, 0, 0, [], j0m), (.invokestatic 158, 3, 0, 1, 0, 0, [4028, 4029, 1001, 4030], m_WordPlaces_isEdition), j0, j0, (.ifCond .eq 22, 3, 0, 26, 0, 0, [], j0m), j0, j0, (.aload_n 0, 1, 0, 0, 0, 0, [], j0m), 
  (.iload_n 2, 1, 2, 0, 0, 0, [], j0m), (.invokevirtual 290, 3, 11, 2, 1, 0, [5103, 5105, 39, 1001, 5106], m_WordPlaces_isForm), j0, j0, (.ifCond .eq 14, 3, 0, 26, 0, 0, [], j0m), j0, j0, (.iload_n 3, 1, 3, 0, 0, 0, [], j0m), 
  (.iconst (-1), 1, 0, 0, 0, 0, [], j0m), (.if_icmp .lt 9, 3, 0, 26, 0, 0, [], j0m), j0, j0, (.iload_n 3, 1, 3, 0, 0, 0, [], j0m), (.bipush 10, 2, 0, 0, 0, 0, [], j0m), j0, (.if_icmp .le 6, 3, 0, 29, 0, 0, [], j0m), 
  j0, j0, (.bipush (-2), 2, 0, 0, 0, 0, [], j0m), j0, (.ireturn, 1, 0, 0, 0, 0, [], j0m), (.aload_n 0, 1, 0, 0, 0, 0, [], j0m), (.iload_n 1, 1, 1, 0, 0, 0, [], j0m), (.invokevirtual 216, 3, 11, 2, 1, 0, [4107, 4109, 16, 1001, 4110], m_WordPlaces_freshWords), 
  j0, j0, (.astore 4, 2, 4, 0, 0, 0, [], j0m), j0, (.iload_n 3, 1, 3, 0, 0, 0, [], j0m), (.iconst (-1), 1, 0, 0, 0, 0, [], j0m), (.if_icmp .ne 12, 3, 0, 50, 0, 0, [], j0m), j0, j0, (.aload 4, 2, 4, 0, 0, 0, [], j0m), 
  j0, (.iload_n 2, 1, 2, 0, 0, 0, [], j0m), (.invokevirtual 297, 3, 10, 2, 1, 0, [5112, 5113, 5114, 1008, 5115], m_Words_leastBits), j0, j0, (.goto 10, 3, 0, 57, 0, 0, [], j0m), j0, j0, (.aload 4, 2, 4, 0, 0, 0, [], j0m), 
  j0, (.iload_n 2, 1, 2, 0, 0, 0, [], j0m), (.iload_n 3, 1, 3, 0, 0, 0, [], j0m), (.invokevirtual 300, 3, 10, 3, 1, 0, [5122, 5117, 5118, 1008, 5119], m_Words_bits), j0, j0, (.ireturn, 1, 0, 0, 0, 0, [], j0m)
  ]
set_option maxRecDepth 20000 in
theorem t_WordPlaces_pack : okT m_WordPlaces_pack k_WordPlaces_pack = true := by decide +kernel
def k_WordPlaces_room : List jO := [
  (.iload_n 1, 1, 1, 0, 0, 0, [], j0m), (.invokestatic 158, 3, 0, 1, 0, 0, [4028, 4029, 1001, 4030], m_WordPlaces_isEdition), j0, j0, (.ifCond .ne 6, 3, 0, 10, 0, 0, [], j0m), j0, j0, (.bipush (-2), 2, 0, 0, 0, 0, [], j0m), 
  j0, (.ireturn, 1, 0, 0, 0, 0, [], j0m), (.aload_n 0, 1, 0, 0, 0, 0, [], j0m), (.iload_n 1, 1, 1, 0, 0, 0, [], j0m), (.invokevirtual 216, 3, 11, 2, 1, 0, [4107, 4109, 16, 1001, 4110], m_WordPlaces_freshWords), 
  j0, j0, (.astore_n 2, 1, 2, 0, 0, 0, [], j0m), (.iconst 0, 1, 0, 0, 0, 0, [], j0m), (.istore_n 3, 1, 3, 0, 0, 0, [], j0m), (.iconst 0, 1, 0, 0, 0, 0, [], j0m), (.istore 4, 2, 4, 0, 0, 0, [], j0m), j0, 
  (.iload 4, 2, 4, 0, 0, 0, [], j0m), j0, (.aload_n 0, 1, 0, 0, 0, 0, [], j0m), (.getfield 35, 3, 11, 5, 0, 5, [2231], j0m), j0, j0, (.getfield 243, 3, 1, 1, 0, 1, [2035], j0m), j0, j0, (.if_icmp .ge 18, 3, 0, 48, 0, 0, [], j0m), 
  j0, j0, (.iload_n 3, 1, 3, 0, 0, 0, [], j0m), (.aload_n 2, 1, 2, 0, 0, 0, [], j0m), (.iload 4, 2, 4, 0, 0, 0, [], j0m), j0, (.invokevirtual 297, 3, 10, 2, 1, 0, [5112, 5113, 5114, 1008, 5115], m_Words_leastBits), 
  j0, j0, (.iadd, 1, 0, 0, 0, 0, [], j0m), (.istore_n 3, 1, 3, 0, 0, 0, [], j0m), (.iinc 4 1, 3, 4, 0, 0, 0, [], j0m), j0, j0, (.goto (-24), 3, 0, 21, 0, 0, [], j0m), j0, j0, (.iload_n 3, 1, 3, 0, 0, 0, [], j0m), 
  (.ireturn, 1, 0, 0, 0, 0, [], j0m)]
set_option maxRecDepth 20000 in
theorem t_WordPlaces_room : okT m_WordPlaces_room k_WordPlaces_room = true := by decide +kernel
def k_WordPlaces_shares : List jO := [
  (.iload_n 1, 1, 1, 0, 0, 0, [], j0m), (.invokestatic 158, 3, 0, 1, 0, 0, [4028, 4029, 1001, 4030], m_WordPlaces_isEdition), j0, j0, (.ifCond .eq 14, 3, 0, 18, 0, 0, [], j0m), j0, j0, (.iload_n 2, 1, 2, 0, 0, 0, [], j0m), 
  (.iconst 1, 1, 0, 0, 0, 0, [], j0m), (.if_icmp .lt 9, 3, 0, 18, 0, 0, [], j0m), j0, j0, (.iload_n 2, 1, 2, 0, 0, 0, [], j0m), (.bipush 8, 2, 0, 0, 0, 0, [], j0m), j0, (.if_icmp .le 6, 3, 0, 21, 0, 0, [], j0m), 
  j0, j0, (.bipush (-2), 2, 0, 0, 0, 0, [], j0m), j0, (.ireturn, 1, 0, 0, 0, 0, [], j0m), (.aload_n 0, 1, 0, 0, 0, 0, [], j0m), (.iload_n 2, 1, 2, 0, 0, 0, [], j0m), (.putfield 88, 3, 11, 12, 0, 12, [2238], j0m), 
  j0, j0, (.aload_n 0, 1, 0, 0, 0, 0, [], j0m), (.iload_n 1, 1, 1, 0, 0, 0, [], j0m), (.invokevirtual 216, 3, 11, 2, 1, 0, [4107, 4109, 16, 1001, 4110], m_WordPlaces_freshWords), j0, j0, (.iload_n 2, 1, 2, 0, 0, 0, [], j0m), 
  (.aload_n 0, 1, 0, 0, 0, 0, [], j0m), (.getfield 20, 3, 11, 2, 0, 2, [2228], j0m), j0, j0, (.iload_n 1, 1, 1, 0, 0, 0, [], j0m), (.invokevirtual 165, 3, 2, 2, 1, 0, [4035, 4036, 4037, 1002, 4038], m_Image_lineCount), 
  j0, j0, (.aload_n 0, 1, 0, 0, 0, 0, [], j0m), (.getfield 84, 3, 11, 11, 0, 11, [2237], j0m), j0, j0, (.invokevirtual 303, 3, 10, 4, 1, 0, [5131, 5132, 5133, 1008, 5134], m_Words_divide), j0, j0, (.ireturn, 1, 0, 0, 0, 0, [], j0m)
  ]
set_option maxRecDepth 20000 in
theorem t_WordPlaces_shares : okT m_WordPlaces_shares k_WordPlaces_shares = true := by decide +kernel
def k_WordPlaces_share : List jO := [
  (.iload_n 1, 1, 1, 0, 0, 0, [], j0m), (.ifCond .lt 26, 3, 0, 27, 0, 0, [], j0m), j0, j0, (.iload_n 1, 1, 1, 0, 0, 0, [], j0m), (.aload_n 0, 1, 0, 0, 0, 0, [], j0m), (.getfield 88, 3, 11, 12, 0, 12, [2238], j0m), 
  j0, j0, (.if_icmp .ge 18, 3, 0, 27, 0, 0, [], j0m), j0, j0, (.iload_n 1, 1, 1, 0, 0, 0, [], j0m), (.bipush 8, 2, 0, 0, 0, 0, [], j0m), j0, (.if_icmp .ge 12, 3, 0, 27, 0, 0, [], j0m), j0, j0, (.aload_n 0, 1, 0, 0, 0, 0, [], j0m), 
  (.getfield 84, 3, 11, 11, 0, 11, [2237], j0m), j0, j0, (.iload_n 1, 1, 1, 0, 0, 0, [], j0m), (.iaload, 1, 0, 0, 0, 0, [], j0m), (.goto 4, 3, 0, 28, 0, 0, [], j0m), j0, j0, (.iconst (-1), 1, 0, 0, 0, 0, [], j0m), 
  (.ireturn, 1, 0, 0, 0, 0, [], j0m)]
set_option maxRecDepth 20000 in
theorem t_WordPlaces_share : okT m_WordPlaces_share k_WordPlaces_share = true := by decide +kernel
def k_WordPlaces_alike : List jO := [
  (.aload_n 0, 1, 0, 0, 0, 0, [], j0m), (.invokevirtual 307, 3, 11, 1, 1, 0, [5148, 5150, 41, 1001, 5151], m_WordPlaces_freshLikeness), j0, j0, (.getfield 311, 3, 5, 1, 0, 1, [2068], j0m), j0, j0, (.ireturn, 1, 0, 0, 0, 0, [], j0m)
  ]
set_option maxRecDepth 20000 in
theorem t_WordPlaces_alike : okT m_WordPlaces_alike k_WordPlaces_alike = true := by decide +kernel
def k_WordPlaces_freshLikeness : List jO := [
  (.aload_n 0, 1, 0, 0, 0, 0, [], j0m), (.getfield 35, 3, 11, 5, 0, 5, [2231], j0m), j0, j0, (.aload_n 0, 1, 0, 0, 0, 0, [], j0m), (.getfield 20, 3, 11, 2, 0, 2, [2228], j0m), j0, j0, (.invokevirtual 207, 3, 1, 2, 1, 0, [4111, 4112, 4113, 1007, 4114], m_Book_refresh), 
  j0, j0, (.aload_n 0, 1, 0, 0, 0, 0, [], j0m), (.getfield 42, 3, 11, 6, 0, 6, [2232], j0m), j0, j0, (.aload_n 0, 1, 0, 0, 0, 0, [], j0m), (.getfield 35, 3, 11, 5, 0, 5, [2231], j0m), j0, j0, (.iconst 0, 1, 0, 0, 0, 0, [], j0m), 
  (.invokevirtual 211, 3, 1, 2, 1, 0, [4178, 2155, 2156, 1007, 2157], m_Book_wordsOf), j0, j0, (.aload_n 0, 1, 0, 0, 0, 0, [], j0m), (.getfield 35, 3, 11, 5, 0, 5, [2231], j0m), j0, j0, (.iconst 1, 1, 0, 0, 0, 0, [], j0m), 
  (.invokevirtual 211, 3, 1, 2, 1, 0, [4178, 2155, 2156, 1007, 2157], m_Book_wordsOf), j0, j0, (.invokevirtual 317, 3, 5, 3, 1, 0, [5152, 5153, 5154, 1010, 5155], m_Likeness_refresh), j0, j0, (.aload_n 0, 1, 0, 0, 0, 0, [], j0m), 
  (.getfield 42, 3, 11, 6, 0, 6, [2232], j0m), j0, j0, (.areturn, 1, 0, 0, 0, 0, [], j0m)]
set_option maxRecDepth 20000 in
theorem t_WordPlaces_freshLikeness : okT m_WordPlaces_freshLikeness k_WordPlaces_freshLikeness = true := by decide +kernel
def k_Arrays_fill3 : List jO := [
  (.iconst 0, 1, 0, 0, 0, 0, [], j0m), (.istore_n 3, 1, 3, 0, 0, 0, [], j0m), (.aload_n 0, 1, 0, 0, 0, 0, [], j0m), (.arraylength, 1, 0, 0, 0, 0, [], j0m), (.istore 4, 2, 4, 0, 0, 0, [], j0m), j0, (.iload_n 3, 1, 3, 0, 0, 0, [], j0m), 
  (.iload 4, 2, 4, 0, 0, 0, [], j0m), j0, (.if_icmp .ge 13, 3, 0, 22, 0, 0, [], j0m), j0, j0, (.aload_n 0, 1, 0, 0, 0, 0, [], j0m), (.iload_n 3, 1, 3, 0, 0, 0, [], j0m), (.lload_n 1, 1, 1, 0, 0, 0, [], j0m), 
  (.lastore, 1, 0, 0, 0, 0, [], j0m), (.iinc 3 1, 3, 3, 0, 0, 0, [], j0m), j0, j0, (.goto (-13), 3, 0, 6, 0, 0, [], j0m), j0, j0, (.return_, 1, 0, 0, 0, 0, [], j0m)]
set_option maxRecDepth 20000 in
theorem t_Arrays_fill3 : okT m_Arrays_fill3 k_Arrays_fill3 = true := by decide +kernel
def k_WordPlaces_matched : List jO := [
  (.aload_n 0, 1, 0, 0, 0, 0, [], j0m), (.invokevirtual 307, 3, 11, 1, 1, 0, [5148, 5150, 41, 1001, 5151], m_WordPlaces_freshLikeness), j0, j0, (.astore_n 2, 1, 2, 0, 0, 0, [], j0m), (.aload_n 0, 1, 0, 0, 0, 0, [], j0m), 
  (.getfield 35, 3, 11, 5, 0, 5, [2231], j0m), j0, j0, (.iconst 0, 1, 0, 0, 0, 0, [], j0m), (.invokevirtual 211, 3, 1, 2, 1, 0, [4178, 2155, 2156, 1007, 2157], m_Book_wordsOf), j0, j0, (.iload_n 1, 1, 1, 0, 0, 0, [], j0m), 
  (.invokevirtual 224, 3, 10, 2, 1, 0, [4183, 4184, 4185, 1008, 4186], m_Words_has), j0, j0, (.ifCond .eq 12, 3, 0, 29, 0, 0, [], j0m), j0, j0, (.aload_n 2, 1, 2, 0, 0, 0, [], j0m), (.getfield 314, 3, 5, 2, 0, 2, [2070], j0m), 
  j0, j0, (.iload_n 1, 1, 1, 0, 0, 0, [], j0m), (.iaload, 1, 0, 0, 0, 0, [], j0m), (.goto 4, 3, 0, 30, 0, 0, [], j0m), j0, j0, (.iconst (-1), 1, 0, 0, 0, 0, [], j0m), (.ireturn, 1, 0, 0, 0, 0, [], j0m)
  ]
set_option maxRecDepth 20000 in
theorem t_WordPlaces_matched : okT m_WordPlaces_matched k_WordPlaces_matched = true := by decide +kernel
def k_WordPlaces_slip : List jO := [
  (.iload_n 1, 1, 1, 0, 0, 0, [], j0m), (.invokestatic 320, 3, 0, 1, 0, 0, [5177, 5178, 1001, 5179], m_WordPlaces_isHand), j0, j0, (.ifCond .eq 19, 3, 0, 23, 0, 0, [], j0m), j0, j0, (.iload_n 2, 1, 2, 0, 0, 0, [], j0m), 
  (.ifCond .lt 15, 3, 0, 23, 0, 0, [], j0m), j0, j0, (.iload_n 2, 1, 2, 0, 0, 0, [], j0m), (.aload_n 0, 1, 0, 0, 0, 0, [], j0m), (.getfield 20, 3, 11, 2, 0, 2, [2228], j0m), j0, j0, (.iconst 0, 1, 0, 0, 0, 0, [], j0m), 
  (.invokevirtual 177, 3, 2, 2, 1, 0, [4071, 4072, 4073, 1002, 4074], m_Image_wordCount), j0, j0, (.if_icmp .lt 6, 3, 0, 26, 0, 0, [], j0m), j0, j0, (.bipush (-2), 2, 0, 0, 0, 0, [], j0m), j0, (.ireturn, 1, 0, 0, 0, 0, [], j0m), 
  (.aload_n 0, 1, 0, 0, 0, 0, [], j0m), (.invokevirtual 130, 3, 11, 1, 1, 0, [3063, 3065, 1, 1001, 3066], m_WordPlaces_takeTape), j0, j0, (.istore_n 3, 1, 3, 0, 0, 0, [], j0m), (.aload_n 0, 1, 0, 0, 0, 0, [], j0m), 
  (.iload_n 3, 1, 3, 0, 0, 0, [], j0m), (.invokevirtual 323, 3, 11, 2, 1, 0, [5180, 5182, 44, 1001, 5183], m_WordPlaces_isOneWord), j0, j0, (.ifCond .ne 6, 3, 0, 42, 0, 0, [], j0m), j0, j0, (.bipush (-4), 2, 0, 0, 0, 0, [], j0m), 
  j0, (.ireturn, 1, 0, 0, 0, 0, [], j0m), (.aload_n 0, 1, 0, 0, 0, 0, [], j0m), (.iconst 0, 1, 0, 0, 0, 0, [], j0m), (.iload_n 3, 1, 3, 0, 0, 0, [], j0m), (.invokevirtual 326, 3, 11, 3, 1, 0, [5192, 5194, 47, 1001, 5195], m_WordPlaces_readLetters), 
  j0, j0, (.aload_n 0, 1, 0, 0, 0, 0, [], j0m), (.getfield 20, 3, 11, 2, 0, 2, [2228], j0m), j0, j0, (.getfield 330, 3, 2, 6, 0, 6, [1150], j0m), j0, j0, (.iload_n 1, 1, 1, 0, 0, 0, [], j0m), (.iload_n 2, 1, 2, 0, 0, 0, [], j0m), 
  (.invokestatic 333, 3, 0, 2, 0, 0, [5198, 5199, 1002, 5200], m_Image_slipAt), j0, j0, (.aload_n 0, 1, 0, 0, 0, 0, [], j0m), (.getfield 80, 3, 11, 10, 0, 10, [2236], j0m), j0, j0, (.getfield 336, 3, 3, 0, 0, 0, [1194], j0m), 
  j0, j0, (.aload_n 0, 1, 0, 0, 0, 0, [], j0m), (.getfield 80, 3, 11, 10, 0, 10, [2236], j0m), j0, j0, (.getfield 339, 3, 3, 1, 0, 1, [1200], j0m), j0, j0, (.invokevirtual 341, 3, 4, 4, 1, 0, [5201, 3199, 3200, 1004, 3201], m_KeyRow_put), 
  j0, j0, (.aload_n 0, 1, 0, 0, 0, 0, [], j0m), (.aload_n 0, 1, 0, 0, 0, 0, [], j0m), (.iconst 0, 1, 0, 0, 0, 0, [], j0m), (.invokevirtual 216, 3, 11, 2, 1, 0, [4107, 4109, 16, 1001, 4110], m_WordPlaces_freshWords), 
  j0, j0, (.iload_n 1, 1, 1, 0, 0, 0, [], j0m), (.iload_n 2, 1, 2, 0, 0, 0, [], j0m), (.invokevirtual 345, 3, 11, 4, 1, 0, [5202, 5204, 48, 1001, 5205], m_WordPlaces_isWrong), j0, j0, (.ifCond .eq 7, 3, 0, 95, 0, 0, [], j0m), 
  j0, j0, (.iconst 0, 1, 0, 0, 0, 0, [], j0m), (.goto 4, 3, 0, 96, 0, 0, [], j0m), j0, j0, (.iconst 1, 1, 0, 0, 0, 0, [], j0m), (.ireturn, 1, 0, 0, 0, 0, [], j0m)]
set_option maxRecDepth 20000 in
theorem t_WordPlaces_slip : okT m_WordPlaces_slip k_WordPlaces_slip = true := by decide +kernel
def k_WordPlaces_isHand : List jO := [
  (.iload_n 0, 1, 0, 0, 0, 0, [], j0m), (.ifCond .lt 12, 3, 0, 13, 0, 0, [], j0m), j0, j0, (.iload_n 0, 1, 0, 0, 0, 0, [], j0m), (.iconst 4, 1, 0, 0, 0, 0, [], j0m), (.if_icmp .ge 7, 3, 0, 13, 0, 0, [], j0m), 
  j0, j0, (.iconst 1, 1, 0, 0, 0, 0, [], j0m), (.goto 4, 3, 0, 14, 0, 0, [], j0m), j0, j0, (.iconst 0, 1, 0, 0, 0, 0, [], j0m), (.ireturn, 1, 0, 0, 1, 0, [], j0m)]
set_option maxRecDepth 20000 in
theorem t_WordPlaces_isHand : okT m_WordPlaces_isHand k_WordPlaces_isHand = true := by decide +kernel
def k_WordPlaces_isOneWord : List jO := [
  (.iload_n 1, 1, 1, 0, 0, 0, [], j0m), (.iconst 1, 1, 0, 0, 0, 0, [], j0m), (.if_icmp .lt 22, 3, 0, 24, 0, 0, [], j0m), j0, j0, (.iload_n 1, 1, 1, 0, 0, 0, [], j0m), (.bipush 20, 2, 0, 0, 0, 0, [], j0m), 
  j0, (.if_icmp .gt 16, 3, 0, 24, 0, 0, [], j0m), j0, j0, (.aload_n 0, 1, 0, 0, 0, 0, [], j0m), (.iload_n 1, 1, 1, 0, 0, 0, [], j0m), (.invokevirtual 349, 3, 11, 2, 1, 0, [5184, 5186, 45, 1001, 5187], m_WordPlaces_lettersOnTape), 
  j0, j0, (.iload_n 1, 1, 1, 0, 0, 0, [], j0m), (.if_icmp .ne 7, 3, 0, 24, 0, 0, [], j0m), j0, j0, (.iconst 1, 1, 0, 0, 0, 0, [], j0m), (.goto 4, 3, 0, 25, 0, 0, [], j0m), j0, j0, (.iconst 0, 1, 0, 0, 0, 0, [], j0m), 
  (.ireturn, 1, 0, 0, 1, 0, [], j0m)]
set_option maxRecDepth 20000 in
theorem t_WordPlaces_isOneWord : okT m_WordPlaces_isOneWord k_WordPlaces_isOneWord = true := by decide +kernel
def k_WordPlaces_lettersOnTape : List jO := [
  (.iconst 0, 1, 0, 0, 0, 0, [], j0m), (.istore_n 2, 1, 2, 0, 0, 0, [], j0m), (.iconst 0, 1, 0, 0, 0, 0, [], j0m), (.istore_n 3, 1, 3, 0, 0, 0, [], j0m), (.iload_n 3, 1, 3, 0, 0, 0, [], j0m), (.iload_n 1, 1, 1, 0, 0, 0, [], j0m), 
  (.if_icmp .ge 27, 3, 0, 33, 0, 0, [], j0m), j0, j0, (.iload_n 2, 1, 2, 0, 0, 0, [], j0m), (.aload_n 0, 1, 0, 0, 0, 0, [], j0m), (.iload_n 3, 1, 3, 0, 0, 0, [], j0m), (.iload_n 1, 1, 1, 0, 0, 0, [], j0m), 
  (.invokevirtual 361, 3, 11, 3, 1, 0, [5188, 5190, 46, 1001, 5191], m_WordPlaces_letterOn), j0, j0, (.iconst (-1), 1, 0, 0, 0, 0, [], j0m), (.if_icmp .eq 7, 3, 0, 24, 0, 0, [], j0m), j0, j0, (.iconst 1, 1, 0, 0, 0, 0, [], j0m), 
  (.goto 4, 3, 0, 25, 0, 0, [], j0m), j0, j0, (.iconst 0, 1, 0, 0, 0, 0, [], j0m), (.iadd, 1, 0, 0, 0, 0, [], j0m), (.istore_n 2, 1, 2, 0, 0, 0, [], j0m), (.iinc 3 1, 3, 3, 0, 0, 0, [], j0m), j0, j0, (.goto (-26), 3, 0, 4, 0, 0, [], j0m), 
  j0, j0, (.iload_n 2, 1, 2, 0, 0, 0, [], j0m), (.ireturn, 1, 0, 0, 0, 0, [], j0m)]
set_option maxRecDepth 20000 in
theorem t_WordPlaces_lettersOnTape : okT m_WordPlaces_lettersOnTape k_WordPlaces_lettersOnTape = true := by decide +kernel
def k_WordPlaces_letterOn : List jO := [
  (.iload_n 1, 1, 1, 0, 0, 0, [], j0m), (.ifCond .lt 39, 3, 0, 40, 0, 0, [], j0m), j0, j0, (.iload_n 1, 1, 1, 0, 0, 0, [], j0m), (.iload_n 2, 1, 2, 0, 0, 0, [], j0m), (.if_icmp .ge 34, 3, 0, 40, 0, 0, [], j0m), 
  j0, j0, (.iload_n 1, 1, 1, 0, 0, 0, [], j0m), (.sipush 400, 3, 0, 0, 0, 0, [], j0m), j0, j0, (.if_icmp .ge 27, 3, 0, 40, 0, 0, [], j0m), j0, j0, (.aload_n 0, 1, 0, 0, 0, 0, [], j0m), (.getfield 9, 3, 11, 0, 0, 0, [2226], j0m), 
  j0, j0, (.iload_n 1, 1, 1, 0, 0, 0, [], j0m), (.baload, 1, 0, 0, 2, 0, [], j0m), (.invokestatic 126, 3, 0, 1, 0, 0, [4047, 3088, 1001, 3089], m_WordPlaces_isLetter), j0, j0, (.ifCond .eq 15, 3, 0, 40, 0, 0, [], j0m), 
  j0, j0, (.aload_n 0, 1, 0, 0, 0, 0, [], j0m), (.getfield 9, 3, 11, 0, 0, 0, [2226], j0m), j0, j0, (.iload_n 1, 1, 1, 0, 0, 0, [], j0m), (.baload, 1, 0, 0, 2, 0, [], j0m), (.bipush 97, 2, 0, 0, 0, 0, [], j0m), 
  j0, (.isub, 1, 0, 0, 0, 0, [], j0m), (.goto 4, 3, 0, 41, 0, 0, [], j0m), j0, j0, (.iconst (-1), 1, 0, 0, 0, 0, [], j0m), (.ireturn, 1, 0, 0, 0, 0, [], j0m)]
set_option maxRecDepth 20000 in
theorem t_WordPlaces_letterOn : okT m_WordPlaces_letterOn k_WordPlaces_letterOn = true := by decide +kernel
def k_WordPlaces_readLetters : List jO := [
  (.aload_n 0, 1, 0, 0, 0, 0, [], j0m), (.getfield 80, 3, 11, 10, 0, 10, [2236], j0m), j0, j0, (.invokevirtual 358, 3, 3, 1, 1, 0, [5196, 3191, 3192, 1009, 3193], m_Key_clear), j0, j0, (.iload_n 1, 1, 1, 0, 0, 0, [], j0m), 
  (.istore_n 3, 1, 3, 0, 0, 0, [], j0m), (.iload_n 3, 1, 3, 0, 0, 0, [], j0m), (.iload_n 2, 1, 2, 0, 0, 0, [], j0m), (.if_icmp .ge 22, 3, 0, 33, 0, 0, [], j0m), j0, j0, (.aload_n 0, 1, 0, 0, 0, 0, [], j0m), 
  (.getfield 80, 3, 11, 10, 0, 10, [2236], j0m), j0, j0, (.aload_n 0, 1, 0, 0, 0, 0, [], j0m), (.iload_n 3, 1, 3, 0, 0, 0, [], j0m), (.iload_n 2, 1, 2, 0, 0, 0, [], j0m), (.invokevirtual 361, 3, 11, 3, 1, 0, [5188, 5190, 46, 1001, 5191], m_WordPlaces_letterOn), 
  j0, j0, (.invokevirtual 364, 3, 3, 2, 1, 0, [5197, 3195, 3196, 1009, 3197], m_Key_add), j0, j0, (.iinc 3 1, 3, 3, 0, 0, 0, [], j0m), j0, j0, (.goto (-21), 3, 0, 9, 0, 0, [], j0m), j0, j0, (.return_, 1, 0, 0, 0, 0, [], j0m)
  ]
set_option maxRecDepth 20000 in
theorem t_WordPlaces_readLetters : okT m_WordPlaces_readLetters k_WordPlaces_readLetters = true := by decide +kernel
def k_WordPlaces_isWrong : List jO := [
  (.iload_n 2, 1, 2, 0, 0, 0, [], j0m), (.iload_n 3, 1, 3, 0, 0, 0, [], j0m), (.invokestatic 333, 3, 0, 2, 0, 0, [5198, 5199, 1002, 5200], m_Image_slipAt), j0, j0, (.istore 4, 2, 4, 0, 0, 0, [], j0m), 
  j0, (.iload_n 3, 1, 3, 0, 0, 0, [], j0m), (.aload_n 1, 1, 1, 0, 0, 0, [], j0m), (.getfield 367, 3, 10, 0, 0, 0, [1215], j0m), j0, j0, (.if_icmp .ge 32, 3, 0, 44, 0, 0, [], j0m), j0, j0, (.aload_n 1, 1, 1, 0, 0, 0, [], j0m), 
  (.getfield 368, 3, 10, 1, 0, 1, [1219], j0m), j0, j0, (.iload_n 3, 1, 3, 0, 0, 0, [], j0m), (.aload_n 0, 1, 0, 0, 0, 0, [], j0m), (.getfield 20, 3, 11, 2, 0, 2, [2228], j0m), j0, j0, (.iload 4, 2, 4, 0, 0, 0, [], j0m), 
  j0, (.invokevirtual 371, 3, 2, 2, 1, 0, [5206, 5207, 5208, 1002, 5209], m_Image_slipHigh), j0, j0, (.aload_n 0, 1, 0, 0, 0, 0, [], j0m), (.getfield 20, 3, 11, 2, 0, 2, [2228], j0m), j0, j0, (.iload 4, 2, 4, 0, 0, 0, [], j0m), 
  j0, (.invokevirtual 375, 3, 2, 2, 1, 0, [5211, 5212, 5213, 1002, 5214], m_Image_slipLow), j0, j0, (.invokevirtual 378, 3, 4, 4, 1, 0, [5215, 4219, 4220, 1004, 4221], m_KeyRow_holds), j0, j0, (.ifCond .ne 7, 3, 0, 48, 0, 0, [], j0m), 
  j0, j0, (.iconst 1, 1, 0, 0, 0, 0, [], j0m), (.goto 4, 3, 0, 49, 0, 0, [], j0m), j0, j0, (.iconst 0, 1, 0, 0, 0, 0, [], j0m), (.ireturn, 1, 0, 0, 1, 0, [], j0m)]
set_option maxRecDepth 20000 in
theorem t_WordPlaces_isWrong : okT m_WordPlaces_isWrong k_WordPlaces_isWrong = true := by decide +kernel
def k_WordPlaces_hand : List jO := [
  (.iload_n 1, 1, 1, 0, 0, 0, [], j0m), (.invokestatic 320, 3, 0, 1, 0, 0, [5177, 5178, 1001, 5179], m_WordPlaces_isHand), j0, j0, (.ifCond .eq 12, 3, 0, 16, 0, 0, [], j0m), j0, j0, (.iload_n 2, 1, 2, 0, 0, 0, [], j0m), 
  (.ifCond .lt 8, 3, 0, 16, 0, 0, [], j0m), j0, j0, (.iload_n 2, 1, 2, 0, 0, 0, [], j0m), (.iconst 2, 1, 0, 0, 0, 0, [], j0m), (.if_icmp .le 6, 3, 0, 19, 0, 0, [], j0m), j0, j0, (.ldc 215, 2, 0, 0, 0, (-2000000000), [4106], j0m), 
  j0, (.ireturn, 1, 0, 0, 0, 0, [], j0m), (.aload_n 0, 1, 0, 0, 0, 0, [], j0m), (.iconst 0, 1, 0, 0, 0, 0, [], j0m), (.invokevirtual 216, 3, 11, 2, 1, 0, [4107, 4109, 16, 1001, 4110], m_WordPlaces_freshWords), 
  j0, j0, (.astore_n 3, 1, 3, 0, 0, 0, [], j0m), (.iconst 0, 1, 0, 0, 0, 0, [], j0m), (.istore 4, 2, 4, 0, 0, 0, [], j0m), j0, (.iconst 0, 1, 0, 0, 0, 0, [], j0m), (.istore 5, 2, 5, 0, 0, 0, [], j0m), 
  j0, (.aload_n 3, 1, 3, 0, 0, 0, [], j0m), (.getfield 367, 3, 10, 0, 0, 0, [1215], j0m), j0, j0, (.istore 6, 2, 6, 0, 0, 0, [], j0m), j0, (.iconst 0, 1, 0, 0, 0, 0, [], j0m), (.istore 7, 2, 7, 0, 0, 0, [], j0m), 
  j0, (.iload 7, 2, 7, 0, 0, 0, [], j0m), j0, (.sipush 300, 3, 0, 0, 0, 0, [], j0m), j0, j0, (.if_icmp .ge 65, 3, 0, 110, 0, 0, [], j0m), j0, j0, (.aload_n 0, 1, 0, 0, 0, 0, [], j0m), (.getfield 20, 3, 11, 2, 0, 2, [2228], j0m), 
  j0, j0, (.iload_n 1, 1, 1, 0, 0, 0, [], j0m), (.iload 7, 2, 7, 0, 0, 0, [], j0m), j0, (.invokevirtual 382, 3, 2, 3, 1, 0, [5220, 5221, 5222, 1002, 5223], m_Image_hasSlip), j0, j0, (.ifCond .eq 46, 3, 0, 104, 0, 0, [], j0m), 
  j0, j0, (.iinc 4 1, 3, 4, 0, 0, 0, [], j0m), j0, j0, (.iload 5, 2, 5, 0, 0, 0, [], j0m), j0, (.aload_n 0, 1, 0, 0, 0, 0, [], j0m), (.aload_n 3, 1, 3, 0, 0, 0, [], j0m), (.iload_n 1, 1, 1, 0, 0, 0, [], j0m), 
  (.iload 7, 2, 7, 0, 0, 0, [], j0m), j0, (.invokevirtual 345, 3, 11, 4, 1, 0, [5202, 5204, 48, 1001, 5205], m_WordPlaces_isWrong), j0, j0, (.ifCond .eq 7, 3, 0, 81, 0, 0, [], j0m), j0, j0, (.iconst 1, 1, 0, 0, 0, 0, [], j0m), 
  (.goto 4, 3, 0, 82, 0, 0, [], j0m), j0, j0, (.iconst 0, 1, 0, 0, 0, 0, [], j0m), (.iadd, 1, 0, 0, 0, 0, [], j0m), (.istore 5, 2, 5, 0, 0, 0, [], j0m), j0, (.iload 6, 2, 6, 0, 0, 0, [], j0m), j0, (.iload 7, 2, 7, 0, 0, 0, [], j0m), 
  j0, (.aload_n 3, 1, 3, 0, 0, 0, [], j0m), (.getfield 367, 3, 10, 0, 0, 0, [1215], j0m), j0, j0, (.if_icmp .ge 7, 3, 0, 100, 0, 0, [], j0m), j0, j0, (.iconst 1, 1, 0, 0, 0, 0, [], j0m), (.goto 4, 3, 0, 101, 0, 0, [], j0m), 
  j0, j0, (.iconst 0, 1, 0, 0, 0, 0, [], j0m), (.isub, 1, 0, 0, 0, 0, [], j0m), (.istore 6, 2, 6, 0, 0, 0, [], j0m), j0, (.iinc 7 1, 3, 7, 0, 0, 0, [], j0m), j0, j0, (.goto (-67), 3, 0, 40, 0, 0, [], j0m), 
  j0, j0, (.iload_n 2, 1, 2, 0, 0, 0, [], j0m), (.ifCond .ne 6, 3, 0, 117, 0, 0, [], j0m), j0, j0, (.iload 4, 2, 4, 0, 0, 0, [], j0m), j0, (.ireturn, 1, 0, 0, 0, 0, [], j0m), (.iload_n 2, 1, 2, 0, 0, 0, [], j0m), 
  (.iconst 1, 1, 0, 0, 0, 0, [], j0m), (.if_icmp .ne 8, 3, 0, 127, 0, 0, [], j0m), j0, j0, (.iload 5, 2, 5, 0, 0, 0, [], j0m), j0, (.goto 5, 3, 0, 129, 0, 0, [], j0m), j0, j0, (.iload 6, 2, 6, 0, 0, 0, [], j0m), 
  j0, (.ireturn, 1, 0, 0, 0, 0, [], j0m)]
set_option maxRecDepth 20000 in
theorem t_WordPlaces_hand : okT m_WordPlaces_hand k_WordPlaces_hand = true := by decide +kernel
def k_WordPlaces_copied : List jO := [
  (.iload_n 1, 1, 1, 0, 0, 0, [], j0m), (.invokestatic 320, 3, 0, 1, 0, 0, [5177, 5178, 1001, 5179], m_WordPlaces_isHand), j0, j0, (.ifCond .eq 15, 3, 0, 19, 0, 0, [], j0m), j0, j0, (.iload_n 2, 1, 2, 0, 0, 0, [], j0m), 
  (.invokestatic 320, 3, 0, 1, 0, 0, [5177, 5178, 1001, 5179], m_WordPlaces_isHand), j0, j0, (.ifCond .eq 8, 3, 0, 19, 0, 0, [], j0m), j0, j0, (.iload_n 1, 1, 1, 0, 0, 0, [], j0m), (.iload_n 2, 1, 2, 0, 0, 0, [], j0m), 
  (.if_icmp .ne 6, 3, 0, 22, 0, 0, [], j0m), j0, j0, (.bipush (-2), 2, 0, 0, 0, 0, [], j0m), j0, (.ireturn, 1, 0, 0, 0, 0, [], j0m), (.aload_n 0, 1, 0, 0, 0, 0, [], j0m), (.iconst 0, 1, 0, 0, 0, 0, [], j0m), 
  (.invokevirtual 216, 3, 11, 2, 1, 0, [4107, 4109, 16, 1001, 4110], m_WordPlaces_freshWords), j0, j0, (.astore_n 3, 1, 3, 0, 0, 0, [], j0m), (.iconst 0, 1, 0, 0, 0, 0, [], j0m), (.istore 4, 2, 4, 0, 0, 0, [], j0m), 
  j0, (.iconst 0, 1, 0, 0, 0, 0, [], j0m), (.istore 5, 2, 5, 0, 0, 0, [], j0m), j0, (.iload 5, 2, 5, 0, 0, 0, [], j0m), j0, (.sipush 300, 3, 0, 0, 0, 0, [], j0m), j0, j0, (.if_icmp .ge 55, 3, 0, 94, 0, 0, [], j0m), 
  j0, j0, (.aload_n 0, 1, 0, 0, 0, 0, [], j0m), (.getfield 20, 3, 11, 2, 0, 2, [2228], j0m), j0, j0, (.iload_n 1, 1, 1, 0, 0, 0, [], j0m), (.iload 5, 2, 5, 0, 0, 0, [], j0m), j0, (.invokevirtual 382, 3, 2, 3, 1, 0, [5220, 5221, 5222, 1002, 5223], m_Image_hasSlip), 
  j0, j0, (.ifCond .eq 36, 3, 0, 88, 0, 0, [], j0m), j0, j0, (.aload_n 0, 1, 0, 0, 0, 0, [], j0m), (.aload_n 3, 1, 3, 0, 0, 0, [], j0m), (.iload_n 1, 1, 1, 0, 0, 0, [], j0m), (.iload 5, 2, 5, 0, 0, 0, [], j0m), 
  j0, (.invokevirtual 345, 3, 11, 4, 1, 0, [5202, 5204, 48, 1001, 5205], m_WordPlaces_isWrong), j0, j0, (.ifCond .eq 25, 3, 0, 88, 0, 0, [], j0m), j0, j0, (.aload_n 0, 1, 0, 0, 0, 0, [], j0m), (.iload_n 1, 1, 1, 0, 0, 0, [], j0m), 
  (.iload 5, 2, 5, 0, 0, 0, [], j0m), j0, (.invokestatic 333, 3, 0, 2, 0, 0, [5198, 5199, 1002, 5200], m_Image_slipAt), j0, j0, (.iload_n 2, 1, 2, 0, 0, 0, [], j0m), (.iload 5, 2, 5, 0, 0, 0, [], j0m), 
  j0, (.invokestatic 333, 3, 0, 2, 0, 0, [5198, 5199, 1002, 5200], m_Image_slipAt), j0, j0, (.invokevirtual 385, 3, 11, 3, 1, 0, [5230, 5232, 49, 1001, 5233], m_WordPlaces_areAlike), j0, j0, (.ifCond .eq 6, 3, 0, 88, 0, 0, [], j0m), 
  j0, j0, (.iinc 4 1, 3, 4, 0, 0, 0, [], j0m), j0, j0, (.iinc 5 1, 3, 5, 0, 0, 0, [], j0m), j0, j0, (.goto (-57), 3, 0, 34, 0, 0, [], j0m), j0, j0, (.iload 4, 2, 4, 0, 0, 0, [], j0m), j0, (.ireturn, 1, 0, 0, 0, 0, [], j0m)
  ]
set_option maxRecDepth 20000 in
theorem t_WordPlaces_copied : okT m_WordPlaces_copied k_WordPlaces_copied = true := by decide +kernel
def k_WordPlaces_areAlike : List jO := [
  (.aload_n 0, 1, 0, 0, 0, 0, [], j0m), (.getfield 20, 3, 11, 2, 0, 2, [2228], j0m), j0, j0, (.iload_n 1, 1, 1, 0, 0, 0, [], j0m), (.invokevirtual 371, 3, 2, 2, 1, 0, [5206, 5207, 5208, 1002, 5209], m_Image_slipHigh), 
  j0, j0, (.aload_n 0, 1, 0, 0, 0, 0, [], j0m), (.getfield 20, 3, 11, 2, 0, 2, [2228], j0m), j0, j0, (.iload_n 2, 1, 2, 0, 0, 0, [], j0m), (.invokevirtual 371, 3, 2, 2, 1, 0, [5206, 5207, 5208, 1002, 5209], m_Image_slipHigh), 
  j0, j0, (.lcmp, 1, 0, 0, 0, 0, [], j0m), (.ifCond .ne 27, 3, 0, 44, 0, 0, [], j0m), j0, j0, (.aload_n 0, 1, 0, 0, 0, 0, [], j0m), (.getfield 20, 3, 11, 2, 0, 2, [2228], j0m), j0, j0, (.iload_n 1, 1, 1, 0, 0, 0, [], j0m), 
  (.invokevirtual 375, 3, 2, 2, 1, 0, [5211, 5212, 5213, 1002, 5214], m_Image_slipLow), j0, j0, (.aload_n 0, 1, 0, 0, 0, 0, [], j0m), (.getfield 20, 3, 11, 2, 0, 2, [2228], j0m), j0, j0, (.iload_n 2, 1, 2, 0, 0, 0, [], j0m), 
  (.invokevirtual 375, 3, 2, 2, 1, 0, [5211, 5212, 5213, 1002, 5214], m_Image_slipLow), j0, j0, (.lcmp, 1, 0, 0, 0, 0, [], j0m), (.ifCond .ne 7, 3, 0, 44, 0, 0, [], j0m), j0, j0, (.iconst 1, 1, 0, 0, 0, 0, [], j0m), 
  (.goto 4, 3, 0, 45, 0, 0, [], j0m), j0, j0, (.iconst 0, 1, 0, 0, 0, 0, [], j0m), (.ireturn, 1, 0, 0, 1, 0, [], j0m)]
set_option maxRecDepth 20000 in
theorem t_WordPlaces_areAlike : okT m_WordPlaces_areAlike k_WordPlaces_areAlike = true := by decide +kernel
def k_WordPlaces_rank : List jO := [
  (.iload_n 1, 1, 1, 0, 0, 0, [], j0m), (.invokestatic 158, 3, 0, 1, 0, 0, [4028, 4029, 1001, 4030], m_WordPlaces_isEdition), j0, j0, (.ifCond .ne 6, 3, 0, 10, 0, 0, [], j0m), j0, j0, (.bipush (-2), 2, 0, 0, 0, 0, [], j0m), 
  j0, (.ireturn, 1, 0, 0, 0, 0, [], j0m), (.aload_n 0, 1, 0, 0, 0, 0, [], j0m), (.invokevirtual 130, 3, 11, 1, 1, 0, [3063, 3065, 1, 1001, 3066], m_WordPlaces_takeTape), j0, j0, (.istore_n 2, 1, 2, 0, 0, 0, [], j0m), 
  (.aload_n 0, 1, 0, 0, 0, 0, [], j0m), (.iload_n 1, 1, 1, 0, 0, 0, [], j0m), (.invokevirtual 216, 3, 11, 2, 1, 0, [4107, 4109, 16, 1001, 4110], m_WordPlaces_freshWords), j0, j0, (.astore_n 3, 1, 3, 0, 0, 0, [], j0m), 
  (.aload_n 3, 1, 3, 0, 0, 0, [], j0m), (.invokevirtual 388, 3, 10, 1, 1, 0, [5238, 5239, 6000, 1008, 6001], m_Words_clearWorths), j0, j0, (.iconst 0, 1, 0, 0, 0, 0, [], j0m), (.istore 4, 2, 4, 0, 0, 0, [], j0m), 
  j0, (.iload 4, 2, 4, 0, 0, 0, [], j0m), j0, (.iload_n 2, 1, 2, 0, 0, 0, [], j0m), (.if_icmp .ge 86, 3, 0, 117, 0, 0, [], j0m), j0, j0, (.iload 4, 2, 4, 0, 0, 0, [], j0m), j0, (.istore 5, 2, 5, 0, 0, 0, [], j0m), 
  j0, (.iload 4, 2, 4, 0, 0, 0, [], j0m), j0, (.iload_n 2, 1, 2, 0, 0, 0, [], j0m), (.if_icmp .ge 20, 3, 0, 61, 0, 0, [], j0m), j0, j0, (.aload_n 0, 1, 0, 0, 0, 0, [], j0m), (.iload 4, 2, 4, 0, 0, 0, [], j0m), 
  j0, (.iload_n 2, 1, 2, 0, 0, 0, [], j0m), (.invokevirtual 361, 3, 11, 3, 1, 0, [5188, 5190, 46, 1001, 5191], m_WordPlaces_letterOn), j0, j0, (.iconst (-1), 1, 0, 0, 0, 0, [], j0m), (.if_icmp .eq 9, 3, 0, 61, 0, 0, [], j0m), 
  j0, j0, (.iinc 4 1, 3, 4, 0, 0, 0, [], j0m), j0, j0, (.goto (-20), 3, 0, 38, 0, 0, [], j0m), j0, j0, (.iload 4, 2, 4, 0, 0, 0, [], j0m), j0, (.iload 5, 2, 5, 0, 0, 0, [], j0m), j0, (.if_icmp .le 46, 3, 0, 111, 0, 0, [], j0m), 
  j0, j0, (.aload_n 0, 1, 0, 0, 0, 0, [], j0m), (.iload 5, 2, 5, 0, 0, 0, [], j0m), j0, (.iload 4, 2, 4, 0, 0, 0, [], j0m), j0, (.invokevirtual 391, 3, 11, 3, 1, 0, [6003, 6005, 50, 1001, 6006], m_WordPlaces_readFolded), 
  j0, j0, (.aload_n 3, 1, 3, 0, 0, 0, [], j0m), (.aload_n 0, 1, 0, 0, 0, 0, [], j0m), (.getfield 35, 3, 11, 5, 0, 5, [2231], j0m), j0, j0, (.getfield 247, 3, 1, 2, 0, 2, [2038], j0m), j0, j0, (.aload_n 0, 1, 0, 0, 0, 0, [], j0m), 
  (.getfield 35, 3, 11, 5, 0, 5, [2231], j0m), j0, j0, (.getfield 243, 3, 1, 1, 0, 1, [2035], j0m), j0, j0, (.aload_n 0, 1, 0, 0, 0, 0, [], j0m), (.getfield 80, 3, 11, 10, 0, 10, [2236], j0m), j0, j0, 
  (.getfield 336, 3, 3, 0, 0, 0, [1194], j0m), j0, j0, (.aload_n 0, 1, 0, 0, 0, 0, [], j0m), (.getfield 80, 3, 11, 10, 0, 10, [2236], j0m), j0, j0, (.getfield 339, 3, 3, 1, 0, 1, [1200], j0m), j0, j0, 
  (.invokevirtual 394, 3, 4, 4, 1, 0, [6008, 4152, 4153, 1004, 4154], m_KeyRow_find), j0, j0, (.invokevirtual 398, 3, 10, 2, 1, 0, [6009, 6010, 6011, 1008, 6012], m_Words_addWorths), j0, j0, (.iinc 4 1, 3, 4, 0, 0, 0, [], j0m), 
  j0, j0, (.goto (-86), 3, 0, 28, 0, 0, [], j0m), j0, j0, (.aload_n 0, 1, 0, 0, 0, 0, [], j0m), (.iconst 0, 1, 0, 0, 0, 0, [], j0m), (.putfield 97, 3, 11, 15, 0, 15, [3001], j0m), j0, j0, (.iconst 0, 1, 0, 0, 0, 0, [], j0m), 
  (.istore 4, 2, 4, 0, 0, 0, [], j0m), j0, (.iload 4, 2, 4, 0, 0, 0, [], j0m), j0, (.aload_n 0, 1, 0, 0, 0, 0, [], j0m), (.getfield 20, 3, 11, 2, 0, 2, [2228], j0m), j0, j0, (.iload_n 1, 1, 1, 0, 0, 0, [], j0m), 
  (.invokevirtual 165, 3, 2, 2, 1, 0, [4035, 4036, 4037, 1002, 4038], m_Image_lineCount), j0, j0, (.if_icmp .ge 39, 3, 0, 174, 0, 0, [], j0m), j0, j0, (.iload 4, 2, 4, 0, 0, 0, [], j0m), j0, (.bipush 40, 2, 0, 0, 0, 0, [], j0m), 
  j0, (.if_icmp .ge 32, 3, 0, 174, 0, 0, [], j0m), j0, j0, (.aload_n 3, 1, 3, 0, 0, 0, [], j0m), (.getfield 401, 3, 10, 11, 0, 11, [1239], j0m), j0, j0, (.iload 4, 2, 4, 0, 0, 0, [], j0m), j0, (.iaload, 1, 0, 0, 0, 0, [], j0m), 
  (.ifCond .le 16, 3, 0, 168, 0, 0, [], j0m), j0, j0, (.aload_n 0, 1, 0, 0, 0, 0, [], j0m), (.iload 4, 2, 4, 0, 0, 0, [], j0m), j0, (.aload_n 3, 1, 3, 0, 0, 0, [], j0m), (.getfield 401, 3, 10, 11, 0, 11, [1239], j0m), 
  j0, j0, (.iload 4, 2, 4, 0, 0, 0, [], j0m), j0, (.iaload, 1, 0, 0, 0, 0, [], j0m), (.invokevirtual 404, 3, 11, 3, 1, 0, [6018, 6020, 52, 1001, 6021], m_WordPlaces_insertRanked), j0, j0, (.iinc 4 1, 3, 4, 0, 0, 0, [], j0m), 
  j0, j0, (.goto (-46), 3, 0, 125, 0, 0, [], j0m), j0, j0, (.aload_n 0, 1, 0, 0, 0, 0, [], j0m), (.getfield 97, 3, 11, 15, 0, 15, [3001], j0m), j0, j0, (.ireturn, 1, 0, 0, 0, 0, [], j0m)]
set_option maxRecDepth 20000 in
theorem t_WordPlaces_rank : okT m_WordPlaces_rank k_WordPlaces_rank = true := by decide +kernel
def k_WordPlaces_readFolded : List jO := [
  (.aload_n 0, 1, 0, 0, 0, 0, [], j0m), (.iload_n 1, 1, 1, 0, 0, 0, [], j0m), (.iload_n 2, 1, 2, 0, 0, 0, [], j0m), (.invokevirtual 326, 3, 11, 3, 1, 0, [5192, 5194, 47, 1001, 5195], m_WordPlaces_readLetters), 
  j0, j0, (.aload_n 0, 1, 0, 0, 0, 0, [], j0m), (.getfield 80, 3, 11, 10, 0, 10, [2236], j0m), j0, j0, (.aload_n 0, 1, 0, 0, 0, 0, [], j0m), (.getfield 20, 3, 11, 2, 0, 2, [2228], j0m), j0, j0, (.getfield 66, 3, 2, 0, 0, 0, [1141], j0m), 
  j0, j0, (.getfield 352, 3, 7, 1, 0, 1, [1085], j0m), j0, j0, (.invokevirtual 355, 3, 3, 2, 1, 0, [6007, 5038, 5039, 1009, 5040], m_Key_map), j0, j0, (.return_, 1, 0, 0, 0, 0, [], j0m)]
set_option maxRecDepth 20000 in
theorem t_WordPlaces_readFolded : okT m_WordPlaces_readFolded k_WordPlaces_readFolded = true := by decide +kernel
def k_WordPlaces_insertRanked : List jO := [
  (.aload_n 0, 1, 0, 0, 0, 0, [], j0m), (.getfield 97, 3, 11, 15, 0, 15, [3001], j0m), j0, j0, (.ifCond .lt 12, 3, 0, 16, 0, 0, [], j0m), j0, j0, (.aload_n 0, 1, 0, 0, 0, 0, [], j0m), (.getfield 97, 3, 11, 15, 0, 15, [3001], j0m), 
  j0, j0, (.bipush 40, 2, 0, 0, 0, 0, [], j0m), j0, (.if_icmp .lt 4, 3, 0, 17, 0, 0, [], j0m), j0, j0, (.return_, 1, 0, 0, 0, 0, [], j0m), (.aload_n 0, 1, 0, 0, 0, 0, [], j0m), (.getfield 97, 3, 11, 15, 0, 15, [3001], j0m), 
  j0, j0, (.istore_n 3, 1, 3, 0, 0, 0, [], j0m), (.iload_n 3, 1, 3, 0, 0, 0, [], j0m), (.ifCond .le 49, 3, 0, 72, 0, 0, [], j0m), j0, j0, (.aload_n 0, 1, 0, 0, 0, 0, [], j0m), (.getfield 94, 3, 11, 14, 0, 14, [3000], j0m), 
  j0, j0, (.iload_n 3, 1, 3, 0, 0, 0, [], j0m), (.iconst 1, 1, 0, 0, 0, 0, [], j0m), (.isub, 1, 0, 0, 0, 0, [], j0m), (.iaload, 1, 0, 0, 0, 0, [], j0m), (.iload_n 2, 1, 2, 0, 0, 0, [], j0m), (.if_icmp .ge 37, 3, 0, 72, 0, 0, [], j0m), 
  j0, j0, (.aload_n 0, 1, 0, 0, 0, 0, [], j0m), (.getfield 94, 3, 11, 14, 0, 14, [3000], j0m), j0, j0, (.iload_n 3, 1, 3, 0, 0, 0, [], j0m), (.aload_n 0, 1, 0, 0, 0, 0, [], j0m), (.getfield 94, 3, 11, 14, 0, 14, [3000], j0m), 
  j0, j0, (.iload_n 3, 1, 3, 0, 0, 0, [], j0m), (.iconst 1, 1, 0, 0, 0, 0, [], j0m), (.isub, 1, 0, 0, 0, 0, [], j0m), (.iaload, 1, 0, 0, 0, 0, [], j0m), (.iastore, 1, 0, 0, 0, 0, [], j0m), (.aload_n 0, 1, 0, 0, 0, 0, [], j0m), 
  (.getfield 91, 3, 11, 13, 0, 13, [2239], j0m), j0, j0, (.iload_n 3, 1, 3, 0, 0, 0, [], j0m), (.aload_n 0, 1, 0, 0, 0, 0, [], j0m), (.getfield 91, 3, 11, 13, 0, 13, [2239], j0m), j0, j0, (.iload_n 3, 1, 3, 0, 0, 0, [], j0m), 
  (.iconst 1, 1, 0, 0, 0, 0, [], j0m), (.isub, 1, 0, 0, 0, 0, [], j0m), (.iaload, 1, 0, 0, 0, 0, [], j0m), (.iastore, 1, 0, 0, 0, 0, [], j0m), (.iinc 3 (-1), 3, 3, 0, 0, 0, [], j0m), j0, j0, (.goto (-47), 3, 0, 22, 0, 0, [], j0m), 
  j0, j0, (.aload_n 0, 1, 0, 0, 0, 0, [], j0m), (.getfield 94, 3, 11, 14, 0, 14, [3000], j0m), j0, j0, (.iload_n 3, 1, 3, 0, 0, 0, [], j0m), (.iload_n 2, 1, 2, 0, 0, 0, [], j0m), (.iastore, 1, 0, 0, 0, 0, [], j0m), 
  (.aload_n 0, 1, 0, 0, 0, 0, [], j0m), (.getfield 91, 3, 11, 13, 0, 13, [2239], j0m), j0, j0, (.iload_n 3, 1, 3, 0, 0, 0, [], j0m), (.iload_n 1, 1, 1, 0, 0, 0, [], j0m), (.iastore, 1, 0, 0, 0, 0, [], j0m), 
  (.aload_n 0, 1, 0, 0, 0, 0, [], j0m), (.dup, 1, 0, 0, 0, 0, [], j0m), (.getfield 97, 3, 11, 15, 0, 15, [3001], j0m), j0, j0, (.iconst 1, 1, 0, 0, 0, 0, [], j0m), (.iadd, 1, 0, 0, 0, 0, [], j0m), (.putfield 97, 3, 11, 15, 0, 15, [3001], j0m), 
  j0, j0, (.return_, 1, 0, 0, 0, 0, [], j0m)]
set_option maxRecDepth 20000 in
theorem t_WordPlaces_insertRanked : okT m_WordPlaces_insertRanked k_WordPlaces_insertRanked = true := by decide +kernel
def k_WordPlaces_ranked : List jO := [
  (.iload_n 1, 1, 1, 0, 0, 0, [], j0m), (.ifCond .lt 17, 3, 0, 18, 0, 0, [], j0m), j0, j0, (.iload_n 1, 1, 1, 0, 0, 0, [], j0m), (.aload_n 0, 1, 0, 0, 0, 0, [], j0m), (.getfield 97, 3, 11, 15, 0, 15, [3001], j0m), 
  j0, j0, (.if_icmp .ge 9, 3, 0, 18, 0, 0, [], j0m), j0, j0, (.iload_n 1, 1, 1, 0, 0, 0, [], j0m), (.bipush 40, 2, 0, 0, 0, 0, [], j0m), j0, (.if_icmp .lt 6, 3, 0, 21, 0, 0, [], j0m), j0, j0, (.ldc 215, 2, 0, 0, 0, (-2000000000), [4106], j0m), 
  j0, (.ireturn, 1, 0, 0, 0, 0, [], j0m), (.iload_n 2, 1, 2, 0, 0, 0, [], j0m), (.ifCond .ne 10, 3, 0, 32, 0, 0, [], j0m), j0, j0, (.aload_n 0, 1, 0, 0, 0, 0, [], j0m), (.getfield 91, 3, 11, 13, 0, 13, [2239], j0m), 
  j0, j0, (.iload_n 1, 1, 1, 0, 0, 0, [], j0m), (.iaload, 1, 0, 0, 0, 0, [], j0m), (.ireturn, 1, 0, 0, 0, 0, [], j0m), (.iload_n 2, 1, 2, 0, 0, 0, [], j0m), (.iconst 1, 1, 0, 0, 0, 0, [], j0m), (.if_icmp .ne 12, 3, 0, 46, 0, 0, [], j0m), 
  j0, j0, (.aload_n 0, 1, 0, 0, 0, 0, [], j0m), (.getfield 94, 3, 11, 14, 0, 14, [3000], j0m), j0, j0, (.iload_n 1, 1, 1, 0, 0, 0, [], j0m), (.iaload, 1, 0, 0, 0, 0, [], j0m), (.goto 5, 3, 0, 48, 0, 0, [], j0m), 
  j0, j0, (.ldc 215, 2, 0, 0, 0, (-2000000000), [4106], j0m), j0, (.ireturn, 1, 0, 0, 0, 0, [], j0m)]
set_option maxRecDepth 20000 in
theorem t_WordPlaces_ranked : okT m_WordPlaces_ranked k_WordPlaces_ranked = true := by decide +kernel
def k_WordPlaces_begins : List jO := [
  (.aload_n 0, 1, 0, 0, 0, 0, [], j0m), (.invokevirtual 130, 3, 11, 1, 1, 0, [3063, 3065, 1, 1001, 3066], m_WordPlaces_takeTape), j0, j0, (.istore_n 1, 1, 1, 0, 0, 0, [], j0m), (.aload_n 0, 1, 0, 0, 0, 0, [], j0m), 
  (.invokevirtual 239, 3, 11, 1, 1, 0, [4191, 4193, 23, 1001, 4194], m_WordPlaces_freshBook), j0, j0, (.astore_n 2, 1, 2, 0, 0, 0, [], j0m), (.aload_n 0, 1, 0, 0, 0, 0, [], j0m), (.iconst 0, 1, 0, 0, 0, 0, [], j0m), 
  (.iload_n 1, 1, 1, 0, 0, 0, [], j0m), (.invokevirtual 391, 3, 11, 3, 1, 0, [6003, 6005, 50, 1001, 6006], m_WordPlaces_readFolded), j0, j0, (.aload_n 0, 1, 0, 0, 0, 0, [], j0m), (.iconst 0, 1, 0, 0, 0, 0, [], j0m), 
  (.putfield 100, 3, 11, 16, 0, 16, [3002], j0m), j0, j0, (.aload_n 0, 1, 0, 0, 0, 0, [], j0m), (.iconst 0, 1, 0, 0, 0, 0, [], j0m), (.putfield 103, 3, 11, 17, 0, 17, [3003], j0m), j0, j0, (.aload_n 0, 1, 0, 0, 0, 0, [], j0m), 
  (.iload_n 1, 1, 1, 0, 0, 0, [], j0m), (.invokevirtual 349, 3, 11, 2, 1, 0, [5184, 5186, 45, 1001, 5187], m_WordPlaces_lettersOnTape), j0, j0, (.bipush 20, 2, 0, 0, 0, 0, [], j0m), j0, (.if_icmp .le 5, 3, 0, 38, 0, 0, [], j0m), 
  j0, j0, (.iconst 0, 1, 0, 0, 0, 0, [], j0m), (.ireturn, 1, 0, 0, 0, 0, [], j0m), (.aload_n 2, 1, 2, 0, 0, 0, [], j0m), (.getfield 247, 3, 1, 2, 0, 2, [2038], j0m), j0, j0, (.aload_n 2, 1, 2, 0, 0, 0, [], j0m), 
  (.getfield 243, 3, 1, 1, 0, 1, [2035], j0m), j0, j0, (.aload_n 0, 1, 0, 0, 0, 0, [], j0m), (.getfield 80, 3, 11, 10, 0, 10, [2236], j0m), j0, j0, (.getfield 336, 3, 3, 0, 0, 0, [1194], j0m), j0, j0, 
  (.aload_n 0, 1, 0, 0, 0, 0, [], j0m), (.getfield 80, 3, 11, 10, 0, 10, [2236], j0m), j0, j0, (.getfield 339, 3, 3, 1, 0, 1, [1200], j0m), j0, j0, (.invokevirtual 394, 3, 4, 4, 1, 0, [6008, 4152, 4153, 1004, 4154], m_KeyRow_find), 
  j0, j0, (.istore_n 3, 1, 3, 0, 0, 0, [], j0m), (.aload_n 0, 1, 0, 0, 0, 0, [], j0m), (.iload_n 3, 1, 3, 0, 0, 0, [], j0m), (.ifCond .lt 7, 3, 0, 73, 0, 0, [], j0m), j0, j0, (.iload_n 3, 1, 3, 0, 0, 0, [], j0m), 
  (.goto 6, 3, 0, 76, 0, 0, [], j0m), j0, j0, (.iconst (-1), 1, 0, 0, 0, 0, [], j0m), (.iload_n 3, 1, 3, 0, 0, 0, [], j0m), (.isub, 1, 0, 0, 0, 0, [], j0m), (.putfield 100, 3, 11, 16, 0, 16, [3002], j0m), 
  j0, j0, (.aload_n 0, 1, 0, 0, 0, 0, [], j0m), (.getfield 100, 3, 11, 16, 0, 16, [3002], j0m), j0, j0, (.aload_n 0, 1, 0, 0, 0, 0, [], j0m), (.getfield 103, 3, 11, 17, 0, 17, [3003], j0m), j0, j0, (.iadd, 1, 0, 0, 0, 0, [], j0m), 
  (.aload_n 2, 1, 2, 0, 0, 0, [], j0m), (.getfield 243, 3, 1, 1, 0, 1, [2035], j0m), j0, j0, (.if_icmp .ge 36, 3, 0, 128, 0, 0, [], j0m), j0, j0, (.aload_n 2, 1, 2, 0, 0, 0, [], j0m), (.aload_n 0, 1, 0, 0, 0, 0, [], j0m), 
  (.getfield 100, 3, 11, 16, 0, 16, [3002], j0m), j0, j0, (.aload_n 0, 1, 0, 0, 0, 0, [], j0m), (.getfield 103, 3, 11, 17, 0, 17, [3003], j0m), j0, j0, (.iadd, 1, 0, 0, 0, 0, [], j0m), (.aload_n 0, 1, 0, 0, 0, 0, [], j0m), 
  (.getfield 80, 3, 11, 10, 0, 10, [2236], j0m), j0, j0, (.invokevirtual 407, 3, 1, 3, 1, 0, [6030, 6031, 6032, 1007, 6033], m_Book_beginsWith), j0, j0, (.ifCond .eq 16, 3, 0, 128, 0, 0, [], j0m), j0, 
  j0, (.aload_n 0, 1, 0, 0, 0, 0, [], j0m), (.dup, 1, 0, 0, 0, 0, [], j0m), (.getfield 103, 3, 11, 17, 0, 17, [3003], j0m), j0, j0, (.iconst 1, 1, 0, 0, 0, 0, [], j0m), (.iadd, 1, 0, 0, 0, 0, [], j0m), 
  (.putfield 103, 3, 11, 17, 0, 17, [3003], j0m), j0, j0, (.goto (-46), 3, 0, 79, 0, 0, [], j0m), j0, j0, (.aload_n 0, 1, 0, 0, 0, 0, [], j0m), (.getfield 103, 3, 11, 17, 0, 17, [3003], j0m), j0, j0, (.ireturn, 1, 0, 0, 0, 0, [], j0m)
  ]
set_option maxRecDepth 20000 in
theorem t_WordPlaces_begins : okT m_WordPlaces_begins k_WordPlaces_begins = true := by decide +kernel
def k_WordPlaces_begun : List jO := [
  (.iload_n 1, 1, 1, 0, 0, 0, [], j0m), (.ifCond .lt 20, 3, 0, 21, 0, 0, [], j0m), j0, j0, (.iload_n 1, 1, 1, 0, 0, 0, [], j0m), (.aload_n 0, 1, 0, 0, 0, 0, [], j0m), (.getfield 103, 3, 11, 17, 0, 17, [3003], j0m), 
  j0, j0, (.if_icmp .ge 12, 3, 0, 21, 0, 0, [], j0m), j0, j0, (.aload_n 0, 1, 0, 0, 0, 0, [], j0m), (.getfield 100, 3, 11, 16, 0, 16, [3002], j0m), j0, j0, (.iload_n 1, 1, 1, 0, 0, 0, [], j0m), (.iadd, 1, 0, 0, 0, 0, [], j0m), 
  (.goto 4, 3, 0, 22, 0, 0, [], j0m), j0, j0, (.iconst (-1), 1, 0, 0, 0, 0, [], j0m), (.ireturn, 1, 0, 0, 0, 0, [], j0m)]
set_option maxRecDepth 20000 in
theorem t_WordPlaces_begun : okT m_WordPlaces_begun k_WordPlaces_begun = true := by decide +kernel
def k_WordPlaces_print : List jO := [
  (.iload_n 1, 1, 1, 0, 0, 0, [], j0m), (.invokestatic 158, 3, 0, 1, 0, 0, [4028, 4029, 1001, 4030], m_WordPlaces_isEdition), j0, j0, (.ifCond .eq 14, 3, 0, 18, 0, 0, [], j0m), j0, j0, (.iload_n 2, 1, 2, 0, 0, 0, [], j0m), 
  (.iconst 5, 1, 0, 0, 0, 0, [], j0m), (.if_icmp .lt 9, 3, 0, 18, 0, 0, [], j0m), j0, j0, (.iload_n 2, 1, 2, 0, 0, 0, [], j0m), (.bipush 100, 2, 0, 0, 0, 0, [], j0m), j0, (.if_icmp .le 6, 3, 0, 21, 0, 0, [], j0m), 
  j0, j0, (.bipush (-2), 2, 0, 0, 0, 0, [], j0m), j0, (.ireturn, 1, 0, 0, 0, 0, [], j0m), (.aload_n 0, 1, 0, 0, 0, 0, [], j0m), (.iload_n 1, 1, 1, 0, 0, 0, [], j0m), (.invokevirtual 216, 3, 11, 2, 1, 0, [4107, 4109, 16, 1001, 4110], m_WordPlaces_freshWords), 
  j0, j0, (.astore_n 3, 1, 3, 0, 0, 0, [], j0m), (.aload_n 0, 1, 0, 0, 0, 0, [], j0m), (.getfield 106, 3, 11, 18, 0, 18, [3004], j0m), j0, j0, (.iconst (-1), 1, 0, 0, 0, 0, [], j0m), (.invokestatic 116, 3, 0, 2, 0, 0, [2225, 1075, 1006, 1076], m_Arrays_fill), 
  j0, j0, (.iconst 0, 1, 0, 0, 0, 0, [], j0m), (.istore 4, 2, 4, 0, 0, 0, [], j0m), j0, (.iconst 0, 1, 0, 0, 0, 0, [], j0m), (.istore 5, 2, 5, 0, 0, 0, [], j0m), j0, (.iload 5, 2, 5, 0, 0, 0, [], j0m), 
  j0, (.aload_n 0, 1, 0, 0, 0, 0, [], j0m), (.getfield 35, 3, 11, 5, 0, 5, [2231], j0m), j0, j0, (.getfield 243, 3, 1, 1, 0, 1, [2035], j0m), j0, j0, (.if_icmp .ge 102, 3, 0, 152, 0, 0, [], j0m), j0, j0, 
  (.iload 5, 2, 5, 0, 0, 0, [], j0m), j0, (.sipush 600, 3, 0, 0, 0, 0, [], j0m), j0, j0, (.if_icmp .ge 94, 3, 0, 152, 0, 0, [], j0m), j0, j0, (.aload_n 0, 1, 0, 0, 0, 0, [], j0m), (.getfield 35, 3, 11, 5, 0, 5, [2231], j0m), 
  j0, j0, (.getfield 277, 3, 1, 3, 0, 3, [2040], j0m), j0, j0, (.iload 5, 2, 5, 0, 0, 0, [], j0m), j0, (.iaload, 1, 0, 0, 0, 0, [], j0m), (.istore 6, 2, 6, 0, 0, 0, [], j0m), j0, (.aload_n 0, 1, 0, 0, 0, 0, [], j0m), 
  (.aload_n 3, 1, 3, 0, 0, 0, [], j0m), (.iload 6, 2, 6, 0, 0, 0, [], j0m), j0, (.invokevirtual 411, 3, 11, 3, 1, 0, [6050, 6052, 53, 1001, 6053], m_WordPlaces_rowsOf), j0, j0, (.istore 7, 2, 7, 0, 0, 0, [], j0m), 
  j0, (.iload 7, 2, 7, 0, 0, 0, [], j0m), j0, (.ifCond .le 62, 3, 0, 146, 0, 0, [], j0m), j0, j0, (.aload_n 0, 1, 0, 0, 0, 0, [], j0m), (.getfield 35, 3, 11, 5, 0, 5, [2231], j0m), j0, j0, (.iload 6, 2, 6, 0, 0, 0, [], j0m), 
  j0, (.invokevirtual 246, 3, 1, 2, 1, 0, [4199, 4200, 4201, 1007, 4202], m_Book_has), j0, j0, (.ifCond .eq 50, 3, 0, 146, 0, 0, [], j0m), j0, j0, (.iload 4, 2, 4, 0, 0, 0, [], j0m), j0, (.iload_n 2, 1, 2, 0, 0, 0, [], j0m), 
  (.irem, 1, 0, 0, 0, 0, [], j0m), (.istore 8, 2, 8, 0, 0, 0, [], j0m), j0, (.iload 8, 2, 8, 0, 0, 0, [], j0m), j0, (.ifCond .le 21, 3, 0, 128, 0, 0, [], j0m), j0, j0, (.iload 8, 2, 8, 0, 0, 0, [], j0m), 
  j0, (.iload 7, 2, 7, 0, 0, 0, [], j0m), j0, (.iadd, 1, 0, 0, 0, 0, [], j0m), (.iload_n 2, 1, 2, 0, 0, 0, [], j0m), (.if_icmp .le 12, 3, 0, 128, 0, 0, [], j0m), j0, j0, (.iload 4, 2, 4, 0, 0, 0, [], j0m), 
  j0, (.iload_n 2, 1, 2, 0, 0, 0, [], j0m), (.iload 8, 2, 8, 0, 0, 0, [], j0m), j0, (.isub, 1, 0, 0, 0, 0, [], j0m), (.iadd, 1, 0, 0, 0, 0, [], j0m), (.istore 4, 2, 4, 0, 0, 0, [], j0m), j0, (.aload_n 0, 1, 0, 0, 0, 0, [], j0m), 
  (.getfield 106, 3, 11, 18, 0, 18, [3004], j0m), j0, j0, (.iload 6, 2, 6, 0, 0, 0, [], j0m), j0, (.iload 4, 2, 4, 0, 0, 0, [], j0m), j0, (.iload_n 2, 1, 2, 0, 0, 0, [], j0m), (.idiv, 1, 0, 0, 0, 0, [], j0m), 
  (.iastore, 1, 0, 0, 0, 0, [], j0m), (.iload 4, 2, 4, 0, 0, 0, [], j0m), j0, (.iload 7, 2, 7, 0, 0, 0, [], j0m), j0, (.iadd, 1, 0, 0, 0, 0, [], j0m), (.istore 4, 2, 4, 0, 0, 0, [], j0m), j0, (.iinc 5 1, 3, 5, 0, 0, 0, [], j0m), 
  j0, j0, (.goto (-108), 3, 0, 41, 0, 0, [], j0m), j0, j0, (.iload 4, 2, 4, 0, 0, 0, [], j0m), j0, (.iload_n 2, 1, 2, 0, 0, 0, [], j0m), (.iadd, 1, 0, 0, 0, 0, [], j0m), (.iconst 1, 1, 0, 0, 0, 0, [], j0m), 
  (.isub, 1, 0, 0, 0, 0, [], j0m), (.iload_n 2, 1, 2, 0, 0, 0, [], j0m), (.idiv, 1, 0, 0, 0, 0, [], j0m), (.ireturn, 1, 0, 0, 0, 0, [], j0m)]
set_option maxRecDepth 20000 in
theorem t_WordPlaces_print : okT m_WordPlaces_print k_WordPlaces_print = true := by decide +kernel
def k_WordPlaces_rowsOf : List jO := [
  (.aload_n 0, 1, 0, 0, 0, 0, [], j0m), (.getfield 35, 3, 11, 5, 0, 5, [2231], j0m), j0, j0, (.iload_n 2, 1, 2, 0, 0, 0, [], j0m), (.invokevirtual 246, 3, 1, 2, 1, 0, [4199, 4200, 4201, 1007, 4202], m_Book_has), 
  j0, j0, (.ifCond .eq 49, 3, 0, 57, 0, 0, [], j0m), j0, j0, (.aload_n 1, 1, 1, 0, 0, 0, [], j0m), (.getfield 415, 3, 10, 6, 0, 6, [1232], j0m), j0, j0, (.iload_n 2, 1, 2, 0, 0, 0, [], j0m), (.iaload, 1, 0, 0, 0, 0, [], j0m), 
  (.ifCond .le 40, 3, 0, 57, 0, 0, [], j0m), j0, j0, (.aload_n 0, 1, 0, 0, 0, 0, [], j0m), (.getfield 20, 3, 11, 2, 0, 2, [2228], j0m), j0, j0, (.getfield 66, 3, 2, 0, 0, 0, [1141], j0m), j0, j0, (.aload_n 0, 1, 0, 0, 0, 0, [], j0m), 
  (.getfield 35, 3, 11, 5, 0, 5, [2231], j0m), j0, j0, (.getfield 247, 3, 1, 2, 0, 2, [2038], j0m), j0, j0, (.getfield 250, 3, 4, 0, 0, 0, [1056], j0m), j0, j0, (.iload_n 2, 1, 2, 0, 0, 0, [], j0m), (.laload, 1, 0, 0, 0, 0, [], j0m), 
  (.aload_n 0, 1, 0, 0, 0, 0, [], j0m), (.getfield 35, 3, 11, 5, 0, 5, [2231], j0m), j0, j0, (.getfield 247, 3, 1, 2, 0, 2, [2038], j0m), j0, j0, (.getfield 256, 3, 4, 1, 0, 1, [1062], j0m), j0, j0, (.iload_n 2, 1, 2, 0, 0, 0, [], j0m), 
  (.laload, 1, 0, 0, 0, 0, [], j0m), (.invokevirtual 270, 3, 7, 3, 1, 0, [4214, 4215, 4216, 1003, 4217], m_Rules_isStop), j0, j0, (.ifCond .eq 5, 3, 0, 59, 0, 0, [], j0m), j0, j0, (.iconst 0, 1, 0, 0, 0, 0, [], j0m), 
  (.ireturn, 1, 0, 0, 0, 0, [], j0m), (.iconst 1, 1, 0, 0, 0, 0, [], j0m), (.aload_n 1, 1, 1, 0, 0, 0, [], j0m), (.getfield 415, 3, 10, 6, 0, 6, [1232], j0m), j0, j0, (.iload_n 2, 1, 2, 0, 0, 0, [], j0m), 
  (.iaload, 1, 0, 0, 0, 0, [], j0m), (.bipush 6, 2, 0, 0, 0, 0, [], j0m), j0, (.iadd, 1, 0, 0, 0, 0, [], j0m), (.iconst 1, 1, 0, 0, 0, 0, [], j0m), (.isub, 1, 0, 0, 0, 0, [], j0m), (.bipush 6, 2, 0, 0, 0, 0, [], j0m), 
  j0, (.idiv, 1, 0, 0, 0, 0, [], j0m), (.iadd, 1, 0, 0, 0, 0, [], j0m), (.ireturn, 1, 0, 0, 0, 0, [], j0m)]
set_option maxRecDepth 20000 in
theorem t_WordPlaces_rowsOf : okT m_WordPlaces_rowsOf k_WordPlaces_rowsOf = true := by decide +kernel
def k_WordPlaces_page : List jO := [
  (.iload_n 1, 1, 1, 0, 0, 0, [], j0m), (.ifCond .lt 19, 3, 0, 20, 0, 0, [], j0m), j0, j0, (.iload_n 1, 1, 1, 0, 0, 0, [], j0m), (.sipush 600, 3, 0, 0, 0, 0, [], j0m), j0, j0, (.if_icmp .ge 12, 3, 0, 20, 0, 0, [], j0m), 
  j0, j0, (.aload_n 0, 1, 0, 0, 0, 0, [], j0m), (.getfield 106, 3, 11, 18, 0, 18, [3004], j0m), j0, j0, (.iload_n 1, 1, 1, 0, 0, 0, [], j0m), (.iaload, 1, 0, 0, 0, 0, [], j0m), (.goto 4, 3, 0, 21, 0, 0, [], j0m), 
  j0, j0, (.iconst (-1), 1, 0, 0, 0, 0, [], j0m), (.ireturn, 1, 0, 0, 0, 0, [], j0m)]
set_option maxRecDepth 20000 in
theorem t_WordPlaces_page : okT m_WordPlaces_page k_WordPlaces_page = true := by decide +kernel
def k_WordPlaces_count : List jO := [
  (.iload_n 1, 1, 1, 0, 0, 0, [], j0m), (.tableswitch 152 0 8 #[51, 69, 87, 98, 109, 120, 125, 133, 141], 51, 0, 0, 0, 0, [], j0m), j0, j0, j0, j0, j0, j0, j0, j0, j0, j0, j0, j0, j0, j0, j0, j0, j0, j0, 
  j0, j0, j0, j0, j0, j0, j0, j0, j0, j0, j0, j0, j0, j0, j0, j0, j0, j0, j0, j0, j0, j0, j0, j0, j0, j0, j0, j0, j0, j0, j0, j0, (.aload_n 0, 1, 0, 0, 0, 0, [], j0m), (.getfield 20, 3, 11, 2, 0, 2, [2228], j0m), 
  j0, j0, (.iconst 0, 1, 0, 0, 0, 0, [], j0m), (.invokevirtual 165, 3, 2, 2, 1, 0, [4035, 4036, 4037, 1002, 4038], m_Image_lineCount), j0, j0, (.aload_n 0, 1, 0, 0, 0, 0, [], j0m), (.getfield 20, 3, 11, 2, 0, 2, [2228], j0m), 
  j0, j0, (.iconst 1, 1, 0, 0, 0, 0, [], j0m), (.invokevirtual 165, 3, 2, 2, 1, 0, [4035, 4036, 4037, 1002, 4038], m_Image_lineCount), j0, j0, (.iadd, 1, 0, 0, 0, 0, [], j0m), (.ireturn, 1, 0, 0, 0, 0, [], j0m), 
  (.aload_n 0, 1, 0, 0, 0, 0, [], j0m), (.getfield 20, 3, 11, 2, 0, 2, [2228], j0m), j0, j0, (.iconst 0, 1, 0, 0, 0, 0, [], j0m), (.invokevirtual 177, 3, 2, 2, 1, 0, [4071, 4072, 4073, 1002, 4074], m_Image_wordCount), 
  j0, j0, (.aload_n 0, 1, 0, 0, 0, 0, [], j0m), (.getfield 20, 3, 11, 2, 0, 2, [2228], j0m), j0, j0, (.iconst 1, 1, 0, 0, 0, 0, [], j0m), (.invokevirtual 177, 3, 2, 2, 1, 0, [4071, 4072, 4073, 1002, 4074], m_Image_wordCount), 
  j0, j0, (.iadd, 1, 0, 0, 0, 0, [], j0m), (.ireturn, 1, 0, 0, 0, 0, [], j0m), (.aload_n 0, 1, 0, 0, 0, 0, [], j0m), (.getfield 20, 3, 11, 2, 0, 2, [2228], j0m), j0, j0, (.getfield 66, 3, 2, 0, 0, 0, [1141], j0m), 
  j0, j0, (.getfield 149, 3, 7, 0, 0, 0, [1079], j0m), j0, j0, (.ireturn, 1, 0, 0, 0, 0, [], j0m), (.aload_n 0, 1, 0, 0, 0, 0, [], j0m), (.getfield 20, 3, 11, 2, 0, 2, [2228], j0m), j0, j0, (.getfield 66, 3, 2, 0, 0, 0, [1141], j0m), 
  j0, j0, (.getfield 418, 3, 7, 5, 0, 5, [1095], j0m), j0, j0, (.ireturn, 1, 0, 0, 0, 0, [], j0m), (.aload_n 0, 1, 0, 0, 0, 0, [], j0m), (.getfield 20, 3, 11, 2, 0, 2, [2228], j0m), j0, j0, (.getfield 66, 3, 2, 0, 0, 0, [1141], j0m), 
  j0, j0, (.getfield 421, 3, 7, 7, 0, 7, [1100], j0m), j0, j0, (.ireturn, 1, 0, 0, 0, 0, [], j0m), (.aload_n 0, 1, 0, 0, 0, 0, [], j0m), (.getfield 13, 3, 11, 1, 0, 1, [2227], j0m), j0, j0, (.ireturn, 1, 0, 0, 0, 0, [], j0m), 
  (.aload_n 0, 1, 0, 0, 0, 0, [], j0m), (.getfield 20, 3, 11, 2, 0, 2, [2228], j0m), j0, j0, (.invokevirtual 424, 3, 2, 1, 1, 0, [6062, 6063, 6064, 1002, 6065], m_Image_slipCount), j0, j0, (.ireturn, 1, 0, 0, 0, 0, [], j0m), 
  (.aload_n 0, 1, 0, 0, 0, 0, [], j0m), (.getfield 112, 3, 11, 19, 0, 19, [3005], j0m), j0, j0, (.invokevirtual 427, 3, 8, 1, 1, 0, [6067, 6068, 6069, 1014, 6070], m_Slots_filled), j0, j0, (.ireturn, 1, 0, 0, 0, 0, [], j0m), 
  (.aload_n 0, 1, 0, 0, 0, 0, [], j0m), (.getfield 20, 3, 11, 2, 0, 2, [2228], j0m), j0, j0, (.getfield 66, 3, 2, 0, 0, 0, [1141], j0m), j0, j0, (.getfield 430, 3, 7, 3, 0, 3, [1090], j0m), j0, j0, (.ireturn, 1, 0, 0, 0, 0, [], j0m), 
  (.iconst (-1), 1, 0, 0, 0, 0, [], j0m), (.ireturn, 1, 0, 0, 0, 0, [], j0m)]
set_option maxRecDepth 20000 in
theorem t_WordPlaces_count : okT m_WordPlaces_count k_WordPlaces_count = true := by decide +kernel
def k_WordPlaces_keep : List jO := [
  (.iload_n 1, 1, 1, 0, 0, 0, [], j0m), (.ifCond .lt 8, 3, 0, 9, 0, 0, [], j0m), j0, j0, (.iload_n 1, 1, 1, 0, 0, 0, [], j0m), (.iconst 3, 1, 0, 0, 0, 0, [], j0m), (.if_icmp .lt 6, 3, 0, 12, 0, 0, [], j0m), 
  j0, j0, (.bipush (-2), 2, 0, 0, 0, 0, [], j0m), j0, (.ireturn, 1, 0, 0, 0, 0, [], j0m), (.aload_n 0, 1, 0, 0, 0, 0, [], j0m), (.getfield 24, 3, 11, 3, 0, 3, [2229], j0m), j0, j0, (.iload_n 1, 1, 1, 0, 0, 0, [], j0m), 
  (.aaload, 1, 0, 0, 0, 0, [], j0m), (.aload_n 0, 1, 0, 0, 0, 0, [], j0m), (.getfield 20, 3, 11, 2, 0, 2, [2228], j0m), j0, j0, (.invokevirtual 433, 3, 2, 2, 1, 0, [6075, 6076, 6077, 1002, 6078], m_Image_copyFrom), 
  j0, j0, (.aload_n 0, 1, 0, 0, 0, 0, [], j0m), (.getfield 28, 3, 11, 4, 0, 4, [2230], j0m), j0, j0, (.iload_n 1, 1, 1, 0, 0, 0, [], j0m), (.iconst 1, 1, 0, 0, 0, 0, [], j0m), (.bastore, 1, 0, 0, 3, 0, [], j0m), 
  (.iconst 0, 1, 0, 0, 0, 0, [], j0m), (.ireturn, 1, 0, 0, 0, 0, [], j0m)]
set_option maxRecDepth 20000 in
theorem t_WordPlaces_keep : okT m_WordPlaces_keep k_WordPlaces_keep = true := by decide +kernel
def k_WordPlaces_back : List jO := [
  (.iload_n 1, 1, 1, 0, 0, 0, [], j0m), (.ifCond .lt 8, 3, 0, 9, 0, 0, [], j0m), j0, j0, (.iload_n 1, 1, 1, 0, 0, 0, [], j0m), (.iconst 3, 1, 0, 0, 0, 0, [], j0m), (.if_icmp .lt 6, 3, 0, 12, 0, 0, [], j0m), 
  j0, j0, (.bipush (-2), 2, 0, 0, 0, 0, [], j0m), j0, (.ireturn, 1, 0, 0, 0, 0, [], j0m), (.aload_n 0, 1, 0, 0, 0, 0, [], j0m), (.getfield 28, 3, 11, 4, 0, 4, [2230], j0m), j0, j0, (.iload_n 1, 1, 1, 0, 0, 0, [], j0m), 
  (.baload, 1, 0, 0, 3, 0, [], j0m), (.ifCond .ne 6, 3, 0, 24, 0, 0, [], j0m), j0, j0, (.bipush (-6), 2, 0, 0, 0, 0, [], j0m), j0, (.ireturn, 1, 0, 0, 0, 0, [], j0m), (.aload_n 0, 1, 0, 0, 0, 0, [], j0m), 
  (.getfield 20, 3, 11, 2, 0, 2, [2228], j0m), j0, j0, (.aload_n 0, 1, 0, 0, 0, 0, [], j0m), (.getfield 24, 3, 11, 3, 0, 3, [2229], j0m), j0, j0, (.iload_n 1, 1, 1, 0, 0, 0, [], j0m), (.aaload, 1, 0, 0, 0, 0, [], j0m), 
  (.invokevirtual 433, 3, 2, 2, 1, 0, [6075, 6076, 6077, 1002, 6078], m_Image_copyFrom), j0, j0, (.aload_n 0, 1, 0, 0, 0, 0, [], j0m), (.invokevirtual 146, 3, 11, 1, 1, 0, [4016, 4018, 13, 1001, 4019], m_WordPlaces_forgetBook), 
  j0, j0, (.iconst 0, 1, 0, 0, 0, 0, [], j0m), (.ireturn, 1, 0, 0, 0, 0, [], j0m)]
set_option maxRecDepth 20000 in
theorem t_WordPlaces_back : okT m_WordPlaces_back k_WordPlaces_back = true := by decide +kernel
def k_WordPlaces_row : List jO := [
  (.aload_n 0, 1, 0, 0, 0, 0, [], j0m), (.getfield 112, 3, 11, 19, 0, 19, [3005], j0m), j0, j0, (.iload_n 1, 1, 1, 0, 0, 0, [], j0m), (.invokevirtual 180, 3, 8, 2, 1, 0, [4083, 4084, 4085, 1014, 4086], m_Slots_isSlot), 
  j0, j0, (.ifCond .eq 18, 3, 0, 26, 0, 0, [], j0m), j0, j0, (.iload_n 2, 1, 2, 0, 0, 0, [], j0m), (.ifCond .lt 14, 3, 0, 26, 0, 0, [], j0m), j0, j0, (.iload_n 2, 1, 2, 0, 0, 0, [], j0m), (.iconst 4, 1, 0, 0, 0, 0, [], j0m), 
  (.if_icmp .ge 9, 3, 0, 26, 0, 0, [], j0m), j0, j0, (.iload_n 3, 1, 3, 0, 0, 0, [], j0m), (.bipush 60, 2, 0, 0, 0, 0, [], j0m), j0, (.if_icmp .le 6, 3, 0, 29, 0, 0, [], j0m), j0, j0, (.bipush (-2), 2, 0, 0, 0, 0, [], j0m), 
  j0, (.ireturn, 1, 0, 0, 0, 0, [], j0m), (.iload_n 3, 1, 3, 0, 0, 0, [], j0m), (.ifCond .ge 6, 3, 0, 36, 0, 0, [], j0m), j0, j0, (.bipush (-3), 2, 0, 0, 0, 0, [], j0m), j0, (.ireturn, 1, 0, 0, 0, 0, [], j0m), 
  (.aload_n 0, 1, 0, 0, 0, 0, [], j0m), (.getfield 112, 3, 11, 19, 0, 19, [3005], j0m), j0, j0, (.iload_n 1, 1, 1, 0, 0, 0, [], j0m), (.iload_n 2, 1, 2, 0, 0, 0, [], j0m), (.iload_n 3, 1, 3, 0, 0, 0, [], j0m), 
  (.invokevirtual 435, 3, 8, 4, 1, 0, [6089, 6090, 6091, 1014, 6092], m_Slots_make), j0, j0, (.iconst 0, 1, 0, 0, 0, 0, [], j0m), (.ireturn, 1, 0, 0, 0, 0, [], j0m)]
set_option maxRecDepth 20000 in
theorem t_WordPlaces_row : okT m_WordPlaces_row k_WordPlaces_row = true := by decide +kernel
def k_Arrays_fill4 : List jO := [
  (.aload_n 0, 1, 0, 0, 0, 0, [], j0m), (.arraylength, 1, 0, 0, 0, 0, [], j0m), (.iload_n 1, 1, 1, 0, 0, 0, [], j0m), (.iload_n 2, 1, 2, 0, 0, 0, [], j0m), (.invokestatic 13, 3, 0, 3, 0, 0, [6096, 6097, 1006, 6098], m_Arrays_rangeCheck), 
  j0, j0, (.iload_n 1, 1, 1, 0, 0, 0, [], j0m), (.istore 5, 2, 5, 0, 0, 0, [], j0m), j0, (.iload 5, 2, 5, 0, 0, 0, [], j0m), j0, (.iload_n 2, 1, 2, 0, 0, 0, [], j0m), (.if_icmp .ge 14, 3, 0, 27, 0, 0, [], j0m), 
  j0, j0, (.aload_n 0, 1, 0, 0, 0, 0, [], j0m), (.iload 5, 2, 5, 0, 0, 0, [], j0m), j0, (.lload_n 3, 1, 3, 0, 0, 0, [], j0m), (.lastore, 1, 0, 0, 0, 0, [], j0m), (.iinc 5 1, 3, 5, 0, 0, 0, [], j0m), j0, 
  j0, (.goto (-14), 3, 0, 10, 0, 0, [], j0m), j0, j0, (.return_, 1, 0, 0, 0, 0, [], j0m)]
set_option maxRecDepth 20000 in
theorem t_Arrays_fill4 : okT m_Arrays_fill4 k_Arrays_fill4 = true := by decide +kernel
def k_Arrays_rangeCheck : List jO := [
  (.iload_n 1, 1, 1, 0, 0, 0, [], j0m), (.iload_n 2, 1, 2, 0, 0, 0, [], j0m), (.if_icmp .le 44, 3, 0, 46, 0, 0, [], j0m), j0, j0, j0, j0, j0, j0, j0, j0, j0, j0, j0, j0, j0, j0, j0, j0, j0, j0, j0, j0, 
  j0, j0, j0, j0, j0, j0, j0, j0, j0, j0, j0, j0, j0, j0, j0, j0, j0, j0, j0, j0, j0, j0, j0, (.iload_n 1, 1, 1, 0, 0, 0, [], j0m), (.ifCond .ge 12, 3, 0, 59, 0, 0, [], j0m), j0, j0, j0, j0, j0, j0, j0, 
  j0, j0, j0, j0, (.iload_n 2, 1, 2, 0, 0, 0, [], j0m), (.iload_n 0, 1, 0, 0, 0, 0, [], j0m), (.if_icmp .le 12, 3, 0, 73, 0, 0, [], j0m), j0, j0, j0, j0, j0, j0, j0, j0, j0, j0, j0, (.return_, 1, 0, 0, 0, 0, [], j0m)
  ]
set_option maxRecDepth 20000 in
theorem t_Arrays_rangeCheck : okT m_Arrays_rangeCheck k_Arrays_rangeCheck = true := by decide +kernel
def k_WordPlaces_write : List jO := [
  (.aload_n 0, 1, 0, 0, 0, 0, [], j0m), (.getfield 112, 3, 11, 19, 0, 19, [3005], j0m), j0, j0, (.iload_n 1, 1, 1, 0, 0, 0, [], j0m), (.invokevirtual 180, 3, 8, 2, 1, 0, [4083, 4084, 4085, 1014, 4086], m_Slots_isSlot), 
  j0, j0, (.ifCond .ne 6, 3, 0, 14, 0, 0, [], j0m), j0, j0, (.bipush (-2), 2, 0, 0, 0, 0, [], j0m), j0, (.ireturn, 1, 0, 0, 0, 0, [], j0m), (.aload_n 0, 1, 0, 0, 0, 0, [], j0m), (.getfield 112, 3, 11, 19, 0, 19, [3005], j0m), 
  j0, j0, (.iload_n 1, 1, 1, 0, 0, 0, [], j0m), (.invokevirtual 183, 3, 8, 2, 1, 0, [4087, 4088, 4089, 1014, 4090], m_Slots_isEmpty), j0, j0, (.ifCond .eq 6, 3, 0, 28, 0, 0, [], j0m), j0, j0, (.bipush (-6), 2, 0, 0, 0, 0, [], j0m), 
  j0, (.ireturn, 1, 0, 0, 0, 0, [], j0m), (.aload_n 0, 1, 0, 0, 0, 0, [], j0m), (.getfield 112, 3, 11, 19, 0, 19, [3005], j0m), j0, j0, (.iload_n 1, 1, 1, 0, 0, 0, [], j0m), (.iload_n 2, 1, 2, 0, 0, 0, [], j0m), 
  (.lload_n 3, 1, 3, 0, 0, 0, [], j0m), (.invokevirtual 439, 3, 8, 4, 1, 0, [6103, 6104, 6105, 1014, 6106], m_Slots_put), j0, j0, (.ifCond .eq 7, 3, 0, 45, 0, 0, [], j0m), j0, j0, (.iconst 0, 1, 0, 0, 0, 0, [], j0m), 
  (.goto 5, 3, 0, 47, 0, 0, [], j0m), j0, j0, (.bipush (-7), 2, 0, 0, 0, 0, [], j0m), j0, (.ireturn, 1, 0, 0, 0, 0, [], j0m)]
set_option maxRecDepth 20000 in
theorem t_WordPlaces_write : okT m_WordPlaces_write k_WordPlaces_write = true := by decide +kernel
def k_WordPlaces_paste : List jO := [
  (.aload_n 0, 1, 0, 0, 0, 0, [], j0m), (.getfield 112, 3, 11, 19, 0, 19, [3005], j0m), j0, j0, (.iload_n 1, 1, 1, 0, 0, 0, [], j0m), (.invokevirtual 180, 3, 8, 2, 1, 0, [4083, 4084, 4085, 1014, 4086], m_Slots_isSlot), 
  j0, j0, (.ifCond .eq 14, 3, 0, 22, 0, 0, [], j0m), j0, j0, (.aload_n 0, 1, 0, 0, 0, 0, [], j0m), (.getfield 112, 3, 11, 19, 0, 19, [3005], j0m), j0, j0, (.iload_n 3, 1, 3, 0, 0, 0, [], j0m), (.invokevirtual 180, 3, 8, 2, 1, 0, [4083, 4084, 4085, 1014, 4086], m_Slots_isSlot), 
  j0, j0, (.ifCond .ne 6, 3, 0, 25, 0, 0, [], j0m), j0, j0, (.bipush (-2), 2, 0, 0, 0, 0, [], j0m), j0, (.ireturn, 1, 0, 0, 0, 0, [], j0m), (.aload_n 0, 1, 0, 0, 0, 0, [], j0m), (.getfield 112, 3, 11, 19, 0, 19, [3005], j0m), 
  j0, j0, (.iload_n 1, 1, 1, 0, 0, 0, [], j0m), (.invokevirtual 183, 3, 8, 2, 1, 0, [4087, 4088, 4089, 1014, 4090], m_Slots_isEmpty), j0, j0, (.ifCond .ne 14, 3, 0, 47, 0, 0, [], j0m), j0, j0, (.aload_n 0, 1, 0, 0, 0, 0, [], j0m), 
  (.getfield 112, 3, 11, 19, 0, 19, [3005], j0m), j0, j0, (.iload_n 3, 1, 3, 0, 0, 0, [], j0m), (.invokevirtual 183, 3, 8, 2, 1, 0, [4087, 4088, 4089, 1014, 4090], m_Slots_isEmpty), j0, j0, (.ifCond .eq 6, 3, 0, 50, 0, 0, [], j0m), 
  j0, j0, (.bipush (-6), 2, 0, 0, 0, 0, [], j0m), j0, (.ireturn, 1, 0, 0, 0, 0, [], j0m), (.aload_n 0, 1, 0, 0, 0, 0, [], j0m), (.getfield 112, 3, 11, 19, 0, 19, [3005], j0m), j0, j0, (.iload_n 1, 1, 1, 0, 0, 0, [], j0m), 
  (.invokevirtual 186, 3, 8, 2, 1, 0, [4092, 4093, 4094, 1014, 4095], m_Slots_widthOf), j0, j0, (.aload_n 0, 1, 0, 0, 0, 0, [], j0m), (.getfield 112, 3, 11, 19, 0, 19, [3005], j0m), j0, j0, (.iload_n 3, 1, 3, 0, 0, 0, [], j0m), 
  (.invokevirtual 186, 3, 8, 2, 1, 0, [4092, 4093, 4094, 1014, 4095], m_Slots_widthOf), j0, j0, (.if_icmp .eq 6, 3, 0, 72, 0, 0, [], j0m), j0, j0, (.bipush (-8), 2, 0, 0, 0, 0, [], j0m), j0, (.ireturn, 1, 0, 0, 0, 0, [], j0m), 
  (.aload_n 0, 1, 0, 0, 0, 0, [], j0m), (.getfield 112, 3, 11, 19, 0, 19, [3005], j0m), j0, j0, (.iload_n 1, 1, 1, 0, 0, 0, [], j0m), (.iload_n 2, 1, 2, 0, 0, 0, [], j0m), (.iload_n 3, 1, 3, 0, 0, 0, [], j0m), 
  (.iload 4, 2, 4, 0, 0, 0, [], j0m), j0, (.iload 5, 2, 5, 0, 0, 0, [], j0m), j0, (.invokevirtual 442, 3, 8, 6, 1, 0, [6114, 6115, 6116, 1014, 6117], m_Slots_move), j0, j0, (.ifCond .eq 7, 3, 0, 93, 0, 0, [], j0m), 
  j0, j0, (.iconst 0, 1, 0, 0, 0, 0, [], j0m), (.goto 5, 3, 0, 95, 0, 0, [], j0m), j0, j0, (.bipush (-7), 2, 0, 0, 0, 0, [], j0m), j0, (.ireturn, 1, 0, 0, 0, 0, [], j0m)]
set_option maxRecDepth 20000 in
theorem t_WordPlaces_paste : okT m_WordPlaces_paste k_WordPlaces_paste = true := by decide +kernel

/-! Code tables -/
def k_WordPlaces_init : List jO := [
  (.aload_n 0, 1, 0, 0, 0, 0, [], j0m), (.invokespecial 1, 3, 0, 1, 0, 0, [1027, 1028, 1029], j0m), j0, j0, (.aload_n 0, 1, 0, 0, 0, 0, [], j0m), (.sipush 400, 3, 0, 0, 0, 0, [], j0m), j0, j0, (.newarray .byte, 2, 0, 0, 2, 0, [1068], j0m), 
  j0, (.putfield 9, 3, 11, 0, 0, 0, [2228], j0m), j0, j0, (.aload_n 0, 1, 0, 0, 0, 0, [], j0m), (.iconst 0, 1, 0, 0, 0, 0, [], j0m), (.putfield 13, 3, 11, 1, 0, 1, [2229], j0m), j0, j0, (.aload_n 0, 1, 0, 0, 0, 0, [], j0m), 
  (.new 17, 3, 2, 7, 0, 0, [1030, 1031, 1002], j0m), j0, j0, (.dup, 1, 0, 0, 0, 0, [], j0m), (.invokespecial 19, 3, 22, 1, 2, 7800, [1002, 1033, 1034], m_Image_init), j0, j0, (.putfield 20, 3, 11, 2, 0, 2, [2230], j0m), 
  j0, j0, (.aload_n 0, 1, 0, 0, 0, 0, [], j0m), (.iconst 3, 1, 0, 0, 0, 0, [], j0m), (.anewarray 17, 3, 0, 0, 0, 0, [1030], j0m), j0, j0, (.dup, 1, 0, 0, 0, 0, [], j0m), (.iconst 0, 1, 0, 0, 0, 0, [], j0m), 
  (.new 17, 3, 2, 7, 0, 0, [1030, 1031, 1002], j0m), j0, j0, (.dup, 1, 0, 0, 0, 0, [], j0m), (.invokespecial 19, 3, 22, 1, 2, 7800, [1002, 1033, 1034], m_Image_init), j0, j0, (.aastore, 1, 2, 0, 0, 0, [], j0m), 
  (.dup, 1, 0, 0, 0, 0, [], j0m), (.iconst 1, 1, 0, 0, 0, 0, [], j0m), (.new 17, 3, 2, 7, 0, 0, [1030, 1031, 1002], j0m), j0, j0, (.dup, 1, 0, 0, 0, 0, [], j0m), (.invokespecial 19, 3, 22, 1, 2, 7800, [1002, 1033, 1034], m_Image_init), 
  j0, j0, (.aastore, 1, 2, 0, 0, 0, [], j0m), (.dup, 1, 0, 0, 0, 0, [], j0m), (.iconst 2, 1, 0, 0, 0, 0, [], j0m), (.new 17, 3, 2, 7, 0, 0, [1030, 1031, 1002], j0m), j0, j0, (.dup, 1, 0, 0, 0, 0, [], j0m), 
  (.invokespecial 19, 3, 22, 1, 2, 7800, [1002, 1033, 1034], m_Image_init), j0, j0, (.aastore, 1, 2, 0, 0, 0, [], j0m), (.putfield 24, 3, 11, 3, 0, 3, [2231], j0m), j0, j0, (.aload_n 0, 1, 0, 0, 0, 0, [], j0m), 
  (.iconst 3, 1, 0, 0, 0, 0, [], j0m), (.newarray .boolean, 2, 0, 0, 3, 0, [1212], j0m), j0, (.putfield 28, 3, 11, 4, 0, 4, [2232], j0m), j0, j0, (.aload_n 0, 1, 0, 0, 0, 0, [], j0m), (.new 32, 3, 1, 7, 0, 0, [1169, 1170, 1007], j0m), 
  j0, j0, (.dup, 1, 0, 0, 0, 0, [], j0m), (.invokespecial 34, 3, 37, 1, 2, 11002, [1007, 1172, 1173], m_Book_init), j0, j0, (.putfield 35, 3, 11, 5, 0, 5, [2233], j0m), j0, j0, (.aload_n 0, 1, 0, 0, 0, 0, [], j0m), 
  (.new 39, 3, 5, 6, 0, 0, [2061, 2062, 1010], j0m), j0, j0, (.dup, 1, 0, 0, 0, 0, [], j0m), (.invokespecial 41, 3, 4, 1, 2, 2402, [1010, 2064, 2065], m_Likeness_init), j0, j0, (.putfield 42, 3, 11, 6, 0, 6, [2234], j0m), 
  j0, j0, (.aload_n 0, 1, 0, 0, 0, 0, [], j0m), (.new 46, 3, 9, 8, 0, 0, [2089, 2090, 1011], j0m), j0, j0, (.dup, 1, 0, 0, 0, 0, [], j0m), (.aload_n 0, 1, 0, 0, 0, 0, [], j0m), (.getfield 9, 3, 11, 0, 0, 0, [2228], j0m), 
  j0, j0, (.invokespecial 48, 3, 0, 2, 1, 0, [2091, 1011, 2092, 2093], m_Tokens_init), j0, j0, (.putfield 51, 3, 11, 7, 0, 7, [2235], j0m), j0, j0, (.aload_n 0, 1, 0, 0, 0, 0, [], j0m), (.new 55, 3, 6, 3, 0, 0, [2125, 2126, 1012], j0m), 
  j0, j0, (.dup, 1, 0, 0, 0, 0, [], j0m), (.aload_n 0, 1, 0, 0, 0, 0, [], j0m), (.getfield 51, 3, 11, 7, 0, 7, [2235], j0m), j0, j0, (.invokespecial 57, 3, 15, 2, 1, 359, [2127, 1012, 2128, 2129], m_RuleReader_init), 
  j0, j0, (.putfield 60, 3, 11, 8, 0, 8, [2236], j0m), j0, j0, (.aload_n 0, 1, 0, 0, 0, 0, [], j0m), (.new 64, 3, 0, 13, 0, 0, [2146, 2147, 1013], j0m), j0, j0, (.dup, 1, 0, 0, 0, 0, [], j0m), (.aload_n 0, 1, 0, 0, 0, 0, [], j0m), 
  (.getfield 51, 3, 11, 7, 0, 7, [2235], j0m), j0, j0, (.aload_n 0, 1, 0, 0, 0, 0, [], j0m), (.getfield 20, 3, 11, 2, 0, 2, [2230], j0m), j0, j0, (.getfield 66, 3, 2, 0, 0, 0, [1141], j0m), j0, j0, (.aload_n 0, 1, 0, 0, 0, 0, [], j0m), 
  (.getfield 35, 3, 11, 5, 0, 5, [2233], j0m), j0, j0, (.invokespecial 70, 3, 21, 4, 1, 5457, [2148, 1013, 2149, 2150], m_Asker_init), j0, j0, (.putfield 73, 3, 11, 9, 0, 9, [2237], j0m), j0, j0, (.aload_n 0, 1, 0, 0, 0, 0, [], j0m), 
  (.new 77, 3, 3, 3, 0, 0, [2204, 1186, 1009], j0m), j0, j0, (.dup, 1, 0, 0, 0, 0, [], j0m), (.invokespecial 79, 3, 0, 1, 2, 0, [1009, 1188, 1189], m_Key_init), j0, j0, (.putfield 80, 3, 11, 10, 0, 10, [2238], j0m), 
  j0, j0, (.aload_n 0, 1, 0, 0, 0, 0, [], j0m), (.bipush 8, 2, 0, 0, 0, 0, [], j0m), j0, (.newarray .int, 2, 0, 0, 1, 0, [1137], j0m), j0, (.putfield 84, 3, 11, 11, 0, 11, [2239], j0m), j0, j0, (.aload_n 0, 1, 0, 0, 0, 0, [], j0m), 
  (.iconst 0, 1, 0, 0, 0, 0, [], j0m), (.putfield 88, 3, 11, 12, 0, 12, [3000], j0m), j0, j0, (.aload_n 0, 1, 0, 0, 0, 0, [], j0m), (.bipush 40, 2, 0, 0, 0, 0, [], j0m), j0, (.newarray .int, 2, 0, 0, 1, 0, [1137], j0m), 
  j0, (.putfield 91, 3, 11, 13, 0, 13, [3001], j0m), j0, j0, (.aload_n 0, 1, 0, 0, 0, 0, [], j0m), (.bipush 40, 2, 0, 0, 0, 0, [], j0m), j0, (.newarray .int, 2, 0, 0, 1, 0, [1137], j0m), j0, (.putfield 94, 3, 11, 14, 0, 14, [3002], j0m), 
  j0, j0, (.aload_n 0, 1, 0, 0, 0, 0, [], j0m), (.iconst 0, 1, 0, 0, 0, 0, [], j0m), (.putfield 97, 3, 11, 15, 0, 15, [3003], j0m), j0, j0, (.aload_n 0, 1, 0, 0, 0, 0, [], j0m), (.iconst 0, 1, 0, 0, 0, 0, [], j0m), 
  (.putfield 100, 3, 11, 16, 0, 16, [3004], j0m), j0, j0, (.aload_n 0, 1, 0, 0, 0, 0, [], j0m), (.iconst 0, 1, 0, 0, 0, 0, [], j0m), (.putfield 103, 3, 11, 17, 0, 17, [3005], j0m), j0, j0, (.aload_n 0, 1, 0, 0, 0, 0, [], j0m), 
  (.sipush 600, 3, 0, 0, 0, 0, [], j0m), j0, j0, (.newarray .int, 2, 0, 0, 1, 0, [1137], j0m), j0, (.putfield 106, 3, 11, 18, 0, 18, [3006], j0m), j0, j0, (.aload_n 0, 1, 0, 0, 0, 0, [], j0m), (.new 109, 3, 8, 4, 0, 0, [2206, 2207, 1014], j0m), 
  j0, j0, (.dup, 1, 0, 0, 0, 0, [], j0m), (.invokespecial 111, 3, 4, 1, 1, 308, [2208, 1014, 2209, 2210], m_Slots_init), j0, j0, (.putfield 112, 3, 11, 19, 0, 19, [3007], j0m), j0, j0, (.aload_n 0, 1, 0, 0, 0, 0, [], j0m), 
  (.getfield 106, 3, 11, 18, 0, 18, [3006], j0m), j0, j0, (.iconst (-1), 1, 0, 0, 0, 0, [], j0m), (.invokestatic 116, 3, 0, 2, 0, 0, [2227, 1075, 1006, 1076], m_Arrays_fill), j0, j0, (.return_, 1, 0, 0, 0, 0, [], j0m)
  ]
set_option maxRecDepth 20000 in
theorem t_WordPlaces_init : okT m_WordPlaces_init k_WordPlaces_init = true := by decide +kernel
def k_Arrays_fill : List jO := [
  (.iconst 0, 1, 0, 0, 0, 0, [], j0m), (.istore_n 2, 1, 2, 0, 0, 0, [], j0m), (.aload_n 0, 1, 0, 0, 0, 0, [], j0m), (.arraylength, 1, 0, 0, 0, 0, [], j0m), (.istore_n 3, 1, 3, 0, 0, 0, [], j0m), (.iload_n 2, 1, 2, 0, 0, 0, [], j0m), 
  (.iload_n 3, 1, 3, 0, 0, 0, [], j0m), (.if_icmp .ge 13, 3, 0, 20, 0, 0, [], j0m), j0, j0, (.aload_n 0, 1, 0, 0, 0, 0, [], j0m), (.iload_n 2, 1, 2, 0, 0, 0, [], j0m), (.iload_n 1, 1, 1, 0, 0, 0, [], j0m), 
  (.iastore, 1, 0, 0, 0, 0, [], j0m), (.iinc 2 1, 3, 2, 0, 0, 0, [], j0m), j0, j0, (.goto (-12), 3, 0, 5, 0, 0, [], j0m), j0, j0, (.return_, 1, 0, 0, 0, 0, [], j0m)]
set_option maxRecDepth 20000 in
theorem t_Arrays_fill : okT m_Arrays_fill k_Arrays_fill = true := by decide +kernel
def k_WordPlaces_feed : List jO := [
  (.aload_n 0, 1, 0, 0, 0, 0, [], j0m), (.getfield 13, 3, 11, 1, 0, 1, [2229], j0m), j0, j0, (.bipush 20, 2, 0, 0, 0, 0, [], j0m), j0, (.iadd, 1, 0, 0, 0, 0, [], j0m), (.sipush 400, 3, 0, 0, 0, 0, [], j0m), 
  j0, j0, (.if_icmp .le 5, 3, 0, 15, 0, 0, [], j0m), j0, j0, (.iconst (-1), 1, 0, 0, 0, 0, [], j0m), (.ireturn, 1, 0, 0, 0, 0, [], j0m), (.aload_n 0, 1, 0, 0, 0, 0, [], j0m), (.iload_n 1, 1, 1, 0, 0, 0, [], j0m), 
  (.invokevirtual 122, 3, 11, 2, 1, 0, [3053, 3055, 0, 1001, 3056], m_WordPlaces_putNumber), j0, j0, (.aload_n 0, 1, 0, 0, 0, 0, [], j0m), (.iload_n 2, 1, 2, 0, 0, 0, [], j0m), (.invokevirtual 122, 3, 11, 2, 1, 0, [3053, 3055, 0, 1001, 3056], m_WordPlaces_putNumber), 
  j0, j0, (.aload_n 0, 1, 0, 0, 0, 0, [], j0m), (.iload_n 3, 1, 3, 0, 0, 0, [], j0m), (.invokevirtual 122, 3, 11, 2, 1, 0, [3053, 3055, 0, 1001, 3056], m_WordPlaces_putNumber), j0, j0, (.aload_n 0, 1, 0, 0, 0, 0, [], j0m), 
  (.iload 4, 2, 4, 0, 0, 0, [], j0m), j0, (.invokevirtual 122, 3, 11, 2, 1, 0, [3053, 3055, 0, 1001, 3056], m_WordPlaces_putNumber), j0, j0, (.aload_n 0, 1, 0, 0, 0, 0, [], j0m), (.iload 5, 2, 5, 0, 0, 0, [], j0m), 
  j0, (.invokevirtual 122, 3, 11, 2, 1, 0, [3053, 3055, 0, 1001, 3056], m_WordPlaces_putNumber), j0, j0, (.aload_n 0, 1, 0, 0, 0, 0, [], j0m), (.getfield 13, 3, 11, 1, 0, 1, [2229], j0m), j0, j0, (.ireturn, 1, 0, 0, 0, 0, [], j0m)
  ]
set_option maxRecDepth 20000 in
theorem t_WordPlaces_feed : okT m_WordPlaces_feed k_WordPlaces_feed = true := by decide +kernel
def k_WordPlaces_putNumber : List jO := [
  (.bipush 24, 2, 0, 0, 0, 0, [], j0m), j0, (.istore_n 2, 1, 2, 0, 0, 0, [], j0m), (.iload_n 2, 1, 2, 0, 0, 0, [], j0m), (.ifCond .lt 42, 3, 0, 46, 0, 0, [], j0m), j0, j0, (.aload_n 0, 1, 0, 0, 0, 0, [], j0m), 
  (.getfield 13, 3, 11, 1, 0, 1, [2229], j0m), j0, j0, (.sipush 400, 3, 0, 0, 0, 0, [], j0m), j0, j0, (.if_icmp .ge 26, 3, 0, 40, 0, 0, [], j0m), j0, j0, (.aload_n 0, 1, 0, 0, 0, 0, [], j0m), (.getfield 9, 3, 11, 0, 0, 0, [2228], j0m), 
  j0, j0, (.aload_n 0, 1, 0, 0, 0, 0, [], j0m), (.getfield 13, 3, 11, 1, 0, 1, [2229], j0m), j0, j0, (.iload_n 1, 1, 1, 0, 0, 0, [], j0m), (.iload_n 2, 1, 2, 0, 0, 0, [], j0m), (.ishr, 1, 0, 0, 0, 0, [], j0m), 
  (.i2b, 1, 0, 0, 0, 0, [], j0m), (.bastore, 1, 0, 0, 2, 0, [], j0m), (.aload_n 0, 1, 0, 0, 0, 0, [], j0m), (.dup, 1, 0, 0, 0, 0, [], j0m), (.getfield 13, 3, 11, 1, 0, 1, [2229], j0m), j0, j0, (.iconst 1, 1, 0, 0, 0, 0, [], j0m), 
  (.iadd, 1, 0, 0, 0, 0, [], j0m), (.putfield 13, 3, 11, 1, 0, 1, [2229], j0m), j0, j0, (.iinc 2 (-8), 3, 2, 0, 0, 0, [], j0m), j0, j0, (.goto (-40), 3, 0, 3, 0, 0, [], j0m), j0, j0, (.return_, 1, 0, 0, 0, 0, [], j0m)
  ]
set_option maxRecDepth 20000 in
theorem t_WordPlaces_putNumber : okT m_WordPlaces_putNumber k_WordPlaces_putNumber = true := by decide +kernel
def k_WordPlaces_end : List jO := [
  (.iload_n 1, 1, 1, 0, 0, 0, [], j0m), (.ifCond .lt 11, 3, 0, 12, 0, 0, [], j0m), j0, j0, (.iload_n 1, 1, 1, 0, 0, 0, [], j0m), (.aload_n 0, 1, 0, 0, 0, 0, [], j0m), (.getfield 13, 3, 11, 1, 0, 1, [2229], j0m), 
  j0, j0, (.if_icmp .le 5, 3, 0, 14, 0, 0, [], j0m), j0, j0, (.iconst (-1), 1, 0, 0, 0, 0, [], j0m), (.ireturn, 1, 0, 0, 0, 0, [], j0m), (.aload_n 0, 1, 0, 0, 0, 0, [], j0m), (.iload_n 1, 1, 1, 0, 0, 0, [], j0m), 
  (.putfield 13, 3, 11, 1, 0, 1, [2229], j0m), j0, j0, (.iload_n 1, 1, 1, 0, 0, 0, [], j0m), (.ireturn, 1, 0, 0, 0, 0, [], j0m)]
set_option maxRecDepth 20000 in
theorem t_WordPlaces_end : okT m_WordPlaces_end k_WordPlaces_end = true := by decide +kernel
def k_WordPlaces_rules : List jO := [
  (.aload_n 0, 1, 0, 0, 0, 0, [], j0m), (.getfield 60, 3, 11, 8, 0, 8, [2236], j0m), j0, j0, (.aload_n 0, 1, 0, 0, 0, 0, [], j0m), (.invokevirtual 126, 3, 11, 1, 1, 0, [3065, 3067, 1, 1001, 3068], m_WordPlaces_takeTape), 
  j0, j0, (.invokevirtual 130, 3, 6, 2, 1, 0, [3069, 3070, 3071, 1012, 3072], m_RuleReader_read), j0, j0, (.ifCond .ne 6, 3, 0, 17, 0, 0, [], j0m), j0, j0, (.bipush (-4), 2, 0, 0, 0, 0, [], j0m), j0, (.ireturn, 1, 0, 0, 0, 0, [], j0m), 
  (.aload_n 0, 1, 0, 0, 0, 0, [], j0m), (.getfield 20, 3, 11, 2, 0, 2, [2230], j0m), j0, j0, (.getfield 66, 3, 2, 0, 0, 0, [1141], j0m), j0, j0, (.aload_n 0, 1, 0, 0, 0, 0, [], j0m), (.getfield 60, 3, 11, 8, 0, 8, [2236], j0m), 
  j0, j0, (.getfield 134, 3, 6, 0, 0, 0, [2136], j0m), j0, j0, (.invokevirtual 137, 3, 7, 2, 1, 0, [4001, 4002, 4003, 1003, 4004], m_Rules_copyFrom), j0, j0, (.aload_n 0, 1, 0, 0, 0, 0, [], j0m), (.invokevirtual 143, 3, 11, 1, 1, 0, [4014, 4016, 12, 1001, 4017], m_WordPlaces_forgetBook), 
  j0, j0, (.aload_n 0, 1, 0, 0, 0, 0, [], j0m), (.getfield 20, 3, 11, 2, 0, 2, [2230], j0m), j0, j0, (.getfield 66, 3, 2, 0, 0, 0, [1141], j0m), j0, j0, (.getfield 146, 3, 7, 0, 0, 0, [1079], j0m), j0, 
  j0, (.ireturn, 1, 0, 0, 0, 0, [], j0m)]
set_option maxRecDepth 20000 in
theorem t_WordPlaces_rules : okT m_WordPlaces_rules k_WordPlaces_rules = true := by decide +kernel
def k_WordPlaces_takeTape : List jO := [
  (.aload_n 0, 1, 0, 0, 0, 0, [], j0m), (.getfield 13, 3, 11, 1, 0, 1, [2229], j0m), j0, j0, (.istore_n 1, 1, 1, 0, 0, 0, [], j0m), (.aload_n 0, 1, 0, 0, 0, 0, [], j0m), (.iconst 0, 1, 0, 0, 0, 0, [], j0m), 
  (.putfield 13, 3, 11, 1, 0, 1, [2229], j0m), j0, j0, (.iload_n 1, 1, 1, 0, 0, 0, [], j0m), (.ireturn, 1, 0, 0, 0, 0, [], j0m)]
set_option maxRecDepth 20000 in
theorem t_WordPlaces_takeTape : okT m_WordPlaces_takeTape k_WordPlaces_takeTape = true := by decide +kernel
def k_WordPlaces_isLetter : List jO := [
  (.iload_n 0, 1, 0, 0, 0, 0, [], j0m), (.bipush 97, 2, 0, 0, 0, 0, [], j0m), j0, (.if_icmp .lt 13, 3, 0, 16, 0, 0, [], j0m), j0, j0, (.iload_n 0, 1, 0, 0, 0, 0, [], j0m), (.bipush 122, 2, 0, 0, 0, 0, [], j0m), 
  j0, (.if_icmp .gt 7, 3, 0, 16, 0, 0, [], j0m), j0, j0, (.iconst 1, 1, 0, 0, 0, 0, [], j0m), (.goto 4, 3, 0, 17, 0, 0, [], j0m), j0, j0, (.iconst 0, 1, 0, 0, 0, 0, [], j0m), (.ireturn, 1, 0, 0, 1, 0, [], j0m)
  ]
set_option maxRecDepth 20000 in
theorem t_WordPlaces_isLetter : okT m_WordPlaces_isLetter k_WordPlaces_isLetter = true := by decide +kernel
def k_Arrays_fill2 : List jO := [
  (.iconst 0, 1, 0, 0, 0, 0, [], j0m), (.istore_n 2, 1, 2, 0, 0, 0, [], j0m), (.aload_n 0, 1, 0, 0, 0, 0, [], j0m), (.arraylength, 1, 0, 0, 0, 0, [], j0m), (.istore_n 3, 1, 3, 0, 0, 0, [], j0m), (.iload_n 2, 1, 2, 0, 0, 0, [], j0m), 
  (.iload_n 3, 1, 3, 0, 0, 0, [], j0m), (.if_icmp .ge 13, 3, 0, 20, 0, 0, [], j0m), j0, j0, (.aload_n 0, 1, 0, 0, 0, 0, [], j0m), (.iload_n 2, 1, 2, 0, 0, 0, [], j0m), (.iload_n 1, 1, 1, 0, 0, 0, [], j0m), 
  (.bastore, 1, 0, 0, 2, 0, [], j0m), (.iinc 2 1, 3, 2, 0, 0, 0, [], j0m), j0, j0, (.goto (-12), 3, 0, 5, 0, 0, [], j0m), j0, j0, (.return_, 1, 0, 0, 0, 0, [], j0m)]
set_option maxRecDepth 20000 in
theorem t_Arrays_fill2 : okT m_Arrays_fill2 k_Arrays_fill2 = true := by decide +kernel
def k_WordPlaces_forgetBook : List jO := [
  (.aload_n 0, 1, 0, 0, 0, 0, [], j0m), (.getfield 35, 3, 11, 5, 0, 5, [2233], j0m), j0, j0, (.iconst 0, 1, 0, 0, 0, 0, [], j0m), (.putfield 202, 3, 1, 0, 0, 0, [2034], j0m), j0, j0, (.aload_n 0, 1, 0, 0, 0, 0, [], j0m), 
  (.getfield 42, 3, 11, 6, 0, 6, [2234], j0m), j0, j0, (.iconst 0, 1, 0, 0, 0, 0, [], j0m), (.putfield 206, 3, 5, 0, 0, 0, [2068], j0m), j0, j0, (.return_, 1, 0, 0, 0, 0, [], j0m)]
set_option maxRecDepth 20000 in
theorem t_WordPlaces_forgetBook : okT m_WordPlaces_forgetBook k_WordPlaces_forgetBook = true := by decide +kernel
def k_WordPlaces_fault : List jO := [
  (.iload_n 1, 1, 1, 0, 0, 0, [], j0m), (.ifCond .ne 11, 3, 0, 12, 0, 0, [], j0m), j0, j0, (.aload_n 0, 1, 0, 0, 0, 0, [], j0m), (.getfield 51, 3, 11, 7, 0, 7, [2235], j0m), j0, j0, (.getfield 149, 3, 9, 6, 0, 6, [2105], j0m), 
  j0, j0, (.ireturn, 1, 0, 0, 0, 0, [], j0m), (.iload_n 1, 1, 1, 0, 0, 0, [], j0m), (.iconst 1, 1, 0, 0, 0, 0, [], j0m), (.if_icmp .ne 13, 3, 0, 27, 0, 0, [], j0m), j0, j0, (.aload_n 0, 1, 0, 0, 0, 0, [], j0m), 
  (.getfield 51, 3, 11, 7, 0, 7, [2235], j0m), j0, j0, (.getfield 152, 3, 9, 7, 0, 7, [2107], j0m), j0, j0, (.goto 4, 3, 0, 28, 0, 0, [], j0m), j0, j0, (.iconst (-1), 1, 0, 0, 0, 0, [], j0m), (.ireturn, 1, 0, 0, 0, 0, [], j0m)
  ]
set_option maxRecDepth 20000 in
theorem t_WordPlaces_fault : okT m_WordPlaces_fault k_WordPlaces_fault = true := by decide +kernel
def k_WordPlaces_line : List jO := [
  (.iload_n 1, 1, 1, 0, 0, 0, [], j0m), (.invokestatic 155, 3, 0, 1, 0, 0, [4026, 4027, 1001, 4028], m_WordPlaces_isEdition), j0, j0, (.ifCond .ne 6, 3, 0, 10, 0, 0, [], j0m), j0, j0, (.bipush (-2), 2, 0, 0, 0, 0, [], j0m), 
  j0, (.ireturn, 1, 0, 0, 0, 0, [], j0m), (.aload_n 0, 1, 0, 0, 0, 0, [], j0m), (.iload_n 1, 1, 1, 0, 0, 0, [], j0m), (.aload_n 0, 1, 0, 0, 0, 0, [], j0m), (.getfield 9, 3, 11, 0, 0, 0, [2228], j0m), j0, 
  j0, (.aload_n 0, 1, 0, 0, 0, 0, [], j0m), (.invokevirtual 126, 3, 11, 1, 1, 0, [3065, 3067, 1, 1001, 3068], m_WordPlaces_takeTape), j0, j0, (.invokevirtual 158, 3, 11, 4, 1, 0, [4029, 4031, 13, 1001, 4032], m_WordPlaces_addLine), 
  j0, j0, (.ireturn, 1, 0, 0, 0, 0, [], j0m)]
set_option maxRecDepth 20000 in
theorem t_WordPlaces_line : okT m_WordPlaces_line k_WordPlaces_line = true := by decide +kernel
def k_WordPlaces_isEdition : List jO := [
  (.iload_n 0, 1, 0, 0, 0, 0, [], j0m), (.ifCond .lt 12, 3, 0, 13, 0, 0, [], j0m), j0, j0, (.iload_n 0, 1, 0, 0, 0, 0, [], j0m), (.iconst 2, 1, 0, 0, 0, 0, [], j0m), (.if_icmp .ge 7, 3, 0, 13, 0, 0, [], j0m), 
  j0, j0, (.iconst 1, 1, 0, 0, 0, 0, [], j0m), (.goto 4, 3, 0, 14, 0, 0, [], j0m), j0, j0, (.iconst 0, 1, 0, 0, 0, 0, [], j0m), (.ireturn, 1, 0, 0, 1, 0, [], j0m)]
set_option maxRecDepth 20000 in
theorem t_WordPlaces_isEdition : okT m_WordPlaces_isEdition k_WordPlaces_isEdition = true := by decide +kernel
def k_WordPlaces_addLine : List jO := [
  (.aload_n 0, 1, 0, 0, 0, 0, [], j0m), (.getfield 20, 3, 11, 2, 0, 2, [2230], j0m), j0, j0, (.iload_n 1, 1, 1, 0, 0, 0, [], j0m), (.invokevirtual 162, 3, 2, 2, 1, 0, [4033, 4034, 4035, 1002, 4036], m_Image_lineCount), 
  j0, j0, (.istore 4, 2, 4, 0, 0, 0, [], j0m), j0, (.aload_n 0, 1, 0, 0, 0, 0, [], j0m), (.iload_n 1, 1, 1, 0, 0, 0, [], j0m), (.iload 4, 2, 4, 0, 0, 0, [], j0m), j0, (.aload_n 2, 1, 2, 0, 0, 0, [], j0m), 
  (.iload_n 3, 1, 3, 0, 0, 0, [], j0m), (.invokevirtual 166, 3, 11, 5, 1, 0, [4038, 4040, 14, 1001, 4041], m_WordPlaces_lineFault), j0, j0, (.istore 5, 2, 5, 0, 0, 0, [], j0m), j0, (.iload 5, 2, 5, 0, 0, 0, [], j0m), 
  j0, (.ifCond .eq 6, 3, 0, 29, 0, 0, [], j0m), j0, j0, (.iload 5, 2, 5, 0, 0, 0, [], j0m), j0, (.ireturn, 1, 0, 0, 0, 0, [], j0m), (.aload_n 0, 1, 0, 0, 0, 0, [], j0m), (.getfield 20, 3, 11, 2, 0, 2, [2230], j0m), 
  j0, j0, (.iload_n 1, 1, 1, 0, 0, 0, [], j0m), (.iload 4, 2, 4, 0, 0, 0, [], j0m), j0, (.aload_n 2, 1, 2, 0, 0, 0, [], j0m), (.iload_n 3, 1, 3, 0, 0, 0, [], j0m), (.invokevirtual 170, 3, 2, 5, 1, 0, [4060, 4061, 4062, 1002, 4063], m_Image_putLine), 
  j0, j0, (.aload_n 0, 1, 0, 0, 0, 0, [], j0m), (.invokevirtual 143, 3, 11, 1, 1, 0, [4014, 4016, 12, 1001, 4017], m_WordPlaces_forgetBook), j0, j0, (.iload 4, 2, 4, 0, 0, 0, [], j0m), j0, (.ireturn, 1, 0, 0, 0, 0, [], j0m)
  ]
set_option maxRecDepth 20000 in
theorem t_WordPlaces_addLine : okT m_WordPlaces_addLine k_WordPlaces_addLine = true := by decide +kernel
def k_WordPlaces_lineFault : List jO := [
  (.aload_n 3, 1, 3, 0, 0, 0, [], j0m), (.iload 4, 2, 4, 0, 0, 0, [], j0m), j0, (.invokestatic 192, 3, 0, 2, 0, 0, [4042, 4043, 1001, 4044], m_WordPlaces_isLineText), j0, j0, (.ifCond .ne 6, 3, 0, 12, 0, 0, [], j0m), 
  j0, j0, (.bipush (-4), 2, 0, 0, 0, 0, [], j0m), j0, (.ireturn, 1, 0, 0, 0, 0, [], j0m), (.iload_n 2, 1, 2, 0, 0, 0, [], j0m), (.bipush 40, 2, 0, 0, 0, 0, [], j0m), j0, (.if_icmp .ge 21, 3, 0, 36, 0, 0, [], j0m), 
  j0, j0, (.aload_n 0, 1, 0, 0, 0, 0, [], j0m), (.getfield 20, 3, 11, 2, 0, 2, [2230], j0m), j0, j0, (.iload_n 1, 1, 1, 0, 0, 0, [], j0m), (.iload_n 2, 1, 2, 0, 0, 0, [], j0m), (.aload_n 3, 1, 3, 0, 0, 0, [], j0m), 
  (.iload 4, 2, 4, 0, 0, 0, [], j0m), j0, (.invokevirtual 196, 3, 2, 5, 1, 0, [4046, 4047, 4048, 1002, 4049], m_Image_wordCountWith), j0, j0, (.sipush 300, 3, 0, 0, 0, 0, [], j0m), j0, j0, (.if_icmp .le 6, 3, 0, 39, 0, 0, [], j0m), 
  j0, j0, (.bipush (-3), 2, 0, 0, 0, 0, [], j0m), j0, (.ireturn, 1, 0, 0, 0, 0, [], j0m), (.iconst 0, 1, 0, 0, 0, 0, [], j0m), (.ireturn, 1, 0, 0, 0, 0, [], j0m)]
set_option maxRecDepth 20000 in
theorem t_WordPlaces_lineFault : okT m_WordPlaces_lineFault k_WordPlaces_lineFault = true := by decide +kernel
def k_WordPlaces_isLineText : List jO := [
  (.iload_n 1, 1, 1, 0, 0, 0, [], j0m), (.bipush 60, 2, 0, 0, 0, 0, [], j0m), j0, (.if_icmp .gt 9, 3, 0, 12, 0, 0, [], j0m), j0, j0, (.iload_n 1, 1, 1, 0, 0, 0, [], j0m), (.aload_n 0, 1, 0, 0, 0, 0, [], j0m), 
  (.arraylength, 1, 0, 0, 0, 0, [], j0m), (.if_icmp .le 5, 3, 0, 14, 0, 0, [], j0m), j0, j0, (.iconst 0, 1, 0, 0, 0, 0, [], j0m), (.ireturn, 1, 0, 0, 1, 0, [], j0m), (.iconst 0, 1, 0, 0, 0, 0, [], j0m), 
  (.istore_n 2, 1, 2, 0, 0, 0, [], j0m), (.iload_n 2, 1, 2, 0, 0, 0, [], j0m), (.iload_n 1, 1, 1, 0, 0, 0, [], j0m), (.if_icmp .ge 36, 3, 0, 54, 0, 0, [], j0m), j0, j0, (.aload_n 0, 1, 0, 0, 0, 0, [], j0m), 
  (.iload_n 2, 1, 2, 0, 0, 0, [], j0m), (.baload, 1, 0, 0, 2, 0, [], j0m), (.invokestatic 199, 3, 0, 1, 0, 0, [4045, 3086, 1001, 3087], m_WordPlaces_isLetter), j0, j0, (.ifCond .ne 21, 3, 0, 48, 0, 0, [], j0m), 
  j0, j0, (.aload_n 0, 1, 0, 0, 0, 0, [], j0m), (.iload_n 2, 1, 2, 0, 0, 0, [], j0m), (.baload, 1, 0, 0, 2, 0, [], j0m), (.bipush 32, 2, 0, 0, 0, 0, [], j0m), j0, (.if_icmp .eq 13, 3, 0, 48, 0, 0, [], j0m), 
  j0, j0, (.aload_n 0, 1, 0, 0, 0, 0, [], j0m), (.iload_n 2, 1, 2, 0, 0, 0, [], j0m), (.baload, 1, 0, 0, 2, 0, [], j0m), (.bipush 45, 2, 0, 0, 0, 0, [], j0m), j0, (.if_icmp .eq 5, 3, 0, 48, 0, 0, [], j0m), 
  j0, j0, (.iconst 0, 1, 0, 0, 0, 0, [], j0m), (.ireturn, 1, 0, 0, 1, 0, [], j0m), (.iinc 2 1, 3, 2, 0, 0, 0, [], j0m), j0, j0, (.goto (-35), 3, 0, 16, 0, 0, [], j0m), j0, j0, (.iconst 1, 1, 0, 0, 0, 0, [], j0m), 
  (.ireturn, 1, 0, 0, 1, 0, [], j0m)]
set_option maxRecDepth 20000 in
theorem t_WordPlaces_isLineText : okT m_WordPlaces_isLineText k_WordPlaces_isLineText = true := by decide +kernel
def k_WordPlaces_right : List jO := [
  (.iload_n 1, 1, 1, 0, 0, 0, [], j0m), (.invokestatic 155, 3, 0, 1, 0, 0, [4026, 4027, 1001, 4028], m_WordPlaces_isEdition), j0, j0, (.ifCond .eq 19, 3, 0, 23, 0, 0, [], j0m), j0, j0, (.iload_n 2, 1, 2, 0, 0, 0, [], j0m), 
  (.ifCond .lt 15, 3, 0, 23, 0, 0, [], j0m), j0, j0, (.iload_n 2, 1, 2, 0, 0, 0, [], j0m), (.aload_n 0, 1, 0, 0, 0, 0, [], j0m), (.getfield 20, 3, 11, 2, 0, 2, [2230], j0m), j0, j0, (.iload_n 1, 1, 1, 0, 0, 0, [], j0m), 
  (.invokevirtual 162, 3, 2, 2, 1, 0, [4033, 4034, 4035, 1002, 4036], m_Image_lineCount), j0, j0, (.if_icmp .lt 6, 3, 0, 26, 0, 0, [], j0m), j0, j0, (.bipush (-2), 2, 0, 0, 0, 0, [], j0m), j0, (.ireturn, 1, 0, 0, 0, 0, [], j0m), 
  (.aload_n 0, 1, 0, 0, 0, 0, [], j0m), (.invokevirtual 126, 3, 11, 1, 1, 0, [3065, 3067, 1, 1001, 3068], m_WordPlaces_takeTape), j0, j0, (.istore_n 3, 1, 3, 0, 0, 0, [], j0m), (.aload_n 0, 1, 0, 0, 0, 0, [], j0m), 
  (.iload_n 1, 1, 1, 0, 0, 0, [], j0m), (.iload_n 2, 1, 2, 0, 0, 0, [], j0m), (.aload_n 0, 1, 0, 0, 0, 0, [], j0m), (.getfield 9, 3, 11, 0, 0, 0, [2228], j0m), j0, j0, (.iload_n 3, 1, 3, 0, 0, 0, [], j0m), 
  (.invokevirtual 166, 3, 11, 5, 1, 0, [4038, 4040, 14, 1001, 4041], m_WordPlaces_lineFault), j0, j0, (.istore 4, 2, 4, 0, 0, 0, [], j0m), j0, (.iload 4, 2, 4, 0, 0, 0, [], j0m), j0, (.ifCond .eq 6, 3, 0, 52, 0, 0, [], j0m), 
  j0, j0, (.iload 4, 2, 4, 0, 0, 0, [], j0m), j0, (.ireturn, 1, 0, 0, 0, 0, [], j0m), (.aload_n 0, 1, 0, 0, 0, 0, [], j0m), (.getfield 20, 3, 11, 2, 0, 2, [2230], j0m), j0, j0, (.iload_n 1, 1, 1, 0, 0, 0, [], j0m), 
  (.iload_n 2, 1, 2, 0, 0, 0, [], j0m), (.aload_n 0, 1, 0, 0, 0, 0, [], j0m), (.getfield 9, 3, 11, 0, 0, 0, [2228], j0m), j0, j0, (.iload_n 3, 1, 3, 0, 0, 0, [], j0m), (.invokevirtual 170, 3, 2, 5, 1, 0, [4060, 4061, 4062, 1002, 4063], m_Image_putLine), 
  j0, j0, (.aload_n 0, 1, 0, 0, 0, 0, [], j0m), (.invokevirtual 143, 3, 11, 1, 1, 0, [4014, 4016, 12, 1001, 4017], m_WordPlaces_forgetBook), j0, j0, (.aload_n 0, 1, 0, 0, 0, 0, [], j0m), (.getfield 20, 3, 11, 2, 0, 2, [2230], j0m), 
  j0, j0, (.iload_n 1, 1, 1, 0, 0, 0, [], j0m), (.invokevirtual 174, 3, 2, 2, 1, 0, [4069, 4070, 4071, 1002, 4072], m_Image_wordCount), j0, j0, (.ireturn, 1, 0, 0, 0, 0, [], j0m)]
set_option maxRecDepth 20000 in
theorem t_WordPlaces_right : okT m_WordPlaces_right k_WordPlaces_right = true := by decide +kernel
def k_WordPlaces_lineOf : List jO := [
  (.iload_n 1, 1, 1, 0, 0, 0, [], j0m), (.invokestatic 155, 3, 0, 1, 0, 0, [4026, 4027, 1001, 4028], m_WordPlaces_isEdition), j0, j0, (.ifCond .eq 14, 3, 0, 18, 0, 0, [], j0m), j0, j0, (.aload_n 0, 1, 0, 0, 0, 0, [], j0m), 
  (.getfield 112, 3, 11, 19, 0, 19, [3007], j0m), j0, j0, (.iload_n 2, 1, 2, 0, 0, 0, [], j0m), (.invokevirtual 177, 3, 8, 2, 1, 0, [4081, 4082, 4083, 1014, 4084], m_Slots_isSlot), j0, j0, (.ifCond .ne 6, 3, 0, 21, 0, 0, [], j0m), 
  j0, j0, (.bipush (-2), 2, 0, 0, 0, 0, [], j0m), j0, (.ireturn, 1, 0, 0, 0, 0, [], j0m), (.aload_n 0, 1, 0, 0, 0, 0, [], j0m), (.getfield 112, 3, 11, 19, 0, 19, [3007], j0m), j0, j0, (.iload_n 2, 1, 2, 0, 0, 0, [], j0m), 
  (.invokevirtual 180, 3, 8, 2, 1, 0, [4085, 4086, 4087, 1014, 4088], m_Slots_isEmpty), j0, j0, (.ifCond .eq 6, 3, 0, 35, 0, 0, [], j0m), j0, j0, (.bipush (-6), 2, 0, 0, 0, 0, [], j0m), j0, (.ireturn, 1, 0, 0, 0, 0, [], j0m), 
  (.aload_n 0, 1, 0, 0, 0, 0, [], j0m), (.getfield 112, 3, 11, 19, 0, 19, [3007], j0m), j0, j0, (.iload_n 2, 1, 2, 0, 0, 0, [], j0m), (.invokevirtual 183, 3, 8, 2, 1, 0, [4090, 4091, 4092, 1014, 4093], m_Slots_widthOf), 
  j0, j0, (.ifCond .eq 6, 3, 0, 49, 0, 0, [], j0m), j0, j0, (.bipush (-8), 2, 0, 0, 0, 0, [], j0m), j0, (.ireturn, 1, 0, 0, 0, 0, [], j0m), (.aload_n 0, 1, 0, 0, 0, 0, [], j0m), (.getfield 112, 3, 11, 19, 0, 19, [3007], j0m), 
  j0, j0, (.iload_n 2, 1, 2, 0, 0, 0, [], j0m), (.invokevirtual 186, 3, 8, 2, 1, 0, [4094, 4095, 4096, 1014, 4097], m_Slots_takeBytes), j0, j0, (.istore_n 3, 1, 3, 0, 0, 0, [], j0m), (.aload_n 0, 1, 0, 0, 0, 0, [], j0m), 
  (.iload_n 1, 1, 1, 0, 0, 0, [], j0m), (.aload_n 0, 1, 0, 0, 0, 0, [], j0m), (.getfield 112, 3, 11, 19, 0, 19, [3007], j0m), j0, j0, (.getfield 189, 3, 8, 3, 0, 3, [2217], j0m), j0, j0, (.iload_n 3, 1, 3, 0, 0, 0, [], j0m), 
  (.invokevirtual 158, 3, 11, 4, 1, 0, [4029, 4031, 13, 1001, 4032], m_WordPlaces_addLine), j0, j0, (.ireturn, 1, 0, 0, 0, 0, [], j0m)]
set_option maxRecDepth 20000 in
theorem t_WordPlaces_lineOf : okT m_WordPlaces_lineOf k_WordPlaces_lineOf = true := by decide +kernel
def k_WordPlaces_edition : List jO := [
  (.iload_n 1, 1, 1, 0, 0, 0, [], j0m), (.invokestatic 155, 3, 0, 1, 0, 0, [4026, 4027, 1001, 4028], m_WordPlaces_isEdition), j0, j0, (.ifCond .ne 6, 3, 0, 10, 0, 0, [], j0m), j0, j0, (.ldc 215, 2, 0, 0, 0, (-2000000000), [4103], j0m), 
  j0, (.ireturn, 1, 0, 0, 0, 0, [], j0m), (.iload_n 2, 1, 2, 0, 0, 0, [], j0m), (.tableswitch 52 0 2 #[25, 34, 43], 25, 0, 0, 0, 0, [], j0m), j0, j0, j0, j0, j0, j0, j0, j0, j0, j0, j0, j0, j0, j0, j0, 
  j0, j0, j0, j0, j0, j0, j0, j0, j0, (.aload_n 0, 1, 0, 0, 0, 0, [], j0m), (.getfield 20, 3, 11, 2, 0, 2, [2230], j0m), j0, j0, (.iload_n 1, 1, 1, 0, 0, 0, [], j0m), (.invokevirtual 162, 3, 2, 2, 1, 0, [4033, 4034, 4035, 1002, 4036], m_Image_lineCount), 
  j0, j0, (.ireturn, 1, 0, 0, 0, 0, [], j0m), (.aload_n 0, 1, 0, 0, 0, 0, [], j0m), (.getfield 20, 3, 11, 2, 0, 2, [2230], j0m), j0, j0, (.iload_n 1, 1, 1, 0, 0, 0, [], j0m), (.invokevirtual 174, 3, 2, 2, 1, 0, [4069, 4070, 4071, 1002, 4072], m_Image_wordCount), 
  j0, j0, (.ireturn, 1, 0, 0, 0, 0, [], j0m), (.aload_n 0, 1, 0, 0, 0, 0, [], j0m), (.iload_n 1, 1, 1, 0, 0, 0, [], j0m), (.invokevirtual 216, 3, 11, 2, 1, 0, [4104, 4106, 15, 1001, 4107], m_WordPlaces_freshWords), 
  j0, j0, (.getfield 219, 3, 10, 9, 0, 9, [1238], j0m), j0, j0, (.ireturn, 1, 0, 0, 0, 0, [], j0m), (.ldc 215, 2, 0, 0, 0, (-2000000000), [4103], j0m), j0, (.ireturn, 1, 0, 0, 0, 0, [], j0m)]
set_option maxRecDepth 20000 in
theorem t_WordPlaces_edition : okT m_WordPlaces_edition k_WordPlaces_edition = true := by decide +kernel
def k_WordPlaces_freshWords : List jO := [
  (.aload_n 0, 1, 0, 0, 0, 0, [], j0m), (.getfield 35, 3, 11, 5, 0, 5, [2233], j0m), j0, j0, (.aload_n 0, 1, 0, 0, 0, 0, [], j0m), (.getfield 20, 3, 11, 2, 0, 2, [2230], j0m), j0, j0, (.invokevirtual 207, 3, 1, 2, 1, 0, [4108, 4109, 4110, 1007, 4111], m_Book_refresh), 
  j0, j0, (.aload_n 0, 1, 0, 0, 0, 0, [], j0m), (.getfield 35, 3, 11, 5, 0, 5, [2233], j0m), j0, j0, (.iload_n 1, 1, 1, 0, 0, 0, [], j0m), (.invokevirtual 211, 3, 1, 2, 1, 0, [4167, 2157, 2158, 1007, 2159], m_Book_wordsOf), 
  j0, j0, (.areturn, 1, 0, 0, 0, 0, [], j0m)]
set_option maxRecDepth 20000 in
theorem t_WordPlaces_freshWords : okT m_WordPlaces_freshWords k_WordPlaces_freshWords = true := by decide +kernel
def k_Long_compare : List jO := [
  (.lload_n 0, 1, 0, 0, 0, 0, [], j0m), (.lload_n 2, 1, 2, 0, 0, 0, [], j0m), (.lcmp, 1, 0, 0, 0, 0, [], j0m), (.ifCond .ge 7, 3, 0, 10, 0, 0, [], j0m), j0, j0, (.iconst (-1), 1, 0, 0, 0, 0, [], j0m), 
  (.goto 14, 3, 0, 21, 0, 0, [], j0m), j0, j0, (.lload_n 0, 1, 0, 0, 0, 0, [], j0m), (.lload_n 2, 1, 2, 0, 0, 0, [], j0m), (.lcmp, 1, 0, 0, 0, 0, [], j0m), (.ifCond .ne 7, 3, 0, 20, 0, 0, [], j0m), j0, 
  j0, (.iconst 0, 1, 0, 0, 0, 0, [], j0m), (.goto 4, 3, 0, 21, 0, 0, [], j0m), j0, j0, (.iconst 1, 1, 0, 0, 0, 0, [], j0m), (.ireturn, 1, 0, 0, 0, 0, [], j0m)]
set_option maxRecDepth 20000 in
theorem t_Long_compare : okT m_Long_compare k_Long_compare = true := by decide +kernel
def k_WordPlaces_word : List jO := [
  (.iload_n 1, 1, 1, 0, 0, 0, [], j0m), (.invokestatic 155, 3, 0, 1, 0, 0, [4026, 4027, 1001, 4028], m_WordPlaces_isEdition), j0, j0, (.ifCond .ne 6, 3, 0, 10, 0, 0, [], j0m), j0, j0, (.ldc 215, 2, 0, 0, 0, (-2000000000), [4103], j0m), 
  j0, (.ireturn, 1, 0, 0, 0, 0, [], j0m), (.aload_n 0, 1, 0, 0, 0, 0, [], j0m), (.iload_n 1, 1, 1, 0, 0, 0, [], j0m), (.invokevirtual 216, 3, 11, 2, 1, 0, [4104, 4106, 15, 1001, 4107], m_WordPlaces_freshWords), 
  j0, j0, (.astore 4, 2, 4, 0, 0, 0, [], j0m), j0, (.iload_n 2, 1, 2, 0, 0, 0, [], j0m), (.ifCond .lt 12, 3, 0, 30, 0, 0, [], j0m), j0, j0, (.iload_n 2, 1, 2, 0, 0, 0, [], j0m), (.aload 4, 2, 4, 0, 0, 0, [], j0m), 
  j0, (.getfield 224, 3, 10, 0, 0, 0, [1217], j0m), j0, j0, (.if_icmp .lt 6, 3, 0, 33, 0, 0, [], j0m), j0, j0, (.ldc 215, 2, 0, 0, 0, (-2000000000), [4103], j0m), j0, (.ireturn, 1, 0, 0, 0, 0, [], j0m), 
  (.iload_n 3, 1, 3, 0, 0, 0, [], j0m), (.tableswitch 62 0 3 #[30, 38, 46, 54], 30, 0, 0, 0, 0, [], j0m), j0, j0, j0, j0, j0, j0, j0, j0, j0, j0, j0, j0, j0, j0, j0, j0, j0, j0, j0, j0, j0, j0, j0, j0, 
  j0, j0, j0, j0, j0, (.aload 4, 2, 4, 0, 0, 0, [], j0m), j0, (.getfield 225, 3, 10, 5, 0, 5, [1232], j0m), j0, j0, (.iload_n 2, 1, 2, 0, 0, 0, [], j0m), (.iaload, 1, 0, 0, 0, 0, [], j0m), (.ireturn, 1, 0, 0, 0, 0, [], j0m), 
  (.aload 4, 2, 4, 0, 0, 0, [], j0m), j0, (.getfield 228, 3, 10, 2, 0, 2, [1224], j0m), j0, j0, (.iload_n 2, 1, 2, 0, 0, 0, [], j0m), (.iaload, 1, 0, 0, 0, 0, [], j0m), (.ireturn, 1, 0, 0, 0, 0, [], j0m), 
  (.aload 4, 2, 4, 0, 0, 0, [], j0m), j0, (.getfield 231, 3, 10, 3, 0, 3, [1227], j0m), j0, j0, (.iload_n 2, 1, 2, 0, 0, 0, [], j0m), (.iaload, 1, 0, 0, 0, 0, [], j0m), (.ireturn, 1, 0, 0, 0, 0, [], j0m), 
  (.aload 4, 2, 4, 0, 0, 0, [], j0m), j0, (.getfield 234, 3, 10, 4, 0, 4, [1229], j0m), j0, j0, (.iload_n 2, 1, 2, 0, 0, 0, [], j0m), (.iaload, 1, 0, 0, 0, 0, [], j0m), (.ireturn, 1, 0, 0, 0, 0, [], j0m), 
  (.ldc 215, 2, 0, 0, 0, (-2000000000), [4103], j0m), j0, (.ireturn, 1, 0, 0, 0, 0, [], j0m)]
set_option maxRecDepth 20000 in
theorem t_WordPlaces_word : okT m_WordPlaces_word k_WordPlaces_word = true := by decide +kernel
def k_WordPlaces_forms : List jO := [
  (.aload_n 0, 1, 0, 0, 0, 0, [], j0m), (.invokevirtual 237, 3, 11, 1, 1, 0, [4176, 4178, 22, 1001, 4179], m_WordPlaces_freshBook), j0, j0, (.getfield 241, 3, 1, 1, 0, 1, [2037], j0m), j0, j0, (.ireturn, 1, 0, 0, 0, 0, [], j0m)
  ]
set_option maxRecDepth 20000 in
theorem t_WordPlaces_forms : okT m_WordPlaces_forms k_WordPlaces_forms = true := by decide +kernel
def k_WordPlaces_freshBook : List jO := [
  (.aload_n 0, 1, 0, 0, 0, 0, [], j0m), (.getfield 35, 3, 11, 5, 0, 5, [2233], j0m), j0, j0, (.aload_n 0, 1, 0, 0, 0, 0, [], j0m), (.getfield 20, 3, 11, 2, 0, 2, [2230], j0m), j0, j0, (.invokevirtual 207, 3, 1, 2, 1, 0, [4108, 4109, 4110, 1007, 4111], m_Book_refresh), 
  j0, j0, (.aload_n 0, 1, 0, 0, 0, 0, [], j0m), (.getfield 35, 3, 11, 5, 0, 5, [2233], j0m), j0, j0, (.areturn, 1, 0, 0, 0, 0, [], j0m)]
set_option maxRecDepth 20000 in
theorem t_WordPlaces_freshBook : okT m_WordPlaces_freshBook k_WordPlaces_freshBook = true := by decide +kernel
def k_WordPlaces_form : List jO := [
  (.aload_n 0, 1, 0, 0, 0, 0, [], j0m), (.invokevirtual 237, 3, 11, 1, 1, 0, [4176, 4178, 22, 1001, 4179], m_WordPlaces_freshBook), j0, j0, (.astore_n 3, 1, 3, 0, 0, 0, [], j0m), (.iload_n 1, 1, 1, 0, 0, 0, [], j0m), 
  (.ifCond .lt 15, 3, 0, 21, 0, 0, [], j0m), j0, j0, (.iload_n 1, 1, 1, 0, 0, 0, [], j0m), (.aload_n 3, 1, 3, 0, 0, 0, [], j0m), (.getfield 241, 3, 1, 1, 0, 1, [2037], j0m), j0, j0, (.if_icmp .ge 7, 3, 0, 21, 0, 0, [], j0m), 
  j0, j0, (.iload_n 2, 1, 2, 0, 0, 0, [], j0m), (.ifCond .ge 6, 3, 0, 24, 0, 0, [], j0m), j0, j0, (.ldc 215, 2, 0, 0, 0, (-2000000000), [4103], j0m), j0, (.ireturn, 1, 0, 0, 0, 0, [], j0m), (.aload_n 3, 1, 3, 0, 0, 0, [], j0m), 
  (.getfield 244, 3, 1, 2, 0, 2, [2040], j0m), j0, j0, (.getfield 247, 3, 4, 0, 0, 0, [1056], j0m), j0, j0, (.iload_n 1, 1, 1, 0, 0, 0, [], j0m), (.laload, 1, 0, 0, 0, 0, [], j0m), (.lstore 4, 2, 4, 0, 0, 0, [], j0m), 
  j0, (.aload_n 3, 1, 3, 0, 0, 0, [], j0m), (.getfield 244, 3, 1, 2, 0, 2, [2040], j0m), j0, j0, (.getfield 253, 3, 4, 1, 0, 1, [1062], j0m), j0, j0, (.iload_n 1, 1, 1, 0, 0, 0, [], j0m), (.laload, 1, 0, 0, 0, 0, [], j0m), 
  (.lstore 6, 2, 6, 0, 0, 0, [], j0m), j0, (.iload_n 2, 1, 2, 0, 0, 0, [], j0m), (.bipush 10, 2, 0, 0, 0, 0, [], j0m), j0, (.if_icmp .lt 32, 3, 0, 81, 0, 0, [], j0m), j0, j0, (.lload 4, 2, 4, 0, 0, 0, [], j0m), 
  j0, (.lload 6, 2, 6, 0, 0, 0, [], j0m), j0, (.iload_n 2, 1, 2, 0, 0, 0, [], j0m), (.bipush 10, 2, 0, 0, 0, 0, [], j0m), j0, (.isub, 1, 0, 0, 0, 0, [], j0m), (.invokestatic 256, 3, 0, 3, 0, 0, [4184, 4185, 1009, 4186], m_Key_letterAt), 
  j0, j0, (.istore 8, 2, 8, 0, 0, 0, [], j0m), j0, (.iload 8, 2, 8, 0, 0, 0, [], j0m), j0, (.iconst (-1), 1, 0, 0, 0, 0, [], j0m), (.if_icmp .ne 7, 3, 0, 75, 0, 0, [], j0m), j0, j0, (.iconst (-1), 1, 0, 0, 0, 0, [], j0m), 
  (.goto 8, 3, 0, 80, 0, 0, [], j0m), j0, j0, (.bipush 97, 2, 0, 0, 0, 0, [], j0m), j0, (.iload 8, 2, 8, 0, 0, 0, [], j0m), j0, (.iadd, 1, 0, 0, 0, 0, [], j0m), (.ireturn, 1, 0, 0, 0, 0, [], j0m), (.iload_n 2, 1, 2, 0, 0, 0, [], j0m), 
  (.tableswitch 102 0 4 #[34, 42, 53, 64, 87], 34, 0, 0, 0, 0, [], j0m), j0, j0, j0, j0, j0, j0, j0, j0, j0, j0, j0, j0, j0, j0, j0, j0, j0, j0, j0, j0, j0, j0, j0, j0, j0, j0, j0, j0, j0, j0, j0, j0, 
  j0, (.lload 4, 2, 4, 0, 0, 0, [], j0m), j0, (.lload 6, 2, 6, 0, 0, 0, [], j0m), j0, (.invokestatic 260, 3, 0, 2, 0, 0, [4187, 4188, 1009, 4189], m_Key_lengthOf), j0, j0, (.ireturn, 1, 0, 0, 0, 0, [], j0m), 
  (.aload_n 3, 1, 3, 0, 0, 0, [], j0m), (.iconst 0, 1, 0, 0, 0, 0, [], j0m), (.invokevirtual 211, 3, 1, 2, 1, 0, [4167, 2157, 2158, 1007, 2159], m_Book_wordsOf), j0, j0, (.getfield 264, 3, 10, 6, 0, 6, [1234], j0m), 
  j0, j0, (.iload_n 1, 1, 1, 0, 0, 0, [], j0m), (.iaload, 1, 0, 0, 0, 0, [], j0m), (.ireturn, 1, 0, 0, 0, 0, [], j0m), (.aload_n 3, 1, 3, 0, 0, 0, [], j0m), (.iconst 1, 1, 0, 0, 0, 0, [], j0m), (.invokevirtual 211, 3, 1, 2, 1, 0, [4167, 2157, 2158, 1007, 2159], m_Book_wordsOf), 
  j0, j0, (.getfield 264, 3, 10, 6, 0, 6, [1234], j0m), j0, j0, (.iload_n 1, 1, 1, 0, 0, 0, [], j0m), (.iaload, 1, 0, 0, 0, 0, [], j0m), (.ireturn, 1, 0, 0, 0, 0, [], j0m), (.aload_n 0, 1, 0, 0, 0, 0, [], j0m), 
  (.getfield 20, 3, 11, 2, 0, 2, [2230], j0m), j0, j0, (.getfield 66, 3, 2, 0, 0, 0, [1141], j0m), j0, j0, (.lload 4, 2, 4, 0, 0, 0, [], j0m), j0, (.lload 6, 2, 6, 0, 0, 0, [], j0m), j0, (.invokevirtual 267, 3, 7, 3, 1, 0, [4191, 4192, 4193, 1003, 4194], m_Rules_isStop), 
  j0, j0, (.ifCond .eq 7, 3, 0, 167, 0, 0, [], j0m), j0, j0, (.iconst 1, 1, 0, 0, 0, 0, [], j0m), (.goto 4, 3, 0, 168, 0, 0, [], j0m), j0, j0, (.iconst 0, 1, 0, 0, 0, 0, [], j0m), (.ireturn, 1, 0, 0, 0, 0, [], j0m), 
  (.aload_n 0, 1, 0, 0, 0, 0, [], j0m), (.getfield 20, 3, 11, 2, 0, 2, [2230], j0m), j0, j0, (.getfield 66, 3, 2, 0, 0, 0, [1141], j0m), j0, j0, (.lload 4, 2, 4, 0, 0, 0, [], j0m), j0, (.lload 6, 2, 6, 0, 0, 0, [], j0m), 
  j0, (.invokevirtual 271, 3, 7, 3, 1, 0, [4199, 4200, 4201, 1003, 4202], m_Rules_rootOf), j0, j0, (.ireturn, 1, 0, 0, 0, 0, [], j0m), (.ldc 215, 2, 0, 0, 0, (-2000000000), [4103], j0m), j0, (.ireturn, 1, 0, 0, 0, 0, [], j0m)
  ]
set_option maxRecDepth 20000 in
theorem t_WordPlaces_form : okT m_WordPlaces_form k_WordPlaces_form = true := by decide +kernel
def k_WordPlaces_ordered : List jO := [
  (.aload_n 0, 1, 0, 0, 0, 0, [], j0m), (.invokevirtual 237, 3, 11, 1, 1, 0, [4176, 4178, 22, 1001, 4179], m_WordPlaces_freshBook), j0, j0, (.astore_n 2, 1, 2, 0, 0, 0, [], j0m), (.iload_n 1, 1, 1, 0, 0, 0, [], j0m), 
  (.ifCond .lt 20, 3, 0, 26, 0, 0, [], j0m), j0, j0, (.iload_n 1, 1, 1, 0, 0, 0, [], j0m), (.aload_n 2, 1, 2, 0, 0, 0, [], j0m), (.getfield 241, 3, 1, 1, 0, 1, [2037], j0m), j0, j0, (.if_icmp .ge 12, 3, 0, 26, 0, 0, [], j0m), 
  j0, j0, (.aload_n 2, 1, 2, 0, 0, 0, [], j0m), (.getfield 274, 3, 1, 3, 0, 3, [2042], j0m), j0, j0, (.iload_n 1, 1, 1, 0, 0, 0, [], j0m), (.iaload, 1, 0, 0, 0, 0, [], j0m), (.goto 4, 3, 0, 27, 0, 0, [], j0m), 
  j0, j0, (.iconst (-1), 1, 0, 0, 0, 0, [], j0m), (.ireturn, 1, 0, 0, 0, 0, [], j0m)]
set_option maxRecDepth 20000 in
theorem t_WordPlaces_ordered : okT m_WordPlaces_ordered k_WordPlaces_ordered = true := by decide +kernel
def k_WordPlaces_ask : List jO := [
  (.iload_n 1, 1, 1, 0, 0, 0, [], j0m), (.invokestatic 155, 3, 0, 1, 0, 0, [4026, 4027, 1001, 4028], m_WordPlaces_isEdition), j0, j0, (.ifCond .ne 6, 3, 0, 10, 0, 0, [], j0m), j0, j0, (.bipush (-2), 2, 0, 0, 0, 0, [], j0m), 
  j0, (.ireturn, 1, 0, 0, 0, 0, [], j0m), (.aload_n 0, 1, 0, 0, 0, 0, [], j0m), (.getfield 35, 3, 11, 5, 0, 5, [2233], j0m), j0, j0, (.aload_n 0, 1, 0, 0, 0, 0, [], j0m), (.getfield 20, 3, 11, 2, 0, 2, [2230], j0m), 
  j0, j0, (.invokevirtual 207, 3, 1, 2, 1, 0, [4108, 4109, 4110, 1007, 4111], m_Book_refresh), j0, j0, (.aload_n 0, 1, 0, 0, 0, 0, [], j0m), (.getfield 73, 3, 11, 9, 0, 9, [2237], j0m), j0, j0, (.iload_n 1, 1, 1, 0, 0, 0, [], j0m), 
  (.aload_n 0, 1, 0, 0, 0, 0, [], j0m), (.invokevirtual 126, 3, 11, 1, 1, 0, [3065, 3067, 1, 1001, 3068], m_WordPlaces_takeTape), j0, j0, (.invokevirtual 277, 3, 0, 3, 1, 0, [4211, 4212, 4213, 1013, 4214], m_Asker_solve), 
  j0, j0, (.ifCond .eq 13, 3, 0, 46, 0, 0, [], j0m), j0, j0, (.aload_n 0, 1, 0, 0, 0, 0, [], j0m), (.getfield 73, 3, 11, 9, 0, 9, [2237], j0m), j0, j0, (.getfield 281, 3, 0, 9, 0, 9, [2170], j0m), j0, 
  j0, (.goto 5, 3, 0, 48, 0, 0, [], j0m), j0, j0, (.bipush (-4), 2, 0, 0, 0, 0, [], j0m), j0, (.ireturn, 1, 0, 0, 0, 0, [], j0m)]
set_option maxRecDepth 20000 in
theorem t_WordPlaces_ask : okT m_WordPlaces_ask k_WordPlaces_ask = true := by decide +kernel
def k_WordPlaces_answer : List jO := [
  (.iload_n 1, 1, 1, 0, 0, 0, [], j0m), (.ifCond .lt 14, 3, 0, 15, 0, 0, [], j0m), j0, j0, (.iload_n 1, 1, 1, 0, 0, 0, [], j0m), (.aload_n 0, 1, 0, 0, 0, 0, [], j0m), (.getfield 73, 3, 11, 9, 0, 9, [2237], j0m), 
  j0, j0, (.getfield 281, 3, 0, 9, 0, 9, [2170], j0m), j0, j0, (.if_icmp .lt 6, 3, 0, 18, 0, 0, [], j0m), j0, j0, (.ldc 215, 2, 0, 0, 0, (-2000000000), [4103], j0m), j0, (.ireturn, 1, 0, 0, 0, 0, [], j0m), 
  (.iload_n 2, 1, 2, 0, 0, 0, [], j0m), (.tableswitch 55 0 2 #[25, 35, 45], 25, 0, 0, 0, 0, [], j0m), j0, j0, j0, j0, j0, j0, j0, j0, j0, j0, j0, j0, j0, j0, j0, j0, j0, j0, j0, j0, j0, j0, j0, j0, (.aload_n 0, 1, 0, 0, 0, 0, [], j0m), 
  (.getfield 73, 3, 11, 9, 0, 9, [2237], j0m), j0, j0, (.getfield 282, 3, 0, 10, 0, 10, [2172], j0m), j0, j0, (.iload_n 1, 1, 1, 0, 0, 0, [], j0m), (.iaload, 1, 0, 0, 0, 0, [], j0m), (.ireturn, 1, 0, 0, 0, 0, [], j0m), 
  (.aload_n 0, 1, 0, 0, 0, 0, [], j0m), (.getfield 73, 3, 11, 9, 0, 9, [2237], j0m), j0, j0, (.getfield 285, 3, 0, 11, 0, 11, [2174], j0m), j0, j0, (.iload_n 1, 1, 1, 0, 0, 0, [], j0m), (.iaload, 1, 0, 0, 0, 0, [], j0m), 
  (.ireturn, 1, 0, 0, 0, 0, [], j0m), (.aload_n 0, 1, 0, 0, 0, 0, [], j0m), (.getfield 73, 3, 11, 9, 0, 9, [2237], j0m), j0, j0, (.getfield 286, 3, 0, 12, 0, 12, [2176], j0m), j0, j0, (.iload_n 1, 1, 1, 0, 0, 0, [], j0m), 
  (.iaload, 1, 0, 0, 0, 0, [], j0m), (.ireturn, 1, 0, 0, 0, 0, [], j0m), (.ldc 215, 2, 0, 0, 0, (-2000000000), [4103], j0m), j0, (.ireturn, 1, 0, 0, 0, 0, [], j0m)]
set_option maxRecDepth 20000 in
theorem t_WordPlaces_answer : okT m_WordPlaces_answer k_WordPlaces_answer = true := by decide +kernel
def k_WordPlaces_stands : List jO := [
  (.iload_n 1, 1, 1, 0, 0, 0, [], j0m), (.invokestatic 155, 3, 0, 1, 0, 0, [4026, 4027, 1001, 4028], m_WordPlaces_isEdition), j0, j0, (.ifCond .eq 11, 3, 0, 15, 0, 0, [], j0m), j0, j0, (.aload_n 0, 1, 0, 0, 0, 0, [], j0m), 
  (.iload_n 2, 1, 2, 0, 0, 0, [], j0m), (.invokevirtual 287, 3, 11, 2, 1, 0, [5078, 5080, 38, 1001, 5081], m_WordPlaces_isForm), j0, j0, (.ifCond .ne 5, 3, 0, 17, 0, 0, [], j0m), j0, j0, (.iconst (-1), 1, 0, 0, 0, 0, [], j0m), 
  (.ireturn, 1, 0, 0, 0, 0, [], j0m), (.aload_n 0, 1, 0, 0, 0, 0, [], j0m), (.iload_n 1, 1, 1, 0, 0, 0, [], j0m), (.invokevirtual 216, 3, 11, 2, 1, 0, [4104, 4106, 15, 1001, 4107], m_WordPlaces_freshWords), 
  j0, j0, (.iload_n 2, 1, 2, 0, 0, 0, [], j0m), (.iload_n 3, 1, 3, 0, 0, 0, [], j0m), (.invokevirtual 290, 3, 10, 3, 1, 0, [5082, 5042, 5043, 1008, 5044], m_Words_placeOf), j0, j0, (.ireturn, 1, 0, 0, 0, 0, [], j0m)
  ]
set_option maxRecDepth 20000 in
theorem t_WordPlaces_stands : okT m_WordPlaces_stands k_WordPlaces_stands = true := by decide +kernel
def k_WordPlaces_isForm : List jO := [
  (.iload_n 1, 1, 1, 0, 0, 0, [], j0m), (.ifCond .lt 18, 3, 0, 19, 0, 0, [], j0m), j0, j0, (.iload_n 1, 1, 1, 0, 0, 0, [], j0m), (.aload_n 0, 1, 0, 0, 0, 0, [], j0m), (.invokevirtual 237, 3, 11, 1, 1, 0, [4176, 4178, 22, 1001, 4179], m_WordPlaces_freshBook), 
  j0, j0, (.getfield 241, 3, 1, 1, 0, 1, [2037], j0m), j0, j0, (.if_icmp .ge 7, 3, 0, 19, 0, 0, [], j0m), j0, j0, (.iconst 1, 1, 0, 0, 0, 0, [], j0m), (.goto 4, 3, 0, 20, 0, 0, [], j0m), j0, j0, (.iconst 0, 1, 0, 0, 0, 0, [], j0m), 
  (.ireturn, 1, 0, 0, 1, 0, [], j0m)]
set_option maxRecDepth 20000 in
theorem t_WordPlaces_isForm : okT m_WordPlaces_isForm k_WordPlaces_isForm = true := by decide +kernel
def k_WordPlaces_pack : List jO := [
  (.iload_n 1, 1, 1, 0, 0, 0, [], j0m), (.invokestatic 155, 3, 0, 1, 0, 0, [4026, 4027, 1001, 4028], m_WordPlaces_isEdition), j0, j0, (.ifCond .eq 22, 3, 0, 26, 0, 0, [], j0m), j0, j0, (.aload_n 0, 1, 0, 0, 0, 0, [], j0m), 
  (.iload_n 2, 1, 2, 0, 0, 0, [], j0m), (.invokevirtual 287, 3, 11, 2, 1, 0, [5078, 5080, 38, 1001, 5081], m_WordPlaces_isForm), j0, j0, (.ifCond .eq 14, 3, 0, 26, 0, 0, [], j0m), j0, j0, (.iload_n 3, 1, 3, 0, 0, 0, [], j0m), 
  (.iconst (-1), 1, 0, 0, 0, 0, [], j0m), (.if_icmp .lt 9, 3, 0, 26, 0, 0, [], j0m), j0, j0, (.iload_n 3, 1, 3, 0, 0, 0, [], j0m), (.bipush 10, 2, 0, 0, 0, 0, [], j0m), j0, (.if_icmp .le 6, 3, 0, 29, 0, 0, [], j0m), 
  j0, j0, (.bipush (-2), 2, 0, 0, 0, 0, [], j0m), j0, (.ireturn, 1, 0, 0, 0, 0, [], j0m), (.aload_n 0, 1, 0, 0, 0, 0, [], j0m), (.iload_n 1, 1, 1, 0, 0, 0, [], j0m), (.invokevirtual 216, 3, 11, 2, 1, 0, [4104, 4106, 15, 1001, 4107], m_WordPlaces_freshWords), 
  j0, j0, (.astore 4, 2, 4, 0, 0, 0, [], j0m), j0, (.iload_n 3, 1, 3, 0, 0, 0, [], j0m), (.iconst (-1), 1, 0, 0, 0, 0, [], j0m), (.if_icmp .ne 12, 3, 0, 50, 0, 0, [], j0m), j0, j0, (.aload 4, 2, 4, 0, 0, 0, [], j0m), 
  j0, (.iload_n 2, 1, 2, 0, 0, 0, [], j0m), (.invokevirtual 294, 3, 10, 2, 1, 0, [5087, 5088, 5089, 1008, 5090], m_Words_leastBits), j0, j0, (.goto 10, 3, 0, 57, 0, 0, [], j0m), j0, j0, (.aload 4, 2, 4, 0, 0, 0, [], j0m), 
  j0, (.iload_n 2, 1, 2, 0, 0, 0, [], j0m), (.iload_n 3, 1, 3, 0, 0, 0, [], j0m), (.invokevirtual 297, 3, 10, 3, 1, 0, [5097, 5092, 5093, 1008, 5094], m_Words_bits), j0, j0, (.ireturn, 1, 0, 0, 0, 0, [], j0m)
  ]
set_option maxRecDepth 20000 in
theorem t_WordPlaces_pack : okT m_WordPlaces_pack k_WordPlaces_pack = true := by decide +kernel
def k_WordPlaces_room : List jO := [
  (.iload_n 1, 1, 1, 0, 0, 0, [], j0m), (.invokestatic 155, 3, 0, 1, 0, 0, [4026, 4027, 1001, 4028], m_WordPlaces_isEdition), j0, j0, (.ifCond .ne 6, 3, 0, 10, 0, 0, [], j0m), j0, j0, (.bipush (-2), 2, 0, 0, 0, 0, [], j0m), 
  j0, (.ireturn, 1, 0, 0, 0, 0, [], j0m), (.aload_n 0, 1, 0, 0, 0, 0, [], j0m), (.iload_n 1, 1, 1, 0, 0, 0, [], j0m), (.invokevirtual 216, 3, 11, 2, 1, 0, [4104, 4106, 15, 1001, 4107], m_WordPlaces_freshWords), 
  j0, j0, (.astore_n 2, 1, 2, 0, 0, 0, [], j0m), (.iconst 0, 1, 0, 0, 0, 0, [], j0m), (.istore_n 3, 1, 3, 0, 0, 0, [], j0m), (.iconst 0, 1, 0, 0, 0, 0, [], j0m), (.istore 4, 2, 4, 0, 0, 0, [], j0m), j0, 
  (.iload 4, 2, 4, 0, 0, 0, [], j0m), j0, (.aload_n 0, 1, 0, 0, 0, 0, [], j0m), (.getfield 35, 3, 11, 5, 0, 5, [2233], j0m), j0, j0, (.getfield 241, 3, 1, 1, 0, 1, [2037], j0m), j0, j0, (.if_icmp .ge 18, 3, 0, 48, 0, 0, [], j0m), 
  j0, j0, (.iload_n 3, 1, 3, 0, 0, 0, [], j0m), (.aload_n 2, 1, 2, 0, 0, 0, [], j0m), (.iload 4, 2, 4, 0, 0, 0, [], j0m), j0, (.invokevirtual 294, 3, 10, 2, 1, 0, [5087, 5088, 5089, 1008, 5090], m_Words_leastBits), 
  j0, j0, (.iadd, 1, 0, 0, 0, 0, [], j0m), (.istore_n 3, 1, 3, 0, 0, 0, [], j0m), (.iinc 4 1, 3, 4, 0, 0, 0, [], j0m), j0, j0, (.goto (-24), 3, 0, 21, 0, 0, [], j0m), j0, j0, (.iload_n 3, 1, 3, 0, 0, 0, [], j0m), 
  (.ireturn, 1, 0, 0, 0, 0, [], j0m)]
set_option maxRecDepth 20000 in
theorem t_WordPlaces_room : okT m_WordPlaces_room k_WordPlaces_room = true := by decide +kernel
def k_WordPlaces_shares : List jO := [
  (.iload_n 1, 1, 1, 0, 0, 0, [], j0m), (.invokestatic 155, 3, 0, 1, 0, 0, [4026, 4027, 1001, 4028], m_WordPlaces_isEdition), j0, j0, (.ifCond .eq 14, 3, 0, 18, 0, 0, [], j0m), j0, j0, (.iload_n 2, 1, 2, 0, 0, 0, [], j0m), 
  (.iconst 1, 1, 0, 0, 0, 0, [], j0m), (.if_icmp .lt 9, 3, 0, 18, 0, 0, [], j0m), j0, j0, (.iload_n 2, 1, 2, 0, 0, 0, [], j0m), (.bipush 8, 2, 0, 0, 0, 0, [], j0m), j0, (.if_icmp .le 6, 3, 0, 21, 0, 0, [], j0m), 
  j0, j0, (.bipush (-2), 2, 0, 0, 0, 0, [], j0m), j0, (.ireturn, 1, 0, 0, 0, 0, [], j0m), (.aload_n 0, 1, 0, 0, 0, 0, [], j0m), (.iload_n 2, 1, 2, 0, 0, 0, [], j0m), (.putfield 88, 3, 11, 12, 0, 12, [3000], j0m), 
  j0, j0, (.aload_n 0, 1, 0, 0, 0, 0, [], j0m), (.iload_n 1, 1, 1, 0, 0, 0, [], j0m), (.invokevirtual 216, 3, 11, 2, 1, 0, [4104, 4106, 15, 1001, 4107], m_WordPlaces_freshWords), j0, j0, (.iload_n 2, 1, 2, 0, 0, 0, [], j0m), 
  (.aload_n 0, 1, 0, 0, 0, 0, [], j0m), (.getfield 20, 3, 11, 2, 0, 2, [2230], j0m), j0, j0, (.iload_n 1, 1, 1, 0, 0, 0, [], j0m), (.invokevirtual 162, 3, 2, 2, 1, 0, [4033, 4034, 4035, 1002, 4036], m_Image_lineCount), 
  j0, j0, (.aload_n 0, 1, 0, 0, 0, 0, [], j0m), (.getfield 84, 3, 11, 11, 0, 11, [2239], j0m), j0, j0, (.invokevirtual 300, 3, 10, 4, 1, 0, [5106, 5107, 5108, 1008, 5109], m_Words_divide), j0, j0, (.ireturn, 1, 0, 0, 0, 0, [], j0m)
  ]
set_option maxRecDepth 20000 in
theorem t_WordPlaces_shares : okT m_WordPlaces_shares k_WordPlaces_shares = true := by decide +kernel
def k_WordPlaces_share : List jO := [
  (.iload_n 1, 1, 1, 0, 0, 0, [], j0m), (.ifCond .lt 20, 3, 0, 21, 0, 0, [], j0m), j0, j0, (.iload_n 1, 1, 1, 0, 0, 0, [], j0m), (.aload_n 0, 1, 0, 0, 0, 0, [], j0m), (.getfield 88, 3, 11, 12, 0, 12, [3000], j0m), 
  j0, j0, (.if_icmp .ge 12, 3, 0, 21, 0, 0, [], j0m), j0, j0, (.aload_n 0, 1, 0, 0, 0, 0, [], j0m), (.getfield 84, 3, 11, 11, 0, 11, [2239], j0m), j0, j0, (.iload_n 1, 1, 1, 0, 0, 0, [], j0m), (.iaload, 1, 0, 0, 0, 0, [], j0m), 
  (.goto 4, 3, 0, 22, 0, 0, [], j0m), j0, j0, (.iconst (-1), 1, 0, 0, 0, 0, [], j0m), (.ireturn, 1, 0, 0, 0, 0, [], j0m)]
set_option maxRecDepth 20000 in
theorem t_WordPlaces_share : okT m_WordPlaces_share k_WordPlaces_share = true := by decide +kernel
def k_WordPlaces_alike : List jO := [
  (.aload_n 0, 1, 0, 0, 0, 0, [], j0m), (.invokevirtual 304, 3, 11, 1, 1, 0, [5122, 5124, 40, 1001, 5125], m_WordPlaces_freshLikeness), j0, j0, (.getfield 308, 3, 5, 1, 0, 1, [2070], j0m), j0, j0, (.ireturn, 1, 0, 0, 0, 0, [], j0m)
  ]
set_option maxRecDepth 20000 in
theorem t_WordPlaces_alike : okT m_WordPlaces_alike k_WordPlaces_alike = true := by decide +kernel
def k_WordPlaces_freshLikeness : List jO := [
  (.aload_n 0, 1, 0, 0, 0, 0, [], j0m), (.getfield 35, 3, 11, 5, 0, 5, [2233], j0m), j0, j0, (.aload_n 0, 1, 0, 0, 0, 0, [], j0m), (.getfield 20, 3, 11, 2, 0, 2, [2230], j0m), j0, j0, (.invokevirtual 207, 3, 1, 2, 1, 0, [4108, 4109, 4110, 1007, 4111], m_Book_refresh), 
  j0, j0, (.aload_n 0, 1, 0, 0, 0, 0, [], j0m), (.getfield 42, 3, 11, 6, 0, 6, [2234], j0m), j0, j0, (.aload_n 0, 1, 0, 0, 0, 0, [], j0m), (.getfield 35, 3, 11, 5, 0, 5, [2233], j0m), j0, j0, (.iconst 0, 1, 0, 0, 0, 0, [], j0m), 
  (.invokevirtual 211, 3, 1, 2, 1, 0, [4167, 2157, 2158, 1007, 2159], m_Book_wordsOf), j0, j0, (.aload_n 0, 1, 0, 0, 0, 0, [], j0m), (.getfield 35, 3, 11, 5, 0, 5, [2233], j0m), j0, j0, (.iconst 1, 1, 0, 0, 0, 0, [], j0m), 
  (.invokevirtual 211, 3, 1, 2, 1, 0, [4167, 2157, 2158, 1007, 2159], m_Book_wordsOf), j0, j0, (.invokevirtual 314, 3, 5, 3, 1, 0, [5126, 5127, 5128, 1010, 5129], m_Likeness_refresh), j0, j0, (.aload_n 0, 1, 0, 0, 0, 0, [], j0m), 
  (.getfield 42, 3, 11, 6, 0, 6, [2234], j0m), j0, j0, (.areturn, 1, 0, 0, 0, 0, [], j0m)]
set_option maxRecDepth 20000 in
theorem t_WordPlaces_freshLikeness : okT m_WordPlaces_freshLikeness k_WordPlaces_freshLikeness = true := by decide +kernel
def k_Arrays_fill3 : List jO := [
  (.iconst 0, 1, 0, 0, 0, 0, [], j0m), (.istore_n 3, 1, 3, 0, 0, 0, [], j0m), (.aload_n 0, 1, 0, 0, 0, 0, [], j0m), (.arraylength, 1, 0, 0, 0, 0, [], j0m), (.istore 4, 2, 4, 0, 0, 0, [], j0m), j0, (.iload_n 3, 1, 3, 0, 0, 0, [], j0m), 
  (.iload 4, 2, 4, 0, 0, 0, [], j0m), j0, (.if_icmp .ge 13, 3, 0, 22, 0, 0, [], j0m), j0, j0, (.aload_n 0, 1, 0, 0, 0, 0, [], j0m), (.iload_n 3, 1, 3, 0, 0, 0, [], j0m), (.lload_n 1, 1, 1, 0, 0, 0, [], j0m), 
  (.lastore, 1, 0, 0, 0, 0, [], j0m), (.iinc 3 1, 3, 3, 0, 0, 0, [], j0m), j0, j0, (.goto (-13), 3, 0, 6, 0, 0, [], j0m), j0, j0, (.return_, 1, 0, 0, 0, 0, [], j0m)]
set_option maxRecDepth 20000 in
theorem t_Arrays_fill3 : okT m_Arrays_fill3 k_Arrays_fill3 = true := by decide +kernel
def k_WordPlaces_matched : List jO := [
  (.aload_n 0, 1, 0, 0, 0, 0, [], j0m), (.invokevirtual 304, 3, 11, 1, 1, 0, [5122, 5124, 40, 1001, 5125], m_WordPlaces_freshLikeness), j0, j0, (.astore_n 2, 1, 2, 0, 0, 0, [], j0m), (.iload_n 1, 1, 1, 0, 0, 0, [], j0m), 
  (.ifCond .lt 27, 3, 0, 33, 0, 0, [], j0m), j0, j0, (.iload_n 1, 1, 1, 0, 0, 0, [], j0m), (.aload_n 0, 1, 0, 0, 0, 0, [], j0m), (.getfield 35, 3, 11, 5, 0, 5, [2233], j0m), j0, j0, (.iconst 0, 1, 0, 0, 0, 0, [], j0m), 
  (.invokevirtual 211, 3, 1, 2, 1, 0, [4167, 2157, 2158, 1007, 2159], m_Book_wordsOf), j0, j0, (.getfield 224, 3, 10, 0, 0, 0, [1217], j0m), j0, j0, (.if_icmp .ge 12, 3, 0, 33, 0, 0, [], j0m), j0, j0, 
  (.aload_n 2, 1, 2, 0, 0, 0, [], j0m), (.getfield 311, 3, 5, 2, 0, 2, [2072], j0m), j0, j0, (.iload_n 1, 1, 1, 0, 0, 0, [], j0m), (.iaload, 1, 0, 0, 0, 0, [], j0m), (.goto 4, 3, 0, 34, 0, 0, [], j0m), 
  j0, j0, (.iconst (-1), 1, 0, 0, 0, 0, [], j0m), (.ireturn, 1, 0, 0, 0, 0, [], j0m)]
set_option maxRecDepth 20000 in
theorem t_WordPlaces_matched : okT m_WordPlaces_matched k_WordPlaces_matched = true := by decide +kernel
def k_WordPlaces_slip : List jO := [
  (.iload_n 1, 1, 1, 0, 0, 0, [], j0m), (.invokestatic 317, 3, 0, 1, 0, 0, [5151, 5152, 1001, 5153], m_WordPlaces_isHand), j0, j0, (.ifCond .eq 19, 3, 0, 23, 0, 0, [], j0m), j0, j0, (.iload_n 2, 1, 2, 0, 0, 0, [], j0m), 
  (.ifCond .lt 15, 3, 0, 23, 0, 0, [], j0m), j0, j0, (.iload_n 2, 1, 2, 0, 0, 0, [], j0m), (.aload_n 0, 1, 0, 0, 0, 0, [], j0m), (.getfield 20, 3, 11, 2, 0, 2, [2230], j0m), j0, j0, (.iconst 0, 1, 0, 0, 0, 0, [], j0m), 
  (.invokevirtual 174, 3, 2, 2, 1, 0, [4069, 4070, 4071, 1002, 4072], m_Image_wordCount), j0, j0, (.if_icmp .lt 6, 3, 0, 26, 0, 0, [], j0m), j0, j0, (.bipush (-2), 2, 0, 0, 0, 0, [], j0m), j0, (.ireturn, 1, 0, 0, 0, 0, [], j0m), 
  (.aload_n 0, 1, 0, 0, 0, 0, [], j0m), (.invokevirtual 126, 3, 11, 1, 1, 0, [3065, 3067, 1, 1001, 3068], m_WordPlaces_takeTape), j0, j0, (.istore_n 3, 1, 3, 0, 0, 0, [], j0m), (.aload_n 0, 1, 0, 0, 0, 0, [], j0m), 
  (.iload_n 3, 1, 3, 0, 0, 0, [], j0m), (.invokevirtual 320, 3, 11, 2, 1, 0, [5154, 5156, 43, 1001, 5157], m_WordPlaces_isOneWord), j0, j0, (.ifCond .ne 6, 3, 0, 42, 0, 0, [], j0m), j0, j0, (.bipush (-4), 2, 0, 0, 0, 0, [], j0m), 
  j0, (.ireturn, 1, 0, 0, 0, 0, [], j0m), (.aload_n 0, 1, 0, 0, 0, 0, [], j0m), (.iconst 0, 1, 0, 0, 0, 0, [], j0m), (.iload_n 3, 1, 3, 0, 0, 0, [], j0m), (.invokevirtual 323, 3, 11, 3, 1, 0, [5158, 5160, 44, 1001, 5161], m_WordPlaces_readLetters), 
  j0, j0, (.aload_n 0, 1, 0, 0, 0, 0, [], j0m), (.getfield 20, 3, 11, 2, 0, 2, [2230], j0m), j0, j0, (.getfield 327, 3, 2, 6, 0, 6, [1152], j0m), j0, j0, (.iload_n 1, 1, 1, 0, 0, 0, [], j0m), (.iload_n 2, 1, 2, 0, 0, 0, [], j0m), 
  (.invokestatic 330, 3, 0, 2, 0, 0, [5164, 5165, 1002, 5166], m_Image_slipAt), j0, j0, (.aload_n 0, 1, 0, 0, 0, 0, [], j0m), (.getfield 80, 3, 11, 10, 0, 10, [2238], j0m), j0, j0, (.getfield 333, 3, 3, 0, 0, 0, [1196], j0m), 
  j0, j0, (.aload_n 0, 1, 0, 0, 0, 0, [], j0m), (.getfield 80, 3, 11, 10, 0, 10, [2238], j0m), j0, j0, (.getfield 336, 3, 3, 1, 0, 1, [1202], j0m), j0, j0, (.invokevirtual 338, 3, 4, 4, 1, 0, [5167, 3197, 3198, 1004, 3199], m_KeyRow_put), 
  j0, j0, (.aload_n 0, 1, 0, 0, 0, 0, [], j0m), (.aload_n 0, 1, 0, 0, 0, 0, [], j0m), (.iconst 0, 1, 0, 0, 0, 0, [], j0m), (.invokevirtual 216, 3, 11, 2, 1, 0, [4104, 4106, 15, 1001, 4107], m_WordPlaces_freshWords), 
  j0, j0, (.iload_n 1, 1, 1, 0, 0, 0, [], j0m), (.iload_n 2, 1, 2, 0, 0, 0, [], j0m), (.invokevirtual 342, 3, 11, 4, 1, 0, [5168, 5170, 45, 1001, 5171], m_WordPlaces_isWrong), j0, j0, (.ifCond .eq 7, 3, 0, 95, 0, 0, [], j0m), 
  j0, j0, (.iconst 0, 1, 0, 0, 0, 0, [], j0m), (.goto 4, 3, 0, 96, 0, 0, [], j0m), j0, j0, (.iconst 1, 1, 0, 0, 0, 0, [], j0m), (.ireturn, 1, 0, 0, 0, 0, [], j0m)]
set_option maxRecDepth 20000 in
theorem t_WordPlaces_slip : okT m_WordPlaces_slip k_WordPlaces_slip = true := by decide +kernel
def k_WordPlaces_isHand : List jO := [
  (.iload_n 0, 1, 0, 0, 0, 0, [], j0m), (.ifCond .lt 12, 3, 0, 13, 0, 0, [], j0m), j0, j0, (.iload_n 0, 1, 0, 0, 0, 0, [], j0m), (.iconst 4, 1, 0, 0, 0, 0, [], j0m), (.if_icmp .ge 7, 3, 0, 13, 0, 0, [], j0m), 
  j0, j0, (.iconst 1, 1, 0, 0, 0, 0, [], j0m), (.goto 4, 3, 0, 14, 0, 0, [], j0m), j0, j0, (.iconst 0, 1, 0, 0, 0, 0, [], j0m), (.ireturn, 1, 0, 0, 1, 0, [], j0m)]
set_option maxRecDepth 20000 in
theorem t_WordPlaces_isHand : okT m_WordPlaces_isHand k_WordPlaces_isHand = true := by decide +kernel
def k_WordPlaces_isOneWord : List jO := [
  (.iload_n 1, 1, 1, 0, 0, 0, [], j0m), (.iconst 1, 1, 0, 0, 0, 0, [], j0m), (.if_icmp .lt 9, 3, 0, 11, 0, 0, [], j0m), j0, j0, (.iload_n 1, 1, 1, 0, 0, 0, [], j0m), (.bipush 20, 2, 0, 0, 0, 0, [], j0m), 
  j0, (.if_icmp .le 5, 3, 0, 13, 0, 0, [], j0m), j0, j0, (.iconst 0, 1, 0, 0, 0, 0, [], j0m), (.ireturn, 1, 0, 0, 1, 0, [], j0m), (.iconst 0, 1, 0, 0, 0, 0, [], j0m), (.istore_n 2, 1, 2, 0, 0, 0, [], j0m), 
  (.iload_n 2, 1, 2, 0, 0, 0, [], j0m), (.iload_n 1, 1, 1, 0, 0, 0, [], j0m), (.if_icmp .ge 23, 3, 0, 40, 0, 0, [], j0m), j0, j0, (.aload_n 0, 1, 0, 0, 0, 0, [], j0m), (.getfield 9, 3, 11, 0, 0, 0, [2228], j0m), 
  j0, j0, (.iload_n 2, 1, 2, 0, 0, 0, [], j0m), (.baload, 1, 0, 0, 2, 0, [], j0m), (.invokestatic 199, 3, 0, 1, 0, 0, [4045, 3086, 1001, 3087], m_WordPlaces_isLetter), j0, j0, (.ifCond .ne 5, 3, 0, 34, 0, 0, [], j0m), 
  j0, j0, (.iconst 0, 1, 0, 0, 0, 0, [], j0m), (.ireturn, 1, 0, 0, 1, 0, [], j0m), (.iinc 2 1, 3, 2, 0, 0, 0, [], j0m), j0, j0, (.goto (-22), 3, 0, 15, 0, 0, [], j0m), j0, j0, (.iconst 1, 1, 0, 0, 0, 0, [], j0m), 
  (.ireturn, 1, 0, 0, 1, 0, [], j0m)]
set_option maxRecDepth 20000 in
theorem t_WordPlaces_isOneWord : okT m_WordPlaces_isOneWord k_WordPlaces_isOneWord = true := by decide +kernel
def k_WordPlaces_readLetters : List jO := [
  (.aload_n 0, 1, 0, 0, 0, 0, [], j0m), (.getfield 80, 3, 11, 10, 0, 10, [2238], j0m), j0, j0, (.invokevirtual 352, 3, 3, 1, 1, 0, [5162, 3189, 3190, 1009, 3191], m_Key_clear), j0, j0, (.iload_n 1, 1, 1, 0, 0, 0, [], j0m), 
  (.istore_n 3, 1, 3, 0, 0, 0, [], j0m), (.iload_n 3, 1, 3, 0, 0, 0, [], j0m), (.iload_n 2, 1, 2, 0, 0, 0, [], j0m), (.if_icmp .ge 44, 3, 0, 55, 0, 0, [], j0m), j0, j0, (.iload_n 3, 1, 3, 0, 0, 0, [], j0m), 
  (.sipush 400, 3, 0, 0, 0, 0, [], j0m), j0, j0, (.if_icmp .ge 37, 3, 0, 55, 0, 0, [], j0m), j0, j0, (.aload_n 0, 1, 0, 0, 0, 0, [], j0m), (.getfield 9, 3, 11, 0, 0, 0, [2228], j0m), j0, j0, (.iload_n 3, 1, 3, 0, 0, 0, [], j0m), 
  (.baload, 1, 0, 0, 2, 0, [], j0m), (.invokestatic 199, 3, 0, 1, 0, 0, [4045, 3086, 1001, 3087], m_WordPlaces_isLetter), j0, j0, (.ifCond .eq 19, 3, 0, 49, 0, 0, [], j0m), j0, j0, (.aload_n 0, 1, 0, 0, 0, 0, [], j0m), 
  (.getfield 80, 3, 11, 10, 0, 10, [2238], j0m), j0, j0, (.aload_n 0, 1, 0, 0, 0, 0, [], j0m), (.getfield 9, 3, 11, 0, 0, 0, [2228], j0m), j0, j0, (.iload_n 3, 1, 3, 0, 0, 0, [], j0m), (.baload, 1, 0, 0, 2, 0, [], j0m), 
  (.bipush 97, 2, 0, 0, 0, 0, [], j0m), j0, (.isub, 1, 0, 0, 0, 0, [], j0m), (.invokevirtual 355, 3, 3, 2, 1, 0, [5163, 3193, 3194, 1009, 3195], m_Key_add), j0, j0, (.iinc 3 1, 3, 3, 0, 0, 0, [], j0m), 
  j0, j0, (.goto (-43), 3, 0, 9, 0, 0, [], j0m), j0, j0, (.return_, 1, 0, 0, 0, 0, [], j0m)]
set_option maxRecDepth 20000 in
theorem t_WordPlaces_readLetters : okT m_WordPlaces_readLetters k_WordPlaces_readLetters = true := by decide +kernel
def k_WordPlaces_isWrong : List jO := [
  (.iload_n 2, 1, 2, 0, 0, 0, [], j0m), (.iload_n 3, 1, 3, 0, 0, 0, [], j0m), (.invokestatic 330, 3, 0, 2, 0, 0, [5164, 5165, 1002, 5166], m_Image_slipAt), j0, j0, (.istore 4, 2, 4, 0, 0, 0, [], j0m), 
  j0, (.iload_n 3, 1, 3, 0, 0, 0, [], j0m), (.aload_n 1, 1, 1, 0, 0, 0, [], j0m), (.getfield 224, 3, 10, 0, 0, 0, [1217], j0m), j0, j0, (.if_icmp .ge 32, 3, 0, 44, 0, 0, [], j0m), j0, j0, (.aload_n 1, 1, 1, 0, 0, 0, [], j0m), 
  (.getfield 358, 3, 10, 1, 0, 1, [1221], j0m), j0, j0, (.iload_n 3, 1, 3, 0, 0, 0, [], j0m), (.aload_n 0, 1, 0, 0, 0, 0, [], j0m), (.getfield 20, 3, 11, 2, 0, 2, [2230], j0m), j0, j0, (.iload 4, 2, 4, 0, 0, 0, [], j0m), 
  j0, (.invokevirtual 361, 3, 2, 2, 1, 0, [5172, 5173, 5174, 1002, 5175], m_Image_slipHigh), j0, j0, (.aload_n 0, 1, 0, 0, 0, 0, [], j0m), (.getfield 20, 3, 11, 2, 0, 2, [2230], j0m), j0, j0, (.iload 4, 2, 4, 0, 0, 0, [], j0m), 
  j0, (.invokevirtual 365, 3, 2, 2, 1, 0, [5177, 5178, 5179, 1002, 5180], m_Image_slipLow), j0, j0, (.invokevirtual 368, 3, 4, 4, 1, 0, [5181, 4196, 4197, 1004, 4198], m_KeyRow_holds), j0, j0, (.ifCond .ne 7, 3, 0, 48, 0, 0, [], j0m), 
  j0, j0, (.iconst 1, 1, 0, 0, 0, 0, [], j0m), (.goto 4, 3, 0, 49, 0, 0, [], j0m), j0, j0, (.iconst 0, 1, 0, 0, 0, 0, [], j0m), (.ireturn, 1, 0, 0, 1, 0, [], j0m)]
set_option maxRecDepth 20000 in
theorem t_WordPlaces_isWrong : okT m_WordPlaces_isWrong k_WordPlaces_isWrong = true := by decide +kernel
def k_WordPlaces_hand : List jO := [
  (.iload_n 1, 1, 1, 0, 0, 0, [], j0m), (.invokestatic 317, 3, 0, 1, 0, 0, [5151, 5152, 1001, 5153], m_WordPlaces_isHand), j0, j0, (.ifCond .eq 12, 3, 0, 16, 0, 0, [], j0m), j0, j0, (.iload_n 2, 1, 2, 0, 0, 0, [], j0m), 
  (.ifCond .lt 8, 3, 0, 16, 0, 0, [], j0m), j0, j0, (.iload_n 2, 1, 2, 0, 0, 0, [], j0m), (.iconst 2, 1, 0, 0, 0, 0, [], j0m), (.if_icmp .le 6, 3, 0, 19, 0, 0, [], j0m), j0, j0, (.ldc 215, 2, 0, 0, 0, (-2000000000), [4103], j0m), 
  j0, (.ireturn, 1, 0, 0, 0, 0, [], j0m), (.aload_n 0, 1, 0, 0, 0, 0, [], j0m), (.iconst 0, 1, 0, 0, 0, 0, [], j0m), (.invokevirtual 216, 3, 11, 2, 1, 0, [4104, 4106, 15, 1001, 4107], m_WordPlaces_freshWords), 
  j0, j0, (.astore_n 3, 1, 3, 0, 0, 0, [], j0m), (.iconst 0, 1, 0, 0, 0, 0, [], j0m), (.istore 4, 2, 4, 0, 0, 0, [], j0m), j0, (.iconst 0, 1, 0, 0, 0, 0, [], j0m), (.istore 5, 2, 5, 0, 0, 0, [], j0m), 
  j0, (.aload_n 3, 1, 3, 0, 0, 0, [], j0m), (.getfield 224, 3, 10, 0, 0, 0, [1217], j0m), j0, j0, (.istore 6, 2, 6, 0, 0, 0, [], j0m), j0, (.iconst 0, 1, 0, 0, 0, 0, [], j0m), (.istore 7, 2, 7, 0, 0, 0, [], j0m), 
  j0, (.iload 7, 2, 7, 0, 0, 0, [], j0m), j0, (.sipush 300, 3, 0, 0, 0, 0, [], j0m), j0, j0, (.if_icmp .ge 65, 3, 0, 110, 0, 0, [], j0m), j0, j0, (.aload_n 0, 1, 0, 0, 0, 0, [], j0m), (.getfield 20, 3, 11, 2, 0, 2, [2230], j0m), 
  j0, j0, (.iload_n 1, 1, 1, 0, 0, 0, [], j0m), (.iload 7, 2, 7, 0, 0, 0, [], j0m), j0, (.invokevirtual 372, 3, 2, 3, 1, 0, [5186, 5187, 5188, 1002, 5189], m_Image_hasSlip), j0, j0, (.ifCond .eq 46, 3, 0, 104, 0, 0, [], j0m), 
  j0, j0, (.iinc 4 1, 3, 4, 0, 0, 0, [], j0m), j0, j0, (.iload 5, 2, 5, 0, 0, 0, [], j0m), j0, (.aload_n 0, 1, 0, 0, 0, 0, [], j0m), (.aload_n 3, 1, 3, 0, 0, 0, [], j0m), (.iload_n 1, 1, 1, 0, 0, 0, [], j0m), 
  (.iload 7, 2, 7, 0, 0, 0, [], j0m), j0, (.invokevirtual 342, 3, 11, 4, 1, 0, [5168, 5170, 45, 1001, 5171], m_WordPlaces_isWrong), j0, j0, (.ifCond .eq 7, 3, 0, 81, 0, 0, [], j0m), j0, j0, (.iconst 1, 1, 0, 0, 0, 0, [], j0m), 
  (.goto 4, 3, 0, 82, 0, 0, [], j0m), j0, j0, (.iconst 0, 1, 0, 0, 0, 0, [], j0m), (.iadd, 1, 0, 0, 0, 0, [], j0m), (.istore 5, 2, 5, 0, 0, 0, [], j0m), j0, (.iload 6, 2, 6, 0, 0, 0, [], j0m), j0, (.iload 7, 2, 7, 0, 0, 0, [], j0m), 
  j0, (.aload_n 3, 1, 3, 0, 0, 0, [], j0m), (.getfield 224, 3, 10, 0, 0, 0, [1217], j0m), j0, j0, (.if_icmp .ge 7, 3, 0, 100, 0, 0, [], j0m), j0, j0, (.iconst 1, 1, 0, 0, 0, 0, [], j0m), (.goto 4, 3, 0, 101, 0, 0, [], j0m), 
  j0, j0, (.iconst 0, 1, 0, 0, 0, 0, [], j0m), (.isub, 1, 0, 0, 0, 0, [], j0m), (.istore 6, 2, 6, 0, 0, 0, [], j0m), j0, (.iinc 7 1, 3, 7, 0, 0, 0, [], j0m), j0, j0, (.goto (-67), 3, 0, 40, 0, 0, [], j0m), 
  j0, j0, (.iload_n 2, 1, 2, 0, 0, 0, [], j0m), (.ifCond .ne 6, 3, 0, 117, 0, 0, [], j0m), j0, j0, (.iload 4, 2, 4, 0, 0, 0, [], j0m), j0, (.ireturn, 1, 0, 0, 0, 0, [], j0m), (.iload_n 2, 1, 2, 0, 0, 0, [], j0m), 
  (.iconst 1, 1, 0, 0, 0, 0, [], j0m), (.if_icmp .ne 8, 3, 0, 127, 0, 0, [], j0m), j0, j0, (.iload 5, 2, 5, 0, 0, 0, [], j0m), j0, (.goto 5, 3, 0, 129, 0, 0, [], j0m), j0, j0, (.iload 6, 2, 6, 0, 0, 0, [], j0m), 
  j0, (.ireturn, 1, 0, 0, 0, 0, [], j0m)]
set_option maxRecDepth 20000 in
theorem t_WordPlaces_hand : okT m_WordPlaces_hand k_WordPlaces_hand = true := by decide +kernel
def k_WordPlaces_copied : List jO := [
  (.iload_n 1, 1, 1, 0, 0, 0, [], j0m), (.invokestatic 317, 3, 0, 1, 0, 0, [5151, 5152, 1001, 5153], m_WordPlaces_isHand), j0, j0, (.ifCond .eq 15, 3, 0, 19, 0, 0, [], j0m), j0, j0, (.iload_n 2, 1, 2, 0, 0, 0, [], j0m), 
  (.invokestatic 317, 3, 0, 1, 0, 0, [5151, 5152, 1001, 5153], m_WordPlaces_isHand), j0, j0, (.ifCond .eq 8, 3, 0, 19, 0, 0, [], j0m), j0, j0, (.iload_n 1, 1, 1, 0, 0, 0, [], j0m), (.iload_n 2, 1, 2, 0, 0, 0, [], j0m), 
  (.if_icmp .ne 6, 3, 0, 22, 0, 0, [], j0m), j0, j0, (.bipush (-2), 2, 0, 0, 0, 0, [], j0m), j0, (.ireturn, 1, 0, 0, 0, 0, [], j0m), (.aload_n 0, 1, 0, 0, 0, 0, [], j0m), (.iconst 0, 1, 0, 0, 0, 0, [], j0m), 
  (.invokevirtual 216, 3, 11, 2, 1, 0, [4104, 4106, 15, 1001, 4107], m_WordPlaces_freshWords), j0, j0, (.astore_n 3, 1, 3, 0, 0, 0, [], j0m), (.iconst 0, 1, 0, 0, 0, 0, [], j0m), (.istore 4, 2, 4, 0, 0, 0, [], j0m), 
  j0, (.iconst 0, 1, 0, 0, 0, 0, [], j0m), (.istore 5, 2, 5, 0, 0, 0, [], j0m), j0, (.iload 5, 2, 5, 0, 0, 0, [], j0m), j0, (.sipush 300, 3, 0, 0, 0, 0, [], j0m), j0, j0, (.if_icmp .ge 55, 3, 0, 94, 0, 0, [], j0m), 
  j0, j0, (.aload_n 0, 1, 0, 0, 0, 0, [], j0m), (.getfield 20, 3, 11, 2, 0, 2, [2230], j0m), j0, j0, (.iload_n 1, 1, 1, 0, 0, 0, [], j0m), (.iload 5, 2, 5, 0, 0, 0, [], j0m), j0, (.invokevirtual 372, 3, 2, 3, 1, 0, [5186, 5187, 5188, 1002, 5189], m_Image_hasSlip), 
  j0, j0, (.ifCond .eq 36, 3, 0, 88, 0, 0, [], j0m), j0, j0, (.aload_n 0, 1, 0, 0, 0, 0, [], j0m), (.aload_n 3, 1, 3, 0, 0, 0, [], j0m), (.iload_n 1, 1, 1, 0, 0, 0, [], j0m), (.iload 5, 2, 5, 0, 0, 0, [], j0m), 
  j0, (.invokevirtual 342, 3, 11, 4, 1, 0, [5168, 5170, 45, 1001, 5171], m_WordPlaces_isWrong), j0, j0, (.ifCond .eq 25, 3, 0, 88, 0, 0, [], j0m), j0, j0, (.aload_n 0, 1, 0, 0, 0, 0, [], j0m), (.iload_n 1, 1, 1, 0, 0, 0, [], j0m), 
  (.iload 5, 2, 5, 0, 0, 0, [], j0m), j0, (.invokestatic 330, 3, 0, 2, 0, 0, [5164, 5165, 1002, 5166], m_Image_slipAt), j0, j0, (.iload_n 2, 1, 2, 0, 0, 0, [], j0m), (.iload 5, 2, 5, 0, 0, 0, [], j0m), 
  j0, (.invokestatic 330, 3, 0, 2, 0, 0, [5164, 5165, 1002, 5166], m_Image_slipAt), j0, j0, (.invokevirtual 375, 3, 11, 3, 1, 0, [5196, 5198, 46, 1001, 5199], m_WordPlaces_areAlike), j0, j0, (.ifCond .eq 6, 3, 0, 88, 0, 0, [], j0m), 
  j0, j0, (.iinc 4 1, 3, 4, 0, 0, 0, [], j0m), j0, j0, (.iinc 5 1, 3, 5, 0, 0, 0, [], j0m), j0, j0, (.goto (-57), 3, 0, 34, 0, 0, [], j0m), j0, j0, (.iload 4, 2, 4, 0, 0, 0, [], j0m), j0, (.ireturn, 1, 0, 0, 0, 0, [], j0m)
  ]
set_option maxRecDepth 20000 in
theorem t_WordPlaces_copied : okT m_WordPlaces_copied k_WordPlaces_copied = true := by decide +kernel
def k_WordPlaces_areAlike : List jO := [
  (.aload_n 0, 1, 0, 0, 0, 0, [], j0m), (.getfield 20, 3, 11, 2, 0, 2, [2230], j0m), j0, j0, (.iload_n 1, 1, 1, 0, 0, 0, [], j0m), (.invokevirtual 361, 3, 2, 2, 1, 0, [5172, 5173, 5174, 1002, 5175], m_Image_slipHigh), 
  j0, j0, (.aload_n 0, 1, 0, 0, 0, 0, [], j0m), (.getfield 20, 3, 11, 2, 0, 2, [2230], j0m), j0, j0, (.iload_n 2, 1, 2, 0, 0, 0, [], j0m), (.invokevirtual 361, 3, 2, 2, 1, 0, [5172, 5173, 5174, 1002, 5175], m_Image_slipHigh), 
  j0, j0, (.lcmp, 1, 0, 0, 0, 0, [], j0m), (.ifCond .ne 27, 3, 0, 44, 0, 0, [], j0m), j0, j0, (.aload_n 0, 1, 0, 0, 0, 0, [], j0m), (.getfield 20, 3, 11, 2, 0, 2, [2230], j0m), j0, j0, (.iload_n 1, 1, 1, 0, 0, 0, [], j0m), 
  (.invokevirtual 365, 3, 2, 2, 1, 0, [5177, 5178, 5179, 1002, 5180], m_Image_slipLow), j0, j0, (.aload_n 0, 1, 0, 0, 0, 0, [], j0m), (.getfield 20, 3, 11, 2, 0, 2, [2230], j0m), j0, j0, (.iload_n 2, 1, 2, 0, 0, 0, [], j0m), 
  (.invokevirtual 365, 3, 2, 2, 1, 0, [5177, 5178, 5179, 1002, 5180], m_Image_slipLow), j0, j0, (.lcmp, 1, 0, 0, 0, 0, [], j0m), (.ifCond .ne 7, 3, 0, 44, 0, 0, [], j0m), j0, j0, (.iconst 1, 1, 0, 0, 0, 0, [], j0m), 
  (.goto 4, 3, 0, 45, 0, 0, [], j0m), j0, j0, (.iconst 0, 1, 0, 0, 0, 0, [], j0m), (.ireturn, 1, 0, 0, 1, 0, [], j0m)]
set_option maxRecDepth 20000 in
theorem t_WordPlaces_areAlike : okT m_WordPlaces_areAlike k_WordPlaces_areAlike = true := by decide +kernel
def k_WordPlaces_rank : List jO := [
  (.iload_n 1, 1, 1, 0, 0, 0, [], j0m), (.invokestatic 155, 3, 0, 1, 0, 0, [4026, 4027, 1001, 4028], m_WordPlaces_isEdition), j0, j0, (.ifCond .ne 6, 3, 0, 10, 0, 0, [], j0m), j0, j0, (.bipush (-2), 2, 0, 0, 0, 0, [], j0m), 
  j0, (.ireturn, 1, 0, 0, 0, 0, [], j0m), (.aload_n 0, 1, 0, 0, 0, 0, [], j0m), (.invokevirtual 126, 3, 11, 1, 1, 0, [3065, 3067, 1, 1001, 3068], m_WordPlaces_takeTape), j0, j0, (.istore_n 2, 1, 2, 0, 0, 0, [], j0m), 
  (.aload_n 0, 1, 0, 0, 0, 0, [], j0m), (.iload_n 1, 1, 1, 0, 0, 0, [], j0m), (.invokevirtual 216, 3, 11, 2, 1, 0, [4104, 4106, 15, 1001, 4107], m_WordPlaces_freshWords), j0, j0, (.astore_n 3, 1, 3, 0, 0, 0, [], j0m), 
  (.aload_n 3, 1, 3, 0, 0, 0, [], j0m), (.invokevirtual 378, 3, 10, 1, 1, 0, [5204, 5205, 5206, 1008, 5207], m_Words_clearWorths), j0, j0, (.iconst 0, 1, 0, 0, 0, 0, [], j0m), (.istore 4, 2, 4, 0, 0, 0, [], j0m), 
  j0, (.iload 4, 2, 4, 0, 0, 0, [], j0m), j0, (.iload_n 2, 1, 2, 0, 0, 0, [], j0m), (.if_icmp .ge 88, 3, 0, 119, 0, 0, [], j0m), j0, j0, (.iload 4, 2, 4, 0, 0, 0, [], j0m), j0, (.istore 5, 2, 5, 0, 0, 0, [], j0m), 
  j0, (.iload 4, 2, 4, 0, 0, 0, [], j0m), j0, (.iload_n 2, 1, 2, 0, 0, 0, [], j0m), (.if_icmp .ge 22, 3, 0, 63, 0, 0, [], j0m), j0, j0, (.aload_n 0, 1, 0, 0, 0, 0, [], j0m), (.getfield 9, 3, 11, 0, 0, 0, [2228], j0m), 
  j0, j0, (.iload 4, 2, 4, 0, 0, 0, [], j0m), j0, (.baload, 1, 0, 0, 2, 0, [], j0m), (.invokestatic 199, 3, 0, 1, 0, 0, [4045, 3086, 1001, 3087], m_WordPlaces_isLetter), j0, j0, (.ifCond .eq 9, 3, 0, 63, 0, 0, [], j0m), 
  j0, j0, (.iinc 4 1, 3, 4, 0, 0, 0, [], j0m), j0, j0, (.goto (-22), 3, 0, 38, 0, 0, [], j0m), j0, j0, (.iload 4, 2, 4, 0, 0, 0, [], j0m), j0, (.iload 5, 2, 5, 0, 0, 0, [], j0m), j0, (.if_icmp .le 46, 3, 0, 113, 0, 0, [], j0m), 
  j0, j0, (.aload_n 0, 1, 0, 0, 0, 0, [], j0m), (.iload 5, 2, 5, 0, 0, 0, [], j0m), j0, (.iload 4, 2, 4, 0, 0, 0, [], j0m), j0, (.invokevirtual 381, 3, 11, 3, 1, 0, [5209, 5211, 47, 1001, 5212], m_WordPlaces_readFolded), 
  j0, j0, (.aload_n 3, 1, 3, 0, 0, 0, [], j0m), (.aload_n 0, 1, 0, 0, 0, 0, [], j0m), (.getfield 35, 3, 11, 5, 0, 5, [2233], j0m), j0, j0, (.getfield 244, 3, 1, 2, 0, 2, [2040], j0m), j0, j0, (.aload_n 0, 1, 0, 0, 0, 0, [], j0m), 
  (.getfield 35, 3, 11, 5, 0, 5, [2233], j0m), j0, j0, (.getfield 241, 3, 1, 1, 0, 1, [2037], j0m), j0, j0, (.aload_n 0, 1, 0, 0, 0, 0, [], j0m), (.getfield 80, 3, 11, 10, 0, 10, [2238], j0m), j0, j0, 
  (.getfield 333, 3, 3, 0, 0, 0, [1196], j0m), j0, j0, (.aload_n 0, 1, 0, 0, 0, 0, [], j0m), (.getfield 80, 3, 11, 10, 0, 10, [2238], j0m), j0, j0, (.getfield 336, 3, 3, 1, 0, 1, [1202], j0m), j0, j0, 
  (.invokevirtual 384, 3, 4, 4, 1, 0, [5214, 4141, 4142, 1004, 4143], m_KeyRow_find), j0, j0, (.invokevirtual 388, 3, 10, 2, 1, 0, [5215, 5216, 5217, 1008, 5218], m_Words_addWorths), j0, j0, (.iinc 4 1, 3, 4, 0, 0, 0, [], j0m), 
  j0, j0, (.goto (-88), 3, 0, 28, 0, 0, [], j0m), j0, j0, (.aload_n 0, 1, 0, 0, 0, 0, [], j0m), (.iconst 0, 1, 0, 0, 0, 0, [], j0m), (.putfield 97, 3, 11, 15, 0, 15, [3003], j0m), j0, j0, (.iconst 0, 1, 0, 0, 0, 0, [], j0m), 
  (.istore 4, 2, 4, 0, 0, 0, [], j0m), j0, (.iload 4, 2, 4, 0, 0, 0, [], j0m), j0, (.aload_n 0, 1, 0, 0, 0, 0, [], j0m), (.getfield 20, 3, 11, 2, 0, 2, [2230], j0m), j0, j0, (.iload_n 1, 1, 1, 0, 0, 0, [], j0m), 
  (.invokevirtual 162, 3, 2, 2, 1, 0, [4033, 4034, 4035, 1002, 4036], m_Image_lineCount), j0, j0, (.if_icmp .ge 32, 3, 0, 169, 0, 0, [], j0m), j0, j0, (.aload_n 3, 1, 3, 0, 0, 0, [], j0m), (.getfield 391, 3, 10, 11, 0, 11, [2001], j0m), 
  j0, j0, (.iload 4, 2, 4, 0, 0, 0, [], j0m), j0, (.iaload, 1, 0, 0, 0, 0, [], j0m), (.ifCond .le 16, 3, 0, 163, 0, 0, [], j0m), j0, j0, (.aload_n 0, 1, 0, 0, 0, 0, [], j0m), (.iload 4, 2, 4, 0, 0, 0, [], j0m), 
  j0, (.aload_n 3, 1, 3, 0, 0, 0, [], j0m), (.getfield 391, 3, 10, 11, 0, 11, [2001], j0m), j0, j0, (.iload 4, 2, 4, 0, 0, 0, [], j0m), j0, (.iaload, 1, 0, 0, 0, 0, [], j0m), (.invokevirtual 394, 3, 11, 3, 1, 0, [5227, 5229, 50, 1001, 5230], m_WordPlaces_insertRanked), 
  j0, j0, (.iinc 4 1, 3, 4, 0, 0, 0, [], j0m), j0, j0, (.goto (-39), 3, 0, 127, 0, 0, [], j0m), j0, j0, (.aload_n 0, 1, 0, 0, 0, 0, [], j0m), (.getfield 97, 3, 11, 15, 0, 15, [3003], j0m), j0, j0, (.ireturn, 1, 0, 0, 0, 0, [], j0m)
  ]
set_option maxRecDepth 20000 in
theorem t_WordPlaces_rank : okT m_WordPlaces_rank k_WordPlaces_rank = true := by decide +kernel
def k_WordPlaces_readFolded : List jO := [
  (.aload_n 0, 1, 0, 0, 0, 0, [], j0m), (.iload_n 1, 1, 1, 0, 0, 0, [], j0m), (.iload_n 2, 1, 2, 0, 0, 0, [], j0m), (.invokevirtual 323, 3, 11, 3, 1, 0, [5158, 5160, 44, 1001, 5161], m_WordPlaces_readLetters), 
  j0, j0, (.aload_n 0, 1, 0, 0, 0, 0, [], j0m), (.getfield 80, 3, 11, 10, 0, 10, [2238], j0m), j0, j0, (.aload_n 0, 1, 0, 0, 0, 0, [], j0m), (.getfield 20, 3, 11, 2, 0, 2, [2230], j0m), j0, j0, (.getfield 66, 3, 2, 0, 0, 0, [1141], j0m), 
  j0, j0, (.getfield 346, 3, 7, 1, 0, 1, [1085], j0m), j0, j0, (.invokevirtual 349, 3, 3, 2, 1, 0, [5213, 5015, 5016, 1009, 5017], m_Key_map), j0, j0, (.return_, 1, 0, 0, 0, 0, [], j0m)]
set_option maxRecDepth 20000 in
theorem t_WordPlaces_readFolded : okT m_WordPlaces_readFolded k_WordPlaces_readFolded = true := by decide +kernel
def k_WordPlaces_insertRanked : List jO := [
  (.aload_n 0, 1, 0, 0, 0, 0, [], j0m), (.getfield 97, 3, 11, 15, 0, 15, [3003], j0m), j0, j0, (.bipush 40, 2, 0, 0, 0, 0, [], j0m), j0, (.if_icmp .lt 4, 3, 0, 10, 0, 0, [], j0m), j0, j0, (.return_, 1, 0, 0, 0, 0, [], j0m), 
  (.aload_n 0, 1, 0, 0, 0, 0, [], j0m), (.getfield 97, 3, 11, 15, 0, 15, [3003], j0m), j0, j0, (.istore_n 3, 1, 3, 0, 0, 0, [], j0m), (.iload_n 3, 1, 3, 0, 0, 0, [], j0m), (.ifCond .le 49, 3, 0, 65, 0, 0, [], j0m), 
  j0, j0, (.aload_n 0, 1, 0, 0, 0, 0, [], j0m), (.getfield 94, 3, 11, 14, 0, 14, [3002], j0m), j0, j0, (.iload_n 3, 1, 3, 0, 0, 0, [], j0m), (.iconst 1, 1, 0, 0, 0, 0, [], j0m), (.isub, 1, 0, 0, 0, 0, [], j0m), 
  (.iaload, 1, 0, 0, 0, 0, [], j0m), (.iload_n 2, 1, 2, 0, 0, 0, [], j0m), (.if_icmp .ge 37, 3, 0, 65, 0, 0, [], j0m), j0, j0, (.aload_n 0, 1, 0, 0, 0, 0, [], j0m), (.getfield 94, 3, 11, 14, 0, 14, [3002], j0m), 
  j0, j0, (.iload_n 3, 1, 3, 0, 0, 0, [], j0m), (.aload_n 0, 1, 0, 0, 0, 0, [], j0m), (.getfield 94, 3, 11, 14, 0, 14, [3002], j0m), j0, j0, (.iload_n 3, 1, 3, 0, 0, 0, [], j0m), (.iconst 1, 1, 0, 0, 0, 0, [], j0m), 
  (.isub, 1, 0, 0, 0, 0, [], j0m), (.iaload, 1, 0, 0, 0, 0, [], j0m), (.iastore, 1, 0, 0, 0, 0, [], j0m), (.aload_n 0, 1, 0, 0, 0, 0, [], j0m), (.getfield 91, 3, 11, 13, 0, 13, [3001], j0m), j0, j0, (.iload_n 3, 1, 3, 0, 0, 0, [], j0m), 
  (.aload_n 0, 1, 0, 0, 0, 0, [], j0m), (.getfield 91, 3, 11, 13, 0, 13, [3001], j0m), j0, j0, (.iload_n 3, 1, 3, 0, 0, 0, [], j0m), (.iconst 1, 1, 0, 0, 0, 0, [], j0m), (.isub, 1, 0, 0, 0, 0, [], j0m), 
  (.iaload, 1, 0, 0, 0, 0, [], j0m), (.iastore, 1, 0, 0, 0, 0, [], j0m), (.iinc 3 (-1), 3, 3, 0, 0, 0, [], j0m), j0, j0, (.goto (-47), 3, 0, 15, 0, 0, [], j0m), j0, j0, (.aload_n 0, 1, 0, 0, 0, 0, [], j0m), 
  (.getfield 94, 3, 11, 14, 0, 14, [3002], j0m), j0, j0, (.iload_n 3, 1, 3, 0, 0, 0, [], j0m), (.iload_n 2, 1, 2, 0, 0, 0, [], j0m), (.iastore, 1, 0, 0, 0, 0, [], j0m), (.aload_n 0, 1, 0, 0, 0, 0, [], j0m), 
  (.getfield 91, 3, 11, 13, 0, 13, [3001], j0m), j0, j0, (.iload_n 3, 1, 3, 0, 0, 0, [], j0m), (.iload_n 1, 1, 1, 0, 0, 0, [], j0m), (.iastore, 1, 0, 0, 0, 0, [], j0m), (.aload_n 0, 1, 0, 0, 0, 0, [], j0m), 
  (.dup, 1, 0, 0, 0, 0, [], j0m), (.getfield 97, 3, 11, 15, 0, 15, [3003], j0m), j0, j0, (.iconst 1, 1, 0, 0, 0, 0, [], j0m), (.iadd, 1, 0, 0, 0, 0, [], j0m), (.putfield 97, 3, 11, 15, 0, 15, [3003], j0m), 
  j0, j0, (.return_, 1, 0, 0, 0, 0, [], j0m)]
set_option maxRecDepth 20000 in
theorem t_WordPlaces_insertRanked : okT m_WordPlaces_insertRanked k_WordPlaces_insertRanked = true := by decide +kernel
def k_WordPlaces_ranked : List jO := [
  (.iload_n 1, 1, 1, 0, 0, 0, [], j0m), (.ifCond .lt 11, 3, 0, 12, 0, 0, [], j0m), j0, j0, (.iload_n 1, 1, 1, 0, 0, 0, [], j0m), (.aload_n 0, 1, 0, 0, 0, 0, [], j0m), (.getfield 97, 3, 11, 15, 0, 15, [3003], j0m), 
  j0, j0, (.if_icmp .lt 6, 3, 0, 15, 0, 0, [], j0m), j0, j0, (.ldc 215, 2, 0, 0, 0, (-2000000000), [4103], j0m), j0, (.ireturn, 1, 0, 0, 0, 0, [], j0m), (.iload_n 2, 1, 2, 0, 0, 0, [], j0m), (.ifCond .ne 10, 3, 0, 26, 0, 0, [], j0m), 
  j0, j0, (.aload_n 0, 1, 0, 0, 0, 0, [], j0m), (.getfield 91, 3, 11, 13, 0, 13, [3001], j0m), j0, j0, (.iload_n 1, 1, 1, 0, 0, 0, [], j0m), (.iaload, 1, 0, 0, 0, 0, [], j0m), (.ireturn, 1, 0, 0, 0, 0, [], j0m), 
  (.iload_n 2, 1, 2, 0, 0, 0, [], j0m), (.iconst 1, 1, 0, 0, 0, 0, [], j0m), (.if_icmp .ne 12, 3, 0, 40, 0, 0, [], j0m), j0, j0, (.aload_n 0, 1, 0, 0, 0, 0, [], j0m), (.getfield 94, 3, 11, 14, 0, 14, [3002], j0m), 
  j0, j0, (.iload_n 1, 1, 1, 0, 0, 0, [], j0m), (.iaload, 1, 0, 0, 0, 0, [], j0m), (.goto 5, 3, 0, 42, 0, 0, [], j0m), j0, j0, (.ldc 215, 2, 0, 0, 0, (-2000000000), [4103], j0m), j0, (.ireturn, 1, 0, 0, 0, 0, [], j0m)
  ]
set_option maxRecDepth 20000 in
theorem t_WordPlaces_ranked : okT m_WordPlaces_ranked k_WordPlaces_ranked = true := by decide +kernel
def k_WordPlaces_begins : List jO := [
  (.aload_n 0, 1, 0, 0, 0, 0, [], j0m), (.invokevirtual 126, 3, 11, 1, 1, 0, [3065, 3067, 1, 1001, 3068], m_WordPlaces_takeTape), j0, j0, (.istore_n 1, 1, 1, 0, 0, 0, [], j0m), (.aload_n 0, 1, 0, 0, 0, 0, [], j0m), 
  (.invokevirtual 237, 3, 11, 1, 1, 0, [4176, 4178, 22, 1001, 4179], m_WordPlaces_freshBook), j0, j0, (.astore_n 2, 1, 2, 0, 0, 0, [], j0m), (.aload_n 0, 1, 0, 0, 0, 0, [], j0m), (.iconst 0, 1, 0, 0, 0, 0, [], j0m), 
  (.iload_n 1, 1, 1, 0, 0, 0, [], j0m), (.invokevirtual 381, 3, 11, 3, 1, 0, [5209, 5211, 47, 1001, 5212], m_WordPlaces_readFolded), j0, j0, (.aload_n 0, 1, 0, 0, 0, 0, [], j0m), (.iconst 0, 1, 0, 0, 0, 0, [], j0m), 
  (.putfield 100, 3, 11, 16, 0, 16, [3004], j0m), j0, j0, (.aload_n 0, 1, 0, 0, 0, 0, [], j0m), (.iconst 0, 1, 0, 0, 0, 0, [], j0m), (.putfield 103, 3, 11, 17, 0, 17, [3005], j0m), j0, j0, (.aload_n 0, 1, 0, 0, 0, 0, [], j0m), 
  (.iload_n 1, 1, 1, 0, 0, 0, [], j0m), (.invokevirtual 397, 3, 11, 2, 1, 0, [5239, 6001, 51, 1001, 6002], m_WordPlaces_lettersOnTape), j0, j0, (.bipush 20, 2, 0, 0, 0, 0, [], j0m), j0, (.if_icmp .le 5, 3, 0, 38, 0, 0, [], j0m), 
  j0, j0, (.iconst 0, 1, 0, 0, 0, 0, [], j0m), (.ireturn, 1, 0, 0, 0, 0, [], j0m), (.aload_n 2, 1, 2, 0, 0, 0, [], j0m), (.getfield 244, 3, 1, 2, 0, 2, [2040], j0m), j0, j0, (.aload_n 2, 1, 2, 0, 0, 0, [], j0m), 
  (.getfield 241, 3, 1, 1, 0, 1, [2037], j0m), j0, j0, (.aload_n 0, 1, 0, 0, 0, 0, [], j0m), (.getfield 80, 3, 11, 10, 0, 10, [2238], j0m), j0, j0, (.getfield 333, 3, 3, 0, 0, 0, [1196], j0m), j0, j0, 
  (.aload_n 0, 1, 0, 0, 0, 0, [], j0m), (.getfield 80, 3, 11, 10, 0, 10, [2238], j0m), j0, j0, (.getfield 336, 3, 3, 1, 0, 1, [1202], j0m), j0, j0, (.invokevirtual 384, 3, 4, 4, 1, 0, [5214, 4141, 4142, 1004, 4143], m_KeyRow_find), 
  j0, j0, (.istore_n 3, 1, 3, 0, 0, 0, [], j0m), (.aload_n 0, 1, 0, 0, 0, 0, [], j0m), (.iload_n 3, 1, 3, 0, 0, 0, [], j0m), (.ifCond .lt 7, 3, 0, 73, 0, 0, [], j0m), j0, j0, (.iload_n 3, 1, 3, 0, 0, 0, [], j0m), 
  (.goto 6, 3, 0, 76, 0, 0, [], j0m), j0, j0, (.iconst (-1), 1, 0, 0, 0, 0, [], j0m), (.iload_n 3, 1, 3, 0, 0, 0, [], j0m), (.isub, 1, 0, 0, 0, 0, [], j0m), (.putfield 100, 3, 11, 16, 0, 16, [3004], j0m), 
  j0, j0, (.aload_n 0, 1, 0, 0, 0, 0, [], j0m), (.getfield 100, 3, 11, 16, 0, 16, [3004], j0m), j0, j0, (.aload_n 0, 1, 0, 0, 0, 0, [], j0m), (.getfield 103, 3, 11, 17, 0, 17, [3005], j0m), j0, j0, (.iadd, 1, 0, 0, 0, 0, [], j0m), 
  (.aload_n 2, 1, 2, 0, 0, 0, [], j0m), (.getfield 241, 3, 1, 1, 0, 1, [2037], j0m), j0, j0, (.if_icmp .ge 36, 3, 0, 128, 0, 0, [], j0m), j0, j0, (.aload_n 2, 1, 2, 0, 0, 0, [], j0m), (.aload_n 0, 1, 0, 0, 0, 0, [], j0m), 
  (.getfield 100, 3, 11, 16, 0, 16, [3004], j0m), j0, j0, (.aload_n 0, 1, 0, 0, 0, 0, [], j0m), (.getfield 103, 3, 11, 17, 0, 17, [3005], j0m), j0, j0, (.iadd, 1, 0, 0, 0, 0, [], j0m), (.aload_n 0, 1, 0, 0, 0, 0, [], j0m), 
  (.getfield 80, 3, 11, 10, 0, 10, [2238], j0m), j0, j0, (.invokevirtual 400, 3, 1, 3, 1, 0, [6003, 6004, 6005, 1007, 6006], m_Book_beginsWith), j0, j0, (.ifCond .eq 16, 3, 0, 128, 0, 0, [], j0m), j0, 
  j0, (.aload_n 0, 1, 0, 0, 0, 0, [], j0m), (.dup, 1, 0, 0, 0, 0, [], j0m), (.getfield 103, 3, 11, 17, 0, 17, [3005], j0m), j0, j0, (.iconst 1, 1, 0, 0, 0, 0, [], j0m), (.iadd, 1, 0, 0, 0, 0, [], j0m), 
  (.putfield 103, 3, 11, 17, 0, 17, [3005], j0m), j0, j0, (.goto (-46), 3, 0, 79, 0, 0, [], j0m), j0, j0, (.aload_n 0, 1, 0, 0, 0, 0, [], j0m), (.getfield 103, 3, 11, 17, 0, 17, [3005], j0m), j0, j0, (.ireturn, 1, 0, 0, 0, 0, [], j0m)
  ]
set_option maxRecDepth 20000 in
theorem t_WordPlaces_begins : okT m_WordPlaces_begins k_WordPlaces_begins = true := by decide +kernel
def k_WordPlaces_lettersOnTape : List jO := [
  (.iconst 0, 1, 0, 0, 0, 0, [], j0m), (.istore_n 2, 1, 2, 0, 0, 0, [], j0m), (.iconst 0, 1, 0, 0, 0, 0, [], j0m), (.istore_n 3, 1, 3, 0, 0, 0, [], j0m), (.iload_n 3, 1, 3, 0, 0, 0, [], j0m), (.iload_n 1, 1, 1, 0, 0, 0, [], j0m), 
  (.if_icmp .ge 36, 3, 0, 42, 0, 0, [], j0m), j0, j0, (.iload_n 3, 1, 3, 0, 0, 0, [], j0m), (.sipush 400, 3, 0, 0, 0, 0, [], j0m), j0, j0, (.if_icmp .ge 29, 3, 0, 42, 0, 0, [], j0m), j0, j0, (.iload_n 2, 1, 2, 0, 0, 0, [], j0m), 
  (.aload_n 0, 1, 0, 0, 0, 0, [], j0m), (.getfield 9, 3, 11, 0, 0, 0, [2228], j0m), j0, j0, (.iload_n 3, 1, 3, 0, 0, 0, [], j0m), (.baload, 1, 0, 0, 2, 0, [], j0m), (.invokestatic 199, 3, 0, 1, 0, 0, [4045, 3086, 1001, 3087], m_WordPlaces_isLetter), 
  j0, j0, (.ifCond .eq 7, 3, 0, 33, 0, 0, [], j0m), j0, j0, (.iconst 1, 1, 0, 0, 0, 0, [], j0m), (.goto 4, 3, 0, 34, 0, 0, [], j0m), j0, j0, (.iconst 0, 1, 0, 0, 0, 0, [], j0m), (.iadd, 1, 0, 0, 0, 0, [], j0m), 
  (.istore_n 2, 1, 2, 0, 0, 0, [], j0m), (.iinc 3 1, 3, 3, 0, 0, 0, [], j0m), j0, j0, (.goto (-35), 3, 0, 4, 0, 0, [], j0m), j0, j0, (.iload_n 2, 1, 2, 0, 0, 0, [], j0m), (.ireturn, 1, 0, 0, 0, 0, [], j0m)
  ]
set_option maxRecDepth 20000 in
theorem t_WordPlaces_lettersOnTape : okT m_WordPlaces_lettersOnTape k_WordPlaces_lettersOnTape = true := by decide +kernel
def k_WordPlaces_begun : List jO := [
  (.iload_n 1, 1, 1, 0, 0, 0, [], j0m), (.ifCond .lt 20, 3, 0, 21, 0, 0, [], j0m), j0, j0, (.iload_n 1, 1, 1, 0, 0, 0, [], j0m), (.aload_n 0, 1, 0, 0, 0, 0, [], j0m), (.getfield 103, 3, 11, 17, 0, 17, [3005], j0m), 
  j0, j0, (.if_icmp .ge 12, 3, 0, 21, 0, 0, [], j0m), j0, j0, (.aload_n 0, 1, 0, 0, 0, 0, [], j0m), (.getfield 100, 3, 11, 16, 0, 16, [3004], j0m), j0, j0, (.iload_n 1, 1, 1, 0, 0, 0, [], j0m), (.iadd, 1, 0, 0, 0, 0, [], j0m), 
  (.goto 4, 3, 0, 22, 0, 0, [], j0m), j0, j0, (.iconst (-1), 1, 0, 0, 0, 0, [], j0m), (.ireturn, 1, 0, 0, 0, 0, [], j0m)]
set_option maxRecDepth 20000 in
theorem t_WordPlaces_begun : okT m_WordPlaces_begun k_WordPlaces_begun = true := by decide +kernel
def k_WordPlaces_print : List jO := [
  (.iload_n 1, 1, 1, 0, 0, 0, [], j0m), (.invokestatic 155, 3, 0, 1, 0, 0, [4026, 4027, 1001, 4028], m_WordPlaces_isEdition), j0, j0, (.ifCond .eq 14, 3, 0, 18, 0, 0, [], j0m), j0, j0, (.iload_n 2, 1, 2, 0, 0, 0, [], j0m), 
  (.iconst 5, 1, 0, 0, 0, 0, [], j0m), (.if_icmp .lt 9, 3, 0, 18, 0, 0, [], j0m), j0, j0, (.iload_n 2, 1, 2, 0, 0, 0, [], j0m), (.bipush 100, 2, 0, 0, 0, 0, [], j0m), j0, (.if_icmp .le 6, 3, 0, 21, 0, 0, [], j0m), 
  j0, j0, (.bipush (-2), 2, 0, 0, 0, 0, [], j0m), j0, (.ireturn, 1, 0, 0, 0, 0, [], j0m), (.aload_n 0, 1, 0, 0, 0, 0, [], j0m), (.iload_n 1, 1, 1, 0, 0, 0, [], j0m), (.invokevirtual 216, 3, 11, 2, 1, 0, [4104, 4106, 15, 1001, 4107], m_WordPlaces_freshWords), 
  j0, j0, (.astore_n 3, 1, 3, 0, 0, 0, [], j0m), (.aload_n 0, 1, 0, 0, 0, 0, [], j0m), (.getfield 106, 3, 11, 18, 0, 18, [3006], j0m), j0, j0, (.iconst (-1), 1, 0, 0, 0, 0, [], j0m), (.invokestatic 116, 3, 0, 2, 0, 0, [2227, 1075, 1006, 1076], m_Arrays_fill), 
  j0, j0, (.iconst 0, 1, 0, 0, 0, 0, [], j0m), (.istore 4, 2, 4, 0, 0, 0, [], j0m), j0, (.iconst 0, 1, 0, 0, 0, 0, [], j0m), (.istore 5, 2, 5, 0, 0, 0, [], j0m), j0, (.iload 5, 2, 5, 0, 0, 0, [], j0m), 
  j0, (.aload_n 0, 1, 0, 0, 0, 0, [], j0m), (.getfield 35, 3, 11, 5, 0, 5, [2233], j0m), j0, j0, (.getfield 241, 3, 1, 1, 0, 1, [2037], j0m), j0, j0, (.if_icmp .ge 136, 3, 0, 186, 0, 0, [], j0m), j0, j0, 
  (.aload_n 0, 1, 0, 0, 0, 0, [], j0m), (.getfield 35, 3, 11, 5, 0, 5, [2233], j0m), j0, j0, (.getfield 274, 3, 1, 3, 0, 3, [2042], j0m), j0, j0, (.iload 5, 2, 5, 0, 0, 0, [], j0m), j0, (.iaload, 1, 0, 0, 0, 0, [], j0m), 
  (.istore 6, 2, 6, 0, 0, 0, [], j0m), j0, (.aload_n 3, 1, 3, 0, 0, 0, [], j0m), (.getfield 264, 3, 10, 6, 0, 6, [1234], j0m), j0, j0, (.iload 6, 2, 6, 0, 0, 0, [], j0m), j0, (.iaload, 1, 0, 0, 0, 0, [], j0m), 
  (.ifCond .le 108, 3, 0, 180, 0, 0, [], j0m), j0, j0, (.aload_n 0, 1, 0, 0, 0, 0, [], j0m), (.getfield 20, 3, 11, 2, 0, 2, [2230], j0m), j0, j0, (.getfield 66, 3, 2, 0, 0, 0, [1141], j0m), j0, j0, (.aload_n 0, 1, 0, 0, 0, 0, [], j0m), 
  (.getfield 35, 3, 11, 5, 0, 5, [2233], j0m), j0, j0, (.getfield 244, 3, 1, 2, 0, 2, [2040], j0m), j0, j0, (.getfield 247, 3, 4, 0, 0, 0, [1056], j0m), j0, j0, (.iload 6, 2, 6, 0, 0, 0, [], j0m), j0, 
  (.laload, 1, 0, 0, 0, 0, [], j0m), (.aload_n 0, 1, 0, 0, 0, 0, [], j0m), (.getfield 35, 3, 11, 5, 0, 5, [2233], j0m), j0, j0, (.getfield 244, 3, 1, 2, 0, 2, [2040], j0m), j0, j0, (.getfield 253, 3, 4, 1, 0, 1, [1062], j0m), 
  j0, j0, (.iload 6, 2, 6, 0, 0, 0, [], j0m), j0, (.laload, 1, 0, 0, 0, 0, [], j0m), (.invokevirtual 267, 3, 7, 3, 1, 0, [4191, 4192, 4193, 1003, 4194], m_Rules_isStop), j0, j0, (.ifCond .ne 69, 3, 0, 180, 0, 0, [], j0m), 
  j0, j0, (.iconst 1, 1, 0, 0, 0, 0, [], j0m), (.aload_n 3, 1, 3, 0, 0, 0, [], j0m), (.getfield 264, 3, 10, 6, 0, 6, [1234], j0m), j0, j0, (.iload 6, 2, 6, 0, 0, 0, [], j0m), j0, (.iaload, 1, 0, 0, 0, 0, [], j0m), 
  (.bipush 6, 2, 0, 0, 0, 0, [], j0m), j0, (.iadd, 1, 0, 0, 0, 0, [], j0m), (.iconst 1, 1, 0, 0, 0, 0, [], j0m), (.isub, 1, 0, 0, 0, 0, [], j0m), (.bipush 6, 2, 0, 0, 0, 0, [], j0m), j0, (.idiv, 1, 0, 0, 0, 0, [], j0m), 
  (.iadd, 1, 0, 0, 0, 0, [], j0m), (.istore 7, 2, 7, 0, 0, 0, [], j0m), j0, (.iload 4, 2, 4, 0, 0, 0, [], j0m), j0, (.iload_n 2, 1, 2, 0, 0, 0, [], j0m), (.irem, 1, 0, 0, 0, 0, [], j0m), (.istore 8, 2, 8, 0, 0, 0, [], j0m), 
  j0, (.iload 8, 2, 8, 0, 0, 0, [], j0m), j0, (.ifCond .le 21, 3, 0, 162, 0, 0, [], j0m), j0, j0, (.iload 8, 2, 8, 0, 0, 0, [], j0m), j0, (.iload 7, 2, 7, 0, 0, 0, [], j0m), j0, (.iadd, 1, 0, 0, 0, 0, [], j0m), 
  (.iload_n 2, 1, 2, 0, 0, 0, [], j0m), (.if_icmp .le 12, 3, 0, 162, 0, 0, [], j0m), j0, j0, (.iload 4, 2, 4, 0, 0, 0, [], j0m), j0, (.iload_n 2, 1, 2, 0, 0, 0, [], j0m), (.iload 8, 2, 8, 0, 0, 0, [], j0m), 
  j0, (.isub, 1, 0, 0, 0, 0, [], j0m), (.iadd, 1, 0, 0, 0, 0, [], j0m), (.istore 4, 2, 4, 0, 0, 0, [], j0m), j0, (.aload_n 0, 1, 0, 0, 0, 0, [], j0m), (.getfield 106, 3, 11, 18, 0, 18, [3006], j0m), j0, 
  j0, (.iload 6, 2, 6, 0, 0, 0, [], j0m), j0, (.iload 4, 2, 4, 0, 0, 0, [], j0m), j0, (.iload_n 2, 1, 2, 0, 0, 0, [], j0m), (.idiv, 1, 0, 0, 0, 0, [], j0m), (.iastore, 1, 0, 0, 0, 0, [], j0m), (.iload 4, 2, 4, 0, 0, 0, [], j0m), 
  j0, (.iload 7, 2, 7, 0, 0, 0, [], j0m), j0, (.iadd, 1, 0, 0, 0, 0, [], j0m), (.istore 4, 2, 4, 0, 0, 0, [], j0m), j0, (.iinc 5 1, 3, 5, 0, 0, 0, [], j0m), j0, j0, (.goto (-142), 3, 0, 41, 0, 0, [], j0m), 
  j0, j0, (.iload 4, 2, 4, 0, 0, 0, [], j0m), j0, (.iload_n 2, 1, 2, 0, 0, 0, [], j0m), (.iadd, 1, 0, 0, 0, 0, [], j0m), (.iconst 1, 1, 0, 0, 0, 0, [], j0m), (.isub, 1, 0, 0, 0, 0, [], j0m), (.iload_n 2, 1, 2, 0, 0, 0, [], j0m), 
  (.idiv, 1, 0, 0, 0, 0, [], j0m), (.ireturn, 1, 0, 0, 0, 0, [], j0m)]
set_option maxRecDepth 20000 in
theorem t_WordPlaces_print : okT m_WordPlaces_print k_WordPlaces_print = true := by decide +kernel
def k_WordPlaces_page : List jO := [
  (.iload_n 1, 1, 1, 0, 0, 0, [], j0m), (.ifCond .lt 19, 3, 0, 20, 0, 0, [], j0m), j0, j0, (.iload_n 1, 1, 1, 0, 0, 0, [], j0m), (.sipush 600, 3, 0, 0, 0, 0, [], j0m), j0, j0, (.if_icmp .ge 12, 3, 0, 20, 0, 0, [], j0m), 
  j0, j0, (.aload_n 0, 1, 0, 0, 0, 0, [], j0m), (.getfield 106, 3, 11, 18, 0, 18, [3006], j0m), j0, j0, (.iload_n 1, 1, 1, 0, 0, 0, [], j0m), (.iaload, 1, 0, 0, 0, 0, [], j0m), (.goto 4, 3, 0, 21, 0, 0, [], j0m), 
  j0, j0, (.iconst (-1), 1, 0, 0, 0, 0, [], j0m), (.ireturn, 1, 0, 0, 0, 0, [], j0m)]
set_option maxRecDepth 20000 in
theorem t_WordPlaces_page : okT m_WordPlaces_page k_WordPlaces_page = true := by decide +kernel
def k_WordPlaces_count : List jO := [
  (.iload_n 1, 1, 1, 0, 0, 0, [], j0m), (.tableswitch 152 0 8 #[51, 69, 87, 98, 109, 120, 125, 133, 141], 51, 0, 0, 0, 0, [], j0m), j0, j0, j0, j0, j0, j0, j0, j0, j0, j0, j0, j0, j0, j0, j0, j0, j0, j0, 
  j0, j0, j0, j0, j0, j0, j0, j0, j0, j0, j0, j0, j0, j0, j0, j0, j0, j0, j0, j0, j0, j0, j0, j0, j0, j0, j0, j0, j0, j0, j0, j0, (.aload_n 0, 1, 0, 0, 0, 0, [], j0m), (.getfield 20, 3, 11, 2, 0, 2, [2230], j0m), 
  j0, j0, (.iconst 0, 1, 0, 0, 0, 0, [], j0m), (.invokevirtual 162, 3, 2, 2, 1, 0, [4033, 4034, 4035, 1002, 4036], m_Image_lineCount), j0, j0, (.aload_n 0, 1, 0, 0, 0, 0, [], j0m), (.getfield 20, 3, 11, 2, 0, 2, [2230], j0m), 
  j0, j0, (.iconst 1, 1, 0, 0, 0, 0, [], j0m), (.invokevirtual 162, 3, 2, 2, 1, 0, [4033, 4034, 4035, 1002, 4036], m_Image_lineCount), j0, j0, (.iadd, 1, 0, 0, 0, 0, [], j0m), (.ireturn, 1, 0, 0, 0, 0, [], j0m), 
  (.aload_n 0, 1, 0, 0, 0, 0, [], j0m), (.getfield 20, 3, 11, 2, 0, 2, [2230], j0m), j0, j0, (.iconst 0, 1, 0, 0, 0, 0, [], j0m), (.invokevirtual 174, 3, 2, 2, 1, 0, [4069, 4070, 4071, 1002, 4072], m_Image_wordCount), 
  j0, j0, (.aload_n 0, 1, 0, 0, 0, 0, [], j0m), (.getfield 20, 3, 11, 2, 0, 2, [2230], j0m), j0, j0, (.iconst 1, 1, 0, 0, 0, 0, [], j0m), (.invokevirtual 174, 3, 2, 2, 1, 0, [4069, 4070, 4071, 1002, 4072], m_Image_wordCount), 
  j0, j0, (.iadd, 1, 0, 0, 0, 0, [], j0m), (.ireturn, 1, 0, 0, 0, 0, [], j0m), (.aload_n 0, 1, 0, 0, 0, 0, [], j0m), (.getfield 20, 3, 11, 2, 0, 2, [2230], j0m), j0, j0, (.getfield 66, 3, 2, 0, 0, 0, [1141], j0m), 
  j0, j0, (.getfield 146, 3, 7, 0, 0, 0, [1079], j0m), j0, j0, (.ireturn, 1, 0, 0, 0, 0, [], j0m), (.aload_n 0, 1, 0, 0, 0, 0, [], j0m), (.getfield 20, 3, 11, 2, 0, 2, [2230], j0m), j0, j0, (.getfield 66, 3, 2, 0, 0, 0, [1141], j0m), 
  j0, j0, (.getfield 404, 3, 7, 5, 0, 5, [1095], j0m), j0, j0, (.ireturn, 1, 0, 0, 0, 0, [], j0m), (.aload_n 0, 1, 0, 0, 0, 0, [], j0m), (.getfield 20, 3, 11, 2, 0, 2, [2230], j0m), j0, j0, (.getfield 66, 3, 2, 0, 0, 0, [1141], j0m), 
  j0, j0, (.getfield 407, 3, 7, 7, 0, 7, [1100], j0m), j0, j0, (.ireturn, 1, 0, 0, 0, 0, [], j0m), (.aload_n 0, 1, 0, 0, 0, 0, [], j0m), (.getfield 13, 3, 11, 1, 0, 1, [2229], j0m), j0, j0, (.ireturn, 1, 0, 0, 0, 0, [], j0m), 
  (.aload_n 0, 1, 0, 0, 0, 0, [], j0m), (.getfield 20, 3, 11, 2, 0, 2, [2230], j0m), j0, j0, (.invokevirtual 410, 3, 2, 1, 1, 0, [6030, 6031, 6032, 1002, 6033], m_Image_slipCount), j0, j0, (.ireturn, 1, 0, 0, 0, 0, [], j0m), 
  (.aload_n 0, 1, 0, 0, 0, 0, [], j0m), (.getfield 112, 3, 11, 19, 0, 19, [3007], j0m), j0, j0, (.invokevirtual 413, 3, 8, 1, 1, 0, [6035, 6036, 6037, 1014, 6038], m_Slots_filled), j0, j0, (.ireturn, 1, 0, 0, 0, 0, [], j0m), 
  (.aload_n 0, 1, 0, 0, 0, 0, [], j0m), (.getfield 20, 3, 11, 2, 0, 2, [2230], j0m), j0, j0, (.getfield 66, 3, 2, 0, 0, 0, [1141], j0m), j0, j0, (.getfield 416, 3, 7, 3, 0, 3, [1090], j0m), j0, j0, (.ireturn, 1, 0, 0, 0, 0, [], j0m), 
  (.iconst (-1), 1, 0, 0, 0, 0, [], j0m), (.ireturn, 1, 0, 0, 0, 0, [], j0m)]
set_option maxRecDepth 20000 in
theorem t_WordPlaces_count : okT m_WordPlaces_count k_WordPlaces_count = true := by decide +kernel
def k_WordPlaces_keep : List jO := [
  (.iload_n 1, 1, 1, 0, 0, 0, [], j0m), (.ifCond .lt 8, 3, 0, 9, 0, 0, [], j0m), j0, j0, (.iload_n 1, 1, 1, 0, 0, 0, [], j0m), (.iconst 3, 1, 0, 0, 0, 0, [], j0m), (.if_icmp .lt 6, 3, 0, 12, 0, 0, [], j0m), 
  j0, j0, (.bipush (-2), 2, 0, 0, 0, 0, [], j0m), j0, (.ireturn, 1, 0, 0, 0, 0, [], j0m), (.aload_n 0, 1, 0, 0, 0, 0, [], j0m), (.getfield 24, 3, 11, 3, 0, 3, [2231], j0m), j0, j0, (.iload_n 1, 1, 1, 0, 0, 0, [], j0m), 
  (.aaload, 1, 0, 0, 0, 0, [], j0m), (.aload_n 0, 1, 0, 0, 0, 0, [], j0m), (.getfield 20, 3, 11, 2, 0, 2, [2230], j0m), j0, j0, (.invokevirtual 419, 3, 2, 2, 1, 0, [6043, 6044, 6045, 1002, 6046], m_Image_copyFrom), 
  j0, j0, (.aload_n 0, 1, 0, 0, 0, 0, [], j0m), (.getfield 28, 3, 11, 4, 0, 4, [2232], j0m), j0, j0, (.iload_n 1, 1, 1, 0, 0, 0, [], j0m), (.iconst 1, 1, 0, 0, 0, 0, [], j0m), (.bastore, 1, 0, 0, 3, 0, [], j0m), 
  (.iconst 0, 1, 0, 0, 0, 0, [], j0m), (.ireturn, 1, 0, 0, 0, 0, [], j0m)]
set_option maxRecDepth 20000 in
theorem t_WordPlaces_keep : okT m_WordPlaces_keep k_WordPlaces_keep = true := by decide +kernel
def k_WordPlaces_back : List jO := [
  (.iload_n 1, 1, 1, 0, 0, 0, [], j0m), (.ifCond .lt 8, 3, 0, 9, 0, 0, [], j0m), j0, j0, (.iload_n 1, 1, 1, 0, 0, 0, [], j0m), (.iconst 3, 1, 0, 0, 0, 0, [], j0m), (.if_icmp .lt 6, 3, 0, 12, 0, 0, [], j0m), 
  j0, j0, (.bipush (-2), 2, 0, 0, 0, 0, [], j0m), j0, (.ireturn, 1, 0, 0, 0, 0, [], j0m), (.aload_n 0, 1, 0, 0, 0, 0, [], j0m), (.getfield 28, 3, 11, 4, 0, 4, [2232], j0m), j0, j0, (.iload_n 1, 1, 1, 0, 0, 0, [], j0m), 
  (.baload, 1, 0, 0, 3, 0, [], j0m), (.ifCond .ne 6, 3, 0, 24, 0, 0, [], j0m), j0, j0, (.bipush (-6), 2, 0, 0, 0, 0, [], j0m), j0, (.ireturn, 1, 0, 0, 0, 0, [], j0m), (.aload_n 0, 1, 0, 0, 0, 0, [], j0m), 
  (.getfield 20, 3, 11, 2, 0, 2, [2230], j0m), j0, j0, (.aload_n 0, 1, 0, 0, 0, 0, [], j0m), (.getfield 24, 3, 11, 3, 0, 3, [2231], j0m), j0, j0, (.iload_n 1, 1, 1, 0, 0, 0, [], j0m), (.aaload, 1, 0, 0, 0, 0, [], j0m), 
  (.invokevirtual 419, 3, 2, 2, 1, 0, [6043, 6044, 6045, 1002, 6046], m_Image_copyFrom), j0, j0, (.aload_n 0, 1, 0, 0, 0, 0, [], j0m), (.invokevirtual 143, 3, 11, 1, 1, 0, [4014, 4016, 12, 1001, 4017], m_WordPlaces_forgetBook), 
  j0, j0, (.iconst 0, 1, 0, 0, 0, 0, [], j0m), (.ireturn, 1, 0, 0, 0, 0, [], j0m)]
set_option maxRecDepth 20000 in
theorem t_WordPlaces_back : okT m_WordPlaces_back k_WordPlaces_back = true := by decide +kernel
def k_WordPlaces_row : List jO := [
  (.aload_n 0, 1, 0, 0, 0, 0, [], j0m), (.getfield 112, 3, 11, 19, 0, 19, [3007], j0m), j0, j0, (.iload_n 1, 1, 1, 0, 0, 0, [], j0m), (.invokevirtual 177, 3, 8, 2, 1, 0, [4081, 4082, 4083, 1014, 4084], m_Slots_isSlot), 
  j0, j0, (.ifCond .eq 18, 3, 0, 26, 0, 0, [], j0m), j0, j0, (.iload_n 2, 1, 2, 0, 0, 0, [], j0m), (.ifCond .lt 14, 3, 0, 26, 0, 0, [], j0m), j0, j0, (.iload_n 2, 1, 2, 0, 0, 0, [], j0m), (.iconst 4, 1, 0, 0, 0, 0, [], j0m), 
  (.if_icmp .ge 9, 3, 0, 26, 0, 0, [], j0m), j0, j0, (.iload_n 3, 1, 3, 0, 0, 0, [], j0m), (.bipush 60, 2, 0, 0, 0, 0, [], j0m), j0, (.if_icmp .le 6, 3, 0, 29, 0, 0, [], j0m), j0, j0, (.bipush (-2), 2, 0, 0, 0, 0, [], j0m), 
  j0, (.ireturn, 1, 0, 0, 0, 0, [], j0m), (.iload_n 3, 1, 3, 0, 0, 0, [], j0m), (.ifCond .ge 6, 3, 0, 36, 0, 0, [], j0m), j0, j0, (.bipush (-3), 2, 0, 0, 0, 0, [], j0m), j0, (.ireturn, 1, 0, 0, 0, 0, [], j0m), 
  (.aload_n 0, 1, 0, 0, 0, 0, [], j0m), (.getfield 112, 3, 11, 19, 0, 19, [3007], j0m), j0, j0, (.iload_n 1, 1, 1, 0, 0, 0, [], j0m), (.iload_n 2, 1, 2, 0, 0, 0, [], j0m), (.iload_n 3, 1, 3, 0, 0, 0, [], j0m), 
  (.invokevirtual 421, 3, 8, 4, 1, 0, [6057, 6058, 6059, 1014, 6060], m_Slots_make), j0, j0, (.iconst 0, 1, 0, 0, 0, 0, [], j0m), (.ireturn, 1, 0, 0, 0, 0, [], j0m)]
set_option maxRecDepth 20000 in
theorem t_WordPlaces_row : okT m_WordPlaces_row k_WordPlaces_row = true := by decide +kernel
def k_Arrays_fill4 : List jO := [
  (.aload_n 0, 1, 0, 0, 0, 0, [], j0m), (.arraylength, 1, 0, 0, 0, 0, [], j0m), (.iload_n 1, 1, 1, 0, 0, 0, [], j0m), (.iload_n 2, 1, 2, 0, 0, 0, [], j0m), (.invokestatic 13, 3, 0, 3, 0, 0, [6064, 6065, 1006, 6066], m_Arrays_rangeCheck), 
  j0, j0, (.iload_n 1, 1, 1, 0, 0, 0, [], j0m), (.istore 5, 2, 5, 0, 0, 0, [], j0m), j0, (.iload 5, 2, 5, 0, 0, 0, [], j0m), j0, (.iload_n 2, 1, 2, 0, 0, 0, [], j0m), (.if_icmp .ge 14, 3, 0, 27, 0, 0, [], j0m), 
  j0, j0, (.aload_n 0, 1, 0, 0, 0, 0, [], j0m), (.iload 5, 2, 5, 0, 0, 0, [], j0m), j0, (.lload_n 3, 1, 3, 0, 0, 0, [], j0m), (.lastore, 1, 0, 0, 0, 0, [], j0m), (.iinc 5 1, 3, 5, 0, 0, 0, [], j0m), j0, 
  j0, (.goto (-14), 3, 0, 10, 0, 0, [], j0m), j0, j0, (.return_, 1, 0, 0, 0, 0, [], j0m)]
set_option maxRecDepth 20000 in
theorem t_Arrays_fill4 : okT m_Arrays_fill4 k_Arrays_fill4 = true := by decide +kernel
def k_Arrays_rangeCheck : List jO := [
  (.iload_n 1, 1, 1, 0, 0, 0, [], j0m), (.iload_n 2, 1, 2, 0, 0, 0, [], j0m), (.if_icmp .le 44, 3, 0, 46, 0, 0, [], j0m), j0, j0, j0, j0, j0, j0, j0, j0, j0, j0, j0, j0, j0, j0, j0, j0, j0, j0, j0, j0, 
  j0, j0, j0, j0, j0, j0, j0, j0, j0, j0, j0, j0, j0, j0, j0, j0, j0, j0, j0, j0, j0, j0, j0, (.iload_n 1, 1, 1, 0, 0, 0, [], j0m), (.ifCond .ge 12, 3, 0, 59, 0, 0, [], j0m), j0, j0, j0, j0, j0, j0, j0, 
  j0, j0, j0, j0, (.iload_n 2, 1, 2, 0, 0, 0, [], j0m), (.iload_n 0, 1, 0, 0, 0, 0, [], j0m), (.if_icmp .le 12, 3, 0, 73, 0, 0, [], j0m), j0, j0, j0, j0, j0, j0, j0, j0, j0, j0, j0, (.return_, 1, 0, 0, 0, 0, [], j0m)
  ]
set_option maxRecDepth 20000 in
theorem t_Arrays_rangeCheck : okT m_Arrays_rangeCheck k_Arrays_rangeCheck = true := by decide +kernel
def k_WordPlaces_write : List jO := [
  (.aload_n 0, 1, 0, 0, 0, 0, [], j0m), (.getfield 112, 3, 11, 19, 0, 19, [3007], j0m), j0, j0, (.iload_n 1, 1, 1, 0, 0, 0, [], j0m), (.invokevirtual 177, 3, 8, 2, 1, 0, [4081, 4082, 4083, 1014, 4084], m_Slots_isSlot), 
  j0, j0, (.ifCond .ne 6, 3, 0, 14, 0, 0, [], j0m), j0, j0, (.bipush (-2), 2, 0, 0, 0, 0, [], j0m), j0, (.ireturn, 1, 0, 0, 0, 0, [], j0m), (.aload_n 0, 1, 0, 0, 0, 0, [], j0m), (.getfield 112, 3, 11, 19, 0, 19, [3007], j0m), 
  j0, j0, (.iload_n 1, 1, 1, 0, 0, 0, [], j0m), (.invokevirtual 180, 3, 8, 2, 1, 0, [4085, 4086, 4087, 1014, 4088], m_Slots_isEmpty), j0, j0, (.ifCond .eq 6, 3, 0, 28, 0, 0, [], j0m), j0, j0, (.bipush (-6), 2, 0, 0, 0, 0, [], j0m), 
  j0, (.ireturn, 1, 0, 0, 0, 0, [], j0m), (.aload_n 0, 1, 0, 0, 0, 0, [], j0m), (.getfield 112, 3, 11, 19, 0, 19, [3007], j0m), j0, j0, (.iload_n 1, 1, 1, 0, 0, 0, [], j0m), (.iload_n 2, 1, 2, 0, 0, 0, [], j0m), 
  (.lload_n 3, 1, 3, 0, 0, 0, [], j0m), (.invokevirtual 425, 3, 8, 4, 1, 0, [6071, 6072, 6073, 1014, 6074], m_Slots_put), j0, j0, (.ifCond .eq 7, 3, 0, 45, 0, 0, [], j0m), j0, j0, (.iconst 0, 1, 0, 0, 0, 0, [], j0m), 
  (.goto 5, 3, 0, 47, 0, 0, [], j0m), j0, j0, (.bipush (-7), 2, 0, 0, 0, 0, [], j0m), j0, (.ireturn, 1, 0, 0, 0, 0, [], j0m)]
set_option maxRecDepth 20000 in
theorem t_WordPlaces_write : okT m_WordPlaces_write k_WordPlaces_write = true := by decide +kernel
def k_WordPlaces_paste : List jO := [
  (.aload_n 0, 1, 0, 0, 0, 0, [], j0m), (.getfield 112, 3, 11, 19, 0, 19, [3007], j0m), j0, j0, (.iload_n 1, 1, 1, 0, 0, 0, [], j0m), (.invokevirtual 177, 3, 8, 2, 1, 0, [4081, 4082, 4083, 1014, 4084], m_Slots_isSlot), 
  j0, j0, (.ifCond .eq 14, 3, 0, 22, 0, 0, [], j0m), j0, j0, (.aload_n 0, 1, 0, 0, 0, 0, [], j0m), (.getfield 112, 3, 11, 19, 0, 19, [3007], j0m), j0, j0, (.iload_n 3, 1, 3, 0, 0, 0, [], j0m), (.invokevirtual 177, 3, 8, 2, 1, 0, [4081, 4082, 4083, 1014, 4084], m_Slots_isSlot), 
  j0, j0, (.ifCond .ne 6, 3, 0, 25, 0, 0, [], j0m), j0, j0, (.bipush (-2), 2, 0, 0, 0, 0, [], j0m), j0, (.ireturn, 1, 0, 0, 0, 0, [], j0m), (.aload_n 0, 1, 0, 0, 0, 0, [], j0m), (.getfield 112, 3, 11, 19, 0, 19, [3007], j0m), 
  j0, j0, (.iload_n 1, 1, 1, 0, 0, 0, [], j0m), (.invokevirtual 180, 3, 8, 2, 1, 0, [4085, 4086, 4087, 1014, 4088], m_Slots_isEmpty), j0, j0, (.ifCond .ne 14, 3, 0, 47, 0, 0, [], j0m), j0, j0, (.aload_n 0, 1, 0, 0, 0, 0, [], j0m), 
  (.getfield 112, 3, 11, 19, 0, 19, [3007], j0m), j0, j0, (.iload_n 3, 1, 3, 0, 0, 0, [], j0m), (.invokevirtual 180, 3, 8, 2, 1, 0, [4085, 4086, 4087, 1014, 4088], m_Slots_isEmpty), j0, j0, (.ifCond .eq 6, 3, 0, 50, 0, 0, [], j0m), 
  j0, j0, (.bipush (-6), 2, 0, 0, 0, 0, [], j0m), j0, (.ireturn, 1, 0, 0, 0, 0, [], j0m), (.aload_n 0, 1, 0, 0, 0, 0, [], j0m), (.getfield 112, 3, 11, 19, 0, 19, [3007], j0m), j0, j0, (.iload_n 1, 1, 1, 0, 0, 0, [], j0m), 
  (.invokevirtual 183, 3, 8, 2, 1, 0, [4090, 4091, 4092, 1014, 4093], m_Slots_widthOf), j0, j0, (.aload_n 0, 1, 0, 0, 0, 0, [], j0m), (.getfield 112, 3, 11, 19, 0, 19, [3007], j0m), j0, j0, (.iload_n 3, 1, 3, 0, 0, 0, [], j0m), 
  (.invokevirtual 183, 3, 8, 2, 1, 0, [4090, 4091, 4092, 1014, 4093], m_Slots_widthOf), j0, j0, (.if_icmp .eq 6, 3, 0, 72, 0, 0, [], j0m), j0, j0, (.bipush (-8), 2, 0, 0, 0, 0, [], j0m), j0, (.ireturn, 1, 0, 0, 0, 0, [], j0m), 
  (.aload_n 0, 1, 0, 0, 0, 0, [], j0m), (.getfield 112, 3, 11, 19, 0, 19, [3007], j0m), j0, j0, (.iload_n 1, 1, 1, 0, 0, 0, [], j0m), (.iload_n 2, 1, 2, 0, 0, 0, [], j0m), (.iload_n 3, 1, 3, 0, 0, 0, [], j0m), 
  (.iload 4, 2, 4, 0, 0, 0, [], j0m), j0, (.iload 5, 2, 5, 0, 0, 0, [], j0m), j0, (.invokevirtual 428, 3, 8, 6, 1, 0, [6082, 6083, 6084, 1014, 6085], m_Slots_move), j0, j0, (.ifCond .eq 7, 3, 0, 93, 0, 0, [], j0m), 
  j0, j0, (.iconst 0, 1, 0, 0, 0, 0, [], j0m), (.goto 5, 3, 0, 95, 0, 0, [], j0m), j0, j0, (.bipush (-7), 2, 0, 0, 0, 0, [], j0m), j0, (.ireturn, 1, 0, 0, 0, 0, [], j0m)]
set_option maxRecDepth 20000 in
theorem t_WordPlaces_paste : okT m_WordPlaces_paste k_WordPlaces_paste = true := by decide +kernel

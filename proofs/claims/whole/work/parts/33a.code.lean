/-! Code tables -/
def k_Image_init : List jO := [
  (.aload_n 0, 1, 0, 0, 0, 0, [], j0m), (.invokespecial 3, 3, 0, 1, 0, 0, [1035, 1028, 1029], j0m), j0, j0, (.aload_n 0, 1, 0, 0, 0, 0, [], j0m), (.new 9, 3, 7, 12, 0, 0, [1036, 1037, 1003], j0m), j0, 
  j0, (.dup, 1, 0, 0, 0, 0, [], j0m), (.invokespecial 11, 3, 13, 1, 1, 344, [1038, 1003, 1039, 1040], m_Rules_init), j0, j0, (.putfield 12, 3, 2, 0, 0, 0, [1140], j0m), j0, j0, (.aload_n 0, 1, 0, 0, 0, 0, [], j0m), 
  (.sipush 4800, 3, 0, 0, 0, 0, [], j0m), j0, j0, (.newarray .byte, 2, 0, 0, 2, 0, [1068], j0m), j0, (.putfield 18, 3, 2, 1, 0, 1, [1144], j0m), j0, j0, (.aload_n 0, 1, 0, 0, 0, 0, [], j0m), (.bipush 80, 2, 0, 0, 0, 0, [], j0m), 
  j0, (.newarray .int, 2, 0, 0, 1, 0, [1137], j0m), j0, (.putfield 22, 3, 2, 2, 0, 2, [1146], j0m), j0, j0, (.aload_n 0, 1, 0, 0, 0, 0, [], j0m), (.bipush 80, 2, 0, 0, 0, 0, [], j0m), j0, (.newarray .int, 2, 0, 0, 1, 0, [1137], j0m), 
  j0, (.putfield 26, 3, 2, 3, 0, 3, [1148], j0m), j0, j0, (.aload_n 0, 1, 0, 0, 0, 0, [], j0m), (.bipush 80, 2, 0, 0, 0, 0, [], j0m), j0, (.newarray .byte, 2, 0, 0, 2, 0, [1068], j0m), j0, (.putfield 29, 3, 2, 4, 0, 4, [1149], j0m), 
  j0, j0, (.aload_n 0, 1, 0, 0, 0, 0, [], j0m), (.iconst 2, 1, 0, 0, 0, 0, [], j0m), (.newarray .int, 2, 0, 0, 1, 0, [1137], j0m), j0, (.putfield 32, 3, 2, 5, 0, 5, [1150], j0m), j0, j0, (.aload_n 0, 1, 0, 0, 0, 0, [], j0m), 
  (.new 35, 3, 4, 2, 0, 0, [1138, 1043, 1004], j0m), j0, j0, (.dup, 1, 0, 0, 0, 0, [], j0m), (.sipush 1200, 3, 0, 0, 0, 0, [], j0m), j0, j0, (.invokespecial 37, 3, 2, 2, 1, 2400, [1139, 1004, 1045, 1046], m_KeyRow_init), 
  j0, j0, (.putfield 40, 3, 2, 6, 0, 6, [1151], j0m), j0, j0, (.return_, 1, 0, 0, 0, 0, [], j0m)]
set_option maxRecDepth 20000 in
theorem t_Image_init : okT m_Image_init k_Image_init = true := by decide +kernel
def k_Rules_init : List jO := [
  (.aload_n 0, 1, 0, 0, 0, 0, [], j0m), (.invokespecial 3, 3, 0, 1, 0, 0, [1041, 1028, 1029], j0m), j0, j0, (.aload_n 0, 1, 0, 0, 0, 0, [], j0m), (.iconst 0, 1, 0, 0, 0, 0, [], j0m), (.putfield 9, 3, 7, 0, 0, 0, [1077], j0m), 
  j0, j0, (.aload_n 0, 1, 0, 0, 0, 0, [], j0m), (.bipush 26, 2, 0, 0, 0, 0, [], j0m), j0, (.newarray .byte, 2, 0, 0, 2, 0, [1068], j0m), j0, (.putfield 15, 3, 7, 1, 0, 1, [1080], j0m), j0, j0, (.aload_n 0, 1, 0, 0, 0, 0, [], j0m), 
  (.bipush 26, 2, 0, 0, 0, 0, [], j0m), j0, (.newarray .byte, 2, 0, 0, 2, 0, [1068], j0m), j0, (.putfield 19, 3, 7, 2, 0, 2, [1086], j0m), j0, j0, (.aload_n 0, 1, 0, 0, 0, 0, [], j0m), (.iconst 0, 1, 0, 0, 0, 0, [], j0m), 
  (.putfield 22, 3, 7, 3, 0, 3, [1088], j0m), j0, j0, (.aload_n 0, 1, 0, 0, 0, 0, [], j0m), (.new 25, 3, 4, 2, 0, 0, [1042, 1043, 1004], j0m), j0, j0, (.dup, 1, 0, 0, 0, 0, [], j0m), (.bipush 20, 2, 0, 0, 0, 0, [], j0m), 
  j0, (.invokespecial 27, 3, 2, 2, 1, 40, [1044, 1004, 1045, 1046], m_KeyRow_init), j0, j0, (.putfield 30, 3, 7, 4, 0, 4, [1091], j0m), j0, j0, (.aload_n 0, 1, 0, 0, 0, 0, [], j0m), (.iconst 0, 1, 0, 0, 0, 0, [], j0m), 
  (.putfield 34, 3, 7, 5, 0, 5, [1093], j0m), j0, j0, (.aload_n 0, 1, 0, 0, 0, 0, [], j0m), (.new 25, 3, 4, 2, 0, 0, [1042, 1043, 1004], j0m), j0, j0, (.dup, 1, 0, 0, 0, 0, [], j0m), (.bipush 20, 2, 0, 0, 0, 0, [], j0m), 
  j0, (.invokespecial 27, 3, 2, 2, 1, 40, [1044, 1004, 1045, 1046], m_KeyRow_init), j0, j0, (.putfield 37, 3, 7, 6, 0, 6, [1096], j0m), j0, j0, (.aload_n 0, 1, 0, 0, 0, 0, [], j0m), (.iconst 0, 1, 0, 0, 0, 0, [], j0m), 
  (.putfield 40, 3, 7, 7, 0, 7, [1098], j0m), j0, j0, (.aload_n 0, 1, 0, 0, 0, 0, [], j0m), (.new 25, 3, 4, 2, 0, 0, [1042, 1043, 1004], j0m), j0, j0, (.dup, 1, 0, 0, 0, 0, [], j0m), (.bipush 80, 2, 0, 0, 0, 0, [], j0m), 
  j0, (.invokespecial 27, 3, 2, 2, 1, 160, [1044, 1004, 1045, 1046], m_KeyRow_init), j0, j0, (.putfield 43, 3, 7, 8, 0, 8, [1101], j0m), j0, j0, (.aload_n 0, 1, 0, 0, 0, 0, [], j0m), (.bipush 20, 2, 0, 0, 0, 0, [], j0m), 
  j0, (.newarray .int, 2, 0, 0, 1, 0, [1137], j0m), j0, (.putfield 46, 3, 7, 9, 0, 9, [1104], j0m), j0, j0, (.aload_n 0, 1, 0, 0, 0, 0, [], j0m), (.bipush 26, 2, 0, 0, 0, 0, [], j0m), j0, (.newarray .byte, 2, 0, 0, 2, 0, [1068], j0m), 
  j0, (.putfield 50, 3, 7, 10, 0, 10, [1107], j0m), j0, j0, (.aload_n 0, 1, 0, 0, 0, 0, [], j0m), (.iconst 0, 1, 0, 0, 0, 0, [], j0m), (.putfield 53, 3, 7, 11, 0, 11, [1110], j0m), j0, j0, (.aload_n 0, 1, 0, 0, 0, 0, [], j0m), 
  (.invokevirtual 57, 3, 7, 1, 1, 0, [1070, 1071, 1072, 1003, 1073], m_Rules_clear), j0, j0, (.return_, 1, 0, 0, 0, 0, [], j0m)]
set_option maxRecDepth 20000 in
theorem t_Rules_init : okT m_Rules_init k_Rules_init = true := by decide +kernel
def k_KeyRow_init : List jO := [
  (.aload_n 0, 1, 0, 0, 0, 0, [], j0m), (.invokespecial 1, 3, 0, 1, 0, 0, [1047, 1028, 1029], j0m), j0, j0, (.iconst 0, 1, 0, 0, 0, 0, [], j0m), (.iload_n 1, 1, 1, 0, 0, 0, [], j0m), (.invokestatic 7, 3, 0, 2, 2, 0, [1048, 1049, 1005, 1050], j0m), 
  j0, j0, (.istore_n 2, 1, 2, 0, 0, 0, [], j0m), (.aload_n 0, 1, 0, 0, 0, 0, [], j0m), (.iload_n 2, 1, 2, 0, 0, 0, [], j0m), (.newarray .long, 2, 0, 0, 4, 0, [1069], j0m), j0, (.putfield 13, 3, 4, 0, 0, 0, [1051], j0m), 
  j0, j0, (.aload_n 0, 1, 0, 0, 0, 0, [], j0m), (.iload_n 2, 1, 2, 0, 0, 0, [], j0m), (.newarray .long, 2, 0, 0, 4, 0, [1069], j0m), j0, (.putfield 19, 3, 4, 1, 0, 1, [1057], j0m), j0, j0, (.return_, 1, 0, 0, 0, 0, [], j0m)
  ]
set_option maxRecDepth 20000 in
theorem t_KeyRow_init : okT m_KeyRow_init k_KeyRow_init = true := by decide +kernel
def k_Rules_clear : List jO := [
  (.aload_n 0, 1, 0, 0, 0, 0, [], j0m), (.iconst 0, 1, 0, 0, 0, 0, [], j0m), (.putfield 9, 3, 7, 0, 0, 0, [1077], j0m), j0, j0, (.aload_n 0, 1, 0, 0, 0, 0, [], j0m), (.iconst 0, 1, 0, 0, 0, 0, [], j0m), 
  (.putfield 22, 3, 7, 3, 0, 3, [1088], j0m), j0, j0, (.aload_n 0, 1, 0, 0, 0, 0, [], j0m), (.iconst 0, 1, 0, 0, 0, 0, [], j0m), (.putfield 34, 3, 7, 5, 0, 5, [1093], j0m), j0, j0, (.aload_n 0, 1, 0, 0, 0, 0, [], j0m), 
  (.iconst 0, 1, 0, 0, 0, 0, [], j0m), (.putfield 40, 3, 7, 7, 0, 7, [1098], j0m), j0, j0, (.aload_n 0, 1, 0, 0, 0, 0, [], j0m), (.iconst 0, 1, 0, 0, 0, 0, [], j0m), (.putfield 53, 3, 7, 11, 0, 11, [1110], j0m), 
  j0, j0, (.iconst 0, 1, 0, 0, 0, 0, [], j0m), (.istore_n 1, 1, 1, 0, 0, 0, [], j0m), (.iload_n 1, 1, 1, 0, 0, 0, [], j0m), (.bipush 26, 2, 0, 0, 0, 0, [], j0m), j0, (.if_icmp .ge 32, 3, 0, 62, 0, 0, [], j0m), 
  j0, j0, (.aload_n 0, 1, 0, 0, 0, 0, [], j0m), (.getfield 15, 3, 7, 1, 0, 1, [1080], j0m), j0, j0, (.iload_n 1, 1, 1, 0, 0, 0, [], j0m), (.iload_n 1, 1, 1, 0, 0, 0, [], j0m), (.i2b, 1, 0, 0, 0, 0, [], j0m), 
  (.bastore, 1, 0, 0, 2, 0, [], j0m), (.aload_n 0, 1, 0, 0, 0, 0, [], j0m), (.getfield 50, 3, 7, 10, 0, 10, [1107], j0m), j0, j0, (.iload_n 1, 1, 1, 0, 0, 0, [], j0m), (.iload_n 1, 1, 1, 0, 0, 0, [], j0m), 
  (.i2b, 1, 0, 0, 0, 0, [], j0m), (.bastore, 1, 0, 0, 2, 0, [], j0m), (.aload_n 0, 1, 0, 0, 0, 0, [], j0m), (.getfield 19, 3, 7, 2, 0, 2, [1086], j0m), j0, j0, (.iload_n 1, 1, 1, 0, 0, 0, [], j0m), (.iconst 0, 1, 0, 0, 0, 0, [], j0m), 
  (.bastore, 1, 0, 0, 2, 0, [], j0m), (.iinc 1 1, 3, 1, 0, 0, 0, [], j0m), j0, j0, (.goto (-32), 3, 0, 27, 0, 0, [], j0m), j0, j0, (.aload_n 0, 1, 0, 0, 0, 0, [], j0m), (.getfield 46, 3, 7, 9, 0, 9, [1104], j0m), 
  j0, j0, (.iconst 0, 1, 0, 0, 0, 0, [], j0m), (.invokestatic 60, 3, 0, 2, 0, 0, [1074, 1075, 1006, 1076], m_Arrays_fill), j0, j0, (.return_, 1, 0, 0, 0, 0, [], j0m)]
set_option maxRecDepth 20000 in
theorem t_Rules_clear : okT m_Rules_clear k_Rules_clear = true := by decide +kernel
def k_Book_init : List jO := [
  (.aload_n 0, 1, 0, 0, 0, 0, [], j0m), (.invokespecial 3, 3, 0, 1, 0, 0, [1174, 1028, 1029], j0m), j0, j0, (.aload_n 0, 1, 0, 0, 0, 0, [], j0m), (.iconst 0, 1, 0, 0, 0, 0, [], j0m), (.putfield 9, 3, 1, 0, 0, 0, [2033], j0m), 
  j0, j0, (.aload_n 0, 1, 0, 0, 0, 0, [], j0m), (.iconst 0, 1, 0, 0, 0, 0, [], j0m), (.putfield 15, 3, 1, 1, 0, 1, [2035], j0m), j0, j0, (.aload_n 0, 1, 0, 0, 0, 0, [], j0m), (.new 19, 3, 4, 2, 0, 0, [1175, 1043, 1004], j0m), 
  j0, j0, (.dup, 1, 0, 0, 0, 0, [], j0m), (.sipush 600, 3, 0, 0, 0, 0, [], j0m), j0, j0, (.invokespecial 21, 3, 2, 2, 1, 1200, [1176, 1004, 1045, 1046], m_KeyRow_init), j0, j0, (.putfield 24, 3, 1, 2, 0, 2, [2038], j0m), 
  j0, j0, (.aload_n 0, 1, 0, 0, 0, 0, [], j0m), (.sipush 600, 3, 0, 0, 0, 0, [], j0m), j0, j0, (.newarray .int, 2, 0, 0, 1, 0, [1137], j0m), j0, (.putfield 28, 3, 1, 3, 0, 3, [2041], j0m), j0, j0, (.aload_n 0, 1, 0, 0, 0, 0, [], j0m), 
  (.new 19, 3, 4, 2, 0, 0, [1175, 1043, 1004], j0m), j0, j0, (.dup, 1, 0, 0, 0, 0, [], j0m), (.sipush 600, 3, 0, 0, 0, 0, [], j0m), j0, j0, (.invokespecial 21, 3, 2, 2, 1, 1200, [1176, 1004, 1045, 1046], m_KeyRow_init), 
  j0, j0, (.putfield 32, 3, 1, 4, 0, 4, [2043], j0m), j0, j0, (.aload_n 0, 1, 0, 0, 0, 0, [], j0m), (.new 35, 3, 10, 14, 0, 0, [1177, 1178, 1008], j0m), j0, j0, (.dup, 1, 0, 0, 0, 0, [], j0m), (.invokespecial 37, 3, 14, 1, 2, 3985, [1008, 1180, 1181], m_Words_init), 
  j0, j0, (.putfield 38, 3, 1, 5, 0, 5, [2044], j0m), j0, j0, (.aload_n 0, 1, 0, 0, 0, 0, [], j0m), (.new 35, 3, 10, 14, 0, 0, [1177, 1178, 1008], j0m), j0, j0, (.dup, 1, 0, 0, 0, 0, [], j0m), (.invokespecial 37, 3, 14, 1, 2, 3985, [1008, 1180, 1181], m_Words_init), 
  j0, j0, (.putfield 42, 3, 1, 6, 0, 6, [2045], j0m), j0, j0, (.return_, 1, 0, 0, 0, 0, [], j0m)]
set_option maxRecDepth 20000 in
theorem t_Book_init : okT m_Book_init k_Book_init = true := by decide +kernel
def k_Words_init : List jO := [
  (.aload_n 0, 1, 0, 0, 0, 0, [], j0m), (.invokespecial 3, 3, 0, 1, 0, 0, [1182, 1028, 1029], j0m), j0, j0, (.aload_n 0, 1, 0, 0, 0, 0, [], j0m), (.iconst 0, 1, 0, 0, 0, 0, [], j0m), (.putfield 9, 3, 10, 0, 0, 0, [1213], j0m), 
  j0, j0, (.aload_n 0, 1, 0, 0, 0, 0, [], j0m), (.new 15, 3, 4, 2, 0, 0, [1183, 1043, 1004], j0m), j0, j0, (.dup, 1, 0, 0, 0, 0, [], j0m), (.sipush 300, 3, 0, 0, 0, 0, [], j0m), j0, j0, (.invokespecial 17, 3, 2, 2, 1, 600, [1184, 1004, 1045, 1046], m_KeyRow_init), 
  j0, j0, (.putfield 20, 3, 10, 1, 0, 1, [1218], j0m), j0, j0, (.aload_n 0, 1, 0, 0, 0, 0, [], j0m), (.sipush 300, 3, 0, 0, 0, 0, [], j0m), j0, j0, (.newarray .int, 2, 0, 0, 1, 0, [1137], j0m), j0, (.putfield 24, 3, 10, 2, 0, 2, [1222], j0m), 
  j0, j0, (.aload_n 0, 1, 0, 0, 0, 0, [], j0m), (.sipush 300, 3, 0, 0, 0, 0, [], j0m), j0, j0, (.newarray .int, 2, 0, 0, 1, 0, [1137], j0m), j0, (.putfield 28, 3, 10, 3, 0, 3, [1225], j0m), j0, j0, (.aload_n 0, 1, 0, 0, 0, 0, [], j0m), 
  (.sipush 300, 3, 0, 0, 0, 0, [], j0m), j0, j0, (.newarray .int, 2, 0, 0, 1, 0, [1137], j0m), j0, (.putfield 31, 3, 10, 4, 0, 4, [1228], j0m), j0, j0, (.aload_n 0, 1, 0, 0, 0, 0, [], j0m), (.sipush 300, 3, 0, 0, 0, 0, [], j0m), 
  j0, j0, (.newarray .int, 2, 0, 0, 1, 0, [1137], j0m), j0, (.putfield 34, 3, 10, 5, 0, 5, [1230], j0m), j0, j0, (.aload_n 0, 1, 0, 0, 0, 0, [], j0m), (.sipush 600, 3, 0, 0, 0, 0, [], j0m), j0, j0, (.newarray .int, 2, 0, 0, 1, 0, [1137], j0m), 
  j0, (.putfield 37, 3, 10, 6, 0, 6, [1233], j0m), j0, j0, (.aload_n 0, 1, 0, 0, 0, 0, [], j0m), (.sipush 300, 3, 0, 0, 0, 0, [], j0m), j0, j0, (.newarray .int, 2, 0, 0, 1, 0, [1137], j0m), j0, (.putfield 40, 3, 10, 7, 0, 7, [1235], j0m), 
  j0, j0, (.aload_n 0, 1, 0, 0, 0, 0, [], j0m), (.sipush 600, 3, 0, 0, 0, 0, [], j0m), j0, j0, (.newarray .int, 2, 0, 0, 1, 0, [1137], j0m), j0, (.putfield 43, 3, 10, 8, 0, 8, [1236], j0m), j0, j0, (.aload_n 0, 1, 0, 0, 0, 0, [], j0m), 
  (.iconst 0, 1, 0, 0, 0, 0, [], j0m), (.putfield 46, 3, 10, 9, 0, 9, [1237], j0m), j0, j0, (.aload_n 0, 1, 0, 0, 0, 0, [], j0m), (.bipush 40, 2, 0, 0, 0, 0, [], j0m), j0, (.newarray .int, 2, 0, 0, 1, 0, [1137], j0m), 
  j0, (.putfield 49, 3, 10, 10, 0, 10, [1239], j0m), j0, j0, (.aload_n 0, 1, 0, 0, 0, 0, [], j0m), (.bipush 40, 2, 0, 0, 0, 0, [], j0m), j0, (.newarray .int, 2, 0, 0, 1, 0, [1137], j0m), j0, (.putfield 52, 3, 10, 11, 0, 11, [2000], j0m), 
  j0, j0, (.aload_n 0, 1, 0, 0, 0, 0, [], j0m), (.sipush 600, 3, 0, 0, 0, 0, [], j0m), j0, j0, (.newarray .byte, 2, 0, 0, 2, 0, [1068], j0m), j0, (.putfield 55, 3, 10, 12, 0, 12, [2002], j0m), j0, j0, 
  (.aload_n 0, 1, 0, 0, 0, 0, [], j0m), (.new 59, 3, 3, 3, 0, 0, [1185, 1186, 1009], j0m), j0, j0, (.dup, 1, 0, 0, 0, 0, [], j0m), (.invokespecial 61, 3, 0, 1, 2, 0, [1009, 1188, 1189], m_Key_init), j0, 
  j0, (.putfield 62, 3, 10, 13, 0, 13, [2003], j0m), j0, j0, (.return_, 1, 0, 0, 0, 0, [], j0m)]
set_option maxRecDepth 20000 in
theorem t_Words_init : okT m_Words_init k_Words_init = true := by decide +kernel
def k_Key_init : List jO := [
  (.aload_n 0, 1, 0, 0, 0, 0, [], j0m), (.invokespecial 3, 3, 0, 1, 0, 0, [1190, 1028, 1029], j0m), j0, j0, (.aload_n 0, 1, 0, 0, 0, 0, [], j0m), (.lconst 0, 1, 0, 0, 0, 0, [], j0m), (.putfield 9, 3, 3, 0, 0, 0, [1191], j0m), 
  j0, j0, (.aload_n 0, 1, 0, 0, 0, 0, [], j0m), (.lconst 0, 1, 0, 0, 0, 0, [], j0m), (.putfield 15, 3, 3, 1, 0, 1, [1197], j0m), j0, j0, (.aload_n 0, 1, 0, 0, 0, 0, [], j0m), (.iconst 0, 1, 0, 0, 0, 0, [], j0m), 
  (.putfield 18, 3, 3, 2, 0, 2, [1203], j0m), j0, j0, (.return_, 1, 0, 0, 0, 0, [], j0m)]
set_option maxRecDepth 20000 in
theorem t_Key_init : okT m_Key_init k_Key_init = true := by decide +kernel
def k_Likeness_init : List jO := [
  (.aload_n 0, 1, 0, 0, 0, 0, [], j0m), (.invokespecial 3, 3, 0, 1, 0, 0, [2066, 1028, 1029], j0m), j0, j0, (.aload_n 0, 1, 0, 0, 0, 0, [], j0m), (.iconst 0, 1, 0, 0, 0, 0, [], j0m), (.putfield 9, 3, 5, 0, 0, 0, [2067], j0m), 
  j0, j0, (.aload_n 0, 1, 0, 0, 0, 0, [], j0m), (.iconst 0, 1, 0, 0, 0, 0, [], j0m), (.putfield 15, 3, 5, 1, 0, 1, [2069], j0m), j0, j0, (.aload_n 0, 1, 0, 0, 0, 0, [], j0m), (.sipush 300, 3, 0, 0, 0, 0, [], j0m), 
  j0, j0, (.newarray .int, 2, 0, 0, 1, 0, [1137], j0m), j0, (.putfield 19, 3, 5, 2, 0, 2, [2071], j0m), j0, j0, (.aload_n 0, 1, 0, 0, 0, 0, [], j0m), (.sipush 1500, 3, 0, 0, 0, 0, [], j0m), j0, j0, (.newarray .long, 2, 0, 0, 4, 0, [1069], j0m), 
  j0, (.putfield 23, 3, 5, 3, 0, 3, [2073], j0m), j0, j0, (.aload_n 0, 1, 0, 0, 0, 0, [], j0m), (.sipush 301, 3, 0, 0, 0, 0, [], j0m), j0, j0, (.newarray .int, 2, 0, 0, 1, 0, [1137], j0m), j0, (.putfield 27, 3, 5, 4, 0, 4, [2074], j0m), 
  j0, j0, (.aload_n 0, 1, 0, 0, 0, 0, [], j0m), (.sipush 301, 3, 0, 0, 0, 0, [], j0m), j0, j0, (.newarray .int, 2, 0, 0, 1, 0, [1137], j0m), j0, (.putfield 30, 3, 5, 5, 0, 5, [2075], j0m), j0, j0, (.return_, 1, 0, 0, 0, 0, [], j0m)
  ]
set_option maxRecDepth 20000 in
theorem t_Likeness_init : okT m_Likeness_init k_Likeness_init = true := by decide +kernel
def k_Tokens_init : List jO := [
  (.aload_n 0, 1, 0, 0, 0, 0, [], j0m), (.invokespecial 3, 3, 0, 1, 0, 0, [2094, 1028, 1029], j0m), j0, j0, (.aload_n 0, 1, 0, 0, 0, 0, [], j0m), (.iconst 0, 1, 0, 0, 0, 0, [], j0m), (.putfield 9, 3, 9, 1, 0, 1, [2096], j0m), 
  j0, j0, (.aload_n 0, 1, 0, 0, 0, 0, [], j0m), (.iconst 0, 1, 0, 0, 0, 0, [], j0m), (.putfield 15, 3, 9, 2, 0, 2, [2097], j0m), j0, j0, (.aload_n 0, 1, 0, 0, 0, 0, [], j0m), (.iconst 0, 1, 0, 0, 0, 0, [], j0m), 
  (.putfield 18, 3, 9, 3, 0, 3, [2098], j0m), j0, j0, (.aload_n 0, 1, 0, 0, 0, 0, [], j0m), (.iconst 0, 1, 0, 0, 0, 0, [], j0m), (.putfield 21, 3, 9, 4, 0, 4, [2099], j0m), j0, j0, (.aload_n 0, 1, 0, 0, 0, 0, [], j0m), 
  (.iconst 0, 1, 0, 0, 0, 0, [], j0m), (.putfield 24, 3, 9, 5, 0, 5, [2102], j0m), j0, j0, (.aload_n 0, 1, 0, 0, 0, 0, [], j0m), (.iconst 0, 1, 0, 0, 0, 0, [], j0m), (.putfield 27, 3, 9, 6, 0, 6, [2104], j0m), 
  j0, j0, (.aload_n 0, 1, 0, 0, 0, 0, [], j0m), (.iconst (-1), 1, 0, 0, 0, 0, [], j0m), (.putfield 30, 3, 9, 7, 0, 7, [2106], j0m), j0, j0, (.aload_n 0, 1, 0, 0, 0, 0, [], j0m), (.aload_n 1, 1, 1, 0, 0, 0, [], j0m), 
  (.putfield 33, 3, 9, 0, 0, 0, [2095], j0m), j0, j0, (.return_, 1, 0, 0, 0, 0, [], j0m)]
set_option maxRecDepth 20000 in
theorem t_Tokens_init : okT m_Tokens_init k_Tokens_init = true := by decide +kernel
def k_RuleReader_init : List jO := [
  (.aload_n 0, 1, 0, 0, 0, 0, [], j0m), (.invokespecial 3, 3, 0, 1, 0, 0, [2130, 1028, 1029], j0m), j0, j0, (.aload_n 0, 1, 0, 0, 0, 0, [], j0m), (.new 9, 3, 7, 12, 0, 0, [2131, 1037, 1003], j0m), j0, 
  j0, (.dup, 1, 0, 0, 0, 0, [], j0m), (.invokespecial 11, 3, 13, 1, 1, 344, [2132, 1003, 1039, 1040], m_Rules_init), j0, j0, (.putfield 12, 3, 6, 0, 0, 0, [2135], j0m), j0, j0, (.aload_n 0, 1, 0, 0, 0, 0, [], j0m), 
  (.new 18, 3, 3, 3, 0, 0, [2133, 1186, 1009], j0m), j0, j0, (.dup, 1, 0, 0, 0, 0, [], j0m), (.invokespecial 20, 3, 0, 1, 2, 0, [1009, 1188, 1189], m_Key_init), j0, j0, (.putfield 21, 3, 6, 2, 0, 2, [2138], j0m), 
  j0, j0, (.aload_n 0, 1, 0, 0, 0, 0, [], j0m), (.aload_n 1, 1, 1, 0, 0, 0, [], j0m), (.putfield 25, 3, 6, 1, 0, 1, [2137], j0m), j0, j0, (.return_, 1, 0, 0, 0, 0, [], j0m)]
set_option maxRecDepth 20000 in
theorem t_RuleReader_init : okT m_RuleReader_init k_RuleReader_init = true := by decide +kernel
def k_Asker_init : List jO := [
  (.aload_n 0, 1, 0, 0, 0, 0, [], j0m), (.invokespecial 3, 3, 0, 1, 0, 0, [2151, 1028, 1029], j0m), j0, j0, (.aload_n 0, 1, 0, 0, 0, 0, [], j0m), (.new 9, 3, 3, 3, 0, 0, [2152, 1186, 1009], j0m), j0, j0, 
  (.dup, 1, 0, 0, 0, 0, [], j0m), (.invokespecial 11, 3, 0, 1, 2, 0, [1009, 1188, 1189], m_Key_init), j0, j0, (.putfield 12, 3, 0, 3, 0, 3, [2163], j0m), j0, j0, (.aload_n 0, 1, 0, 0, 0, 0, [], j0m), (.iconst 0, 1, 0, 0, 0, 0, [], j0m), 
  (.putfield 18, 3, 0, 5, 0, 5, [2165], j0m), j0, j0, (.aload_n 0, 1, 0, 0, 0, 0, [], j0m), (.bipush 14, 2, 0, 0, 0, 0, [], j0m), j0, (.sipush 300, 3, 0, 0, 0, 0, [], j0m), j0, j0, (.multianewarray 22 2, 4, 0, 0, 2, 0, [2154, 1068], j0m), 
  j0, j0, j0, (.putfield 24, 3, 0, 6, 0, 6, [2166], j0m), j0, j0, (.aload_n 0, 1, 0, 0, 0, 0, [], j0m), (.sipush 300, 3, 0, 0, 0, 0, [], j0m), j0, j0, (.newarray .byte, 2, 0, 0, 2, 0, [1068], j0m), j0, 
  (.putfield 27, 3, 0, 7, 0, 7, [2167], j0m), j0, j0, (.aload_n 0, 1, 0, 0, 0, 0, [], j0m), (.bipush 40, 2, 0, 0, 0, 0, [], j0m), j0, (.newarray .byte, 2, 0, 0, 2, 0, [1068], j0m), j0, (.putfield 31, 3, 0, 8, 0, 8, [2168], j0m), 
  j0, j0, (.aload_n 0, 1, 0, 0, 0, 0, [], j0m), (.iconst 0, 1, 0, 0, 0, 0, [], j0m), (.putfield 34, 3, 0, 9, 0, 9, [2169], j0m), j0, j0, (.aload_n 0, 1, 0, 0, 0, 0, [], j0m), (.sipush 300, 3, 0, 0, 0, 0, [], j0m), 
  j0, j0, (.newarray .int, 2, 0, 0, 1, 0, [1137], j0m), j0, (.putfield 37, 3, 0, 10, 0, 10, [2171], j0m), j0, j0, (.aload_n 0, 1, 0, 0, 0, 0, [], j0m), (.sipush 300, 3, 0, 0, 0, 0, [], j0m), j0, j0, (.newarray .int, 2, 0, 0, 1, 0, [1137], j0m), 
  j0, (.putfield 41, 3, 0, 11, 0, 11, [2173], j0m), j0, j0, (.aload_n 0, 1, 0, 0, 0, 0, [], j0m), (.sipush 300, 3, 0, 0, 0, 0, [], j0m), j0, j0, (.newarray .int, 2, 0, 0, 1, 0, [1137], j0m), j0, (.putfield 44, 3, 0, 12, 0, 12, [2175], j0m), 
  j0, j0, (.aload_n 0, 1, 0, 0, 0, 0, [], j0m), (.aload_n 1, 1, 1, 0, 0, 0, [], j0m), (.putfield 47, 3, 0, 0, 0, 0, [2160], j0m), j0, j0, (.aload_n 0, 1, 0, 0, 0, 0, [], j0m), (.aload_n 2, 1, 2, 0, 0, 0, [], j0m), 
  (.putfield 51, 3, 0, 1, 0, 1, [2161], j0m), j0, j0, (.aload_n 0, 1, 0, 0, 0, 0, [], j0m), (.aload_n 3, 1, 3, 0, 0, 0, [], j0m), (.putfield 55, 3, 0, 2, 0, 2, [2162], j0m), j0, j0, (.aload_n 0, 1, 0, 0, 0, 0, [], j0m), 
  (.aload_n 3, 1, 3, 0, 0, 0, [], j0m), (.iconst 0, 1, 0, 0, 0, 0, [], j0m), (.invokevirtual 59, 3, 1, 2, 1, 0, [2156, 2157, 2158, 1007, 2159], m_Book_wordsOf), j0, j0, (.putfield 65, 3, 0, 4, 0, 4, [2164], j0m), 
  j0, j0, (.return_, 1, 0, 0, 0, 0, [], j0m)]
set_option maxRecDepth 20000 in
theorem t_Asker_init : okT m_Asker_init k_Asker_init = true := by decide +kernel
def k_Book_wordsOf : List jO := [
  (.iload_n 1, 1, 1, 0, 0, 0, [], j0m), (.ifCond .ne 10, 3, 0, 11, 0, 0, [], j0m), j0, j0, (.aload_n 0, 1, 0, 0, 0, 0, [], j0m), (.getfield 38, 3, 1, 5, 0, 5, [2044], j0m), j0, j0, (.goto 7, 3, 0, 15, 0, 0, [], j0m), 
  j0, j0, (.aload_n 0, 1, 0, 0, 0, 0, [], j0m), (.getfield 42, 3, 1, 6, 0, 6, [2045], j0m), j0, j0, (.areturn, 1, 0, 0, 0, 0, [], j0m)]
set_option maxRecDepth 20000 in
theorem t_Book_wordsOf : okT m_Book_wordsOf k_Book_wordsOf = true := by decide +kernel
def k_Slots_init : List jO := [
  (.aload_n 0, 1, 0, 0, 0, 0, [], j0m), (.invokespecial 3, 3, 0, 1, 0, 0, [2211, 1028, 1029], j0m), j0, j0, (.aload_n 0, 1, 0, 0, 0, 0, [], j0m), (.sipush 240, 3, 0, 0, 0, 0, [], j0m), j0, j0, (.newarray .long, 2, 0, 0, 4, 0, [1069], j0m), 
  j0, (.putfield 9, 3, 8, 0, 0, 0, [2213], j0m), j0, j0, (.aload_n 0, 1, 0, 0, 0, 0, [], j0m), (.iconst 4, 1, 0, 0, 0, 0, [], j0m), (.newarray .int, 2, 0, 0, 1, 0, [1137], j0m), j0, (.putfield 15, 3, 8, 1, 0, 1, [2214], j0m), 
  j0, j0, (.aload_n 0, 1, 0, 0, 0, 0, [], j0m), (.iconst 4, 1, 0, 0, 0, 0, [], j0m), (.newarray .int, 2, 0, 0, 1, 0, [1137], j0m), j0, (.putfield 19, 3, 8, 2, 0, 2, [2215], j0m), j0, j0, (.aload_n 0, 1, 0, 0, 0, 0, [], j0m), 
  (.bipush 60, 2, 0, 0, 0, 0, [], j0m), j0, (.newarray .byte, 2, 0, 0, 2, 0, [1068], j0m), j0, (.putfield 22, 3, 8, 3, 0, 3, [2216], j0m), j0, j0, (.aload_n 0, 1, 0, 0, 0, 0, [], j0m), (.getfield 19, 3, 8, 2, 0, 2, [2215], j0m), 
  j0, j0, (.iconst (-1), 1, 0, 0, 0, 0, [], j0m), (.invokestatic 26, 3, 0, 2, 0, 0, [2212, 1075, 1006, 1076], m_Arrays_fill), j0, j0, (.return_, 1, 0, 0, 0, 0, [], j0m)]
set_option maxRecDepth 20000 in
theorem t_Slots_init : okT m_Slots_init k_Slots_init = true := by decide +kernel
def k_RuleReader_read : List jO := [
  (.aload_n 0, 1, 0, 0, 0, 0, [], j0m), (.getfield 25, 3, 6, 1, 0, 1, [2137], j0m), j0, j0, (.iload_n 1, 1, 1, 0, 0, 0, [], j0m), (.invokevirtual 29, 3, 9, 2, 1, 0, [3073, 3074, 3075, 1011, 3076], m_Tokens_open), 
  j0, j0, (.aload_n 0, 1, 0, 0, 0, 0, [], j0m), (.getfield 12, 3, 6, 0, 0, 0, [2135], j0m), j0, j0, (.invokevirtual 35, 3, 7, 1, 1, 0, [3095, 1071, 1072, 1003, 1073], m_Rules_clear), j0, j0, (.iconst 0, 1, 0, 0, 0, 0, [], j0m), 
  (.istore_n 2, 1, 2, 0, 0, 0, [], j0m), (.iload_n 2, 1, 2, 0, 0, 0, [], j0m), (.bipush 20, 2, 0, 0, 0, 0, [], j0m), j0, (.if_icmp .ge 28, 3, 0, 48, 0, 0, [], j0m), j0, j0, (.aload_n 0, 1, 0, 0, 0, 0, [], j0m), 
  (.getfield 25, 3, 6, 1, 0, 1, [2137], j0m), j0, j0, (.getfield 38, 3, 9, 4, 0, 4, [2100], j0m), j0, j0, (.ifCond .eq 18, 3, 0, 48, 0, 0, [], j0m), j0, j0, (.aload_n 0, 1, 0, 0, 0, 0, [], j0m), (.invokevirtual 42, 3, 6, 1, 1, 0, [3096, 3098, 3, 1012, 3099], m_RuleReader_readRule), 
  j0, j0, (.ifCond .ne 5, 3, 0, 42, 0, 0, [], j0m), j0, j0, (.iconst 0, 1, 0, 0, 0, 0, [], j0m), (.ireturn, 1, 0, 0, 1, 0, [], j0m), (.iinc 2 1, 3, 2, 0, 0, 0, [], j0m), j0, j0, (.goto (-28), 3, 0, 17, 0, 0, [], j0m), 
  j0, j0, (.aload_n 0, 1, 0, 0, 0, 0, [], j0m), (.getfield 25, 3, 6, 1, 0, 1, [2137], j0m), j0, j0, (.getfield 38, 3, 9, 4, 0, 4, [2100], j0m), j0, j0, (.ifCond .eq 8, 3, 0, 63, 0, 0, [], j0m), j0, j0, 
  (.aload_n 0, 1, 0, 0, 0, 0, [], j0m), (.invokevirtual 46, 3, 6, 1, 1, 0, [3220, 3222, 10, 1012, 3223], m_RuleReader_refuseFurther), j0, j0, (.ireturn, 1, 0, 0, 1, 0, [], j0m), (.aload_n 0, 1, 0, 0, 0, 0, [], j0m), 
  (.getfield 12, 3, 6, 0, 0, 0, [2135], j0m), j0, j0, (.invokevirtual 49, 3, 7, 1, 1, 0, [3228, 3229, 3230, 1003, 3231], m_Rules_foldAll), j0, j0, (.iconst 1, 1, 0, 0, 0, 0, [], j0m), (.ireturn, 1, 0, 0, 1, 0, [], j0m)
  ]
set_option maxRecDepth 20000 in
theorem t_RuleReader_read : okT m_RuleReader_read k_RuleReader_read = true := by decide +kernel
def k_Tokens_open : List jO := [
  (.aload_n 0, 1, 0, 0, 0, 0, [], j0m), (.iconst 0, 1, 0, 0, 0, 0, [], j0m), (.iload_n 1, 1, 1, 0, 0, 0, [], j0m), (.aload_n 0, 1, 0, 0, 0, 0, [], j0m), (.getfield 33, 3, 9, 0, 0, 0, [2095], j0m), j0, 
  j0, (.arraylength, 1, 0, 0, 0, 0, [], j0m), (.invokestatic 37, 3, 0, 2, 1, 0, [3077, 3078, 1005, 3079], j0m), j0, j0, (.invokestatic 43, 3, 0, 2, 2, 0, [3080, 1049, 1005, 1050], j0m), j0, j0, (.putfield 9, 3, 9, 1, 0, 1, [2096], j0m), 
  j0, j0, (.aload_n 0, 1, 0, 0, 0, 0, [], j0m), (.iconst 0, 1, 0, 0, 0, 0, [], j0m), (.putfield 18, 3, 9, 3, 0, 3, [2098], j0m), j0, j0, (.aload_n 0, 1, 0, 0, 0, 0, [], j0m), (.iconst 0, 1, 0, 0, 0, 0, [], j0m), 
  (.putfield 27, 3, 9, 6, 0, 6, [2104], j0m), j0, j0, (.aload_n 0, 1, 0, 0, 0, 0, [], j0m), (.iconst (-1), 1, 0, 0, 0, 0, [], j0m), (.putfield 30, 3, 9, 7, 0, 7, [2106], j0m), j0, j0, (.aload_n 0, 1, 0, 0, 0, 0, [], j0m), 
  (.invokevirtual 46, 3, 9, 1, 1, 0, [3081, 3082, 3083, 1011, 3084], m_Tokens_advance), j0, j0, (.return_, 1, 0, 0, 0, 0, [], j0m)]
set_option maxRecDepth 20000 in
theorem t_Tokens_open : okT m_Tokens_open k_Tokens_open = true := by decide +kernel
def k_Tokens_advance : List jO := [
  (.aload_n 0, 1, 0, 0, 0, 0, [], j0m), (.getfield 18, 3, 9, 3, 0, 3, [2098], j0m), j0, j0, (.aload_n 0, 1, 0, 0, 0, 0, [], j0m), (.getfield 9, 3, 9, 1, 0, 1, [2096], j0m), j0, j0, (.if_icmp .ge 44, 3, 0, 52, 0, 0, [], j0m), 
  j0, j0, (.aload_n 0, 1, 0, 0, 0, 0, [], j0m), (.getfield 33, 3, 9, 0, 0, 0, [2095], j0m), j0, j0, (.aload_n 0, 1, 0, 0, 0, 0, [], j0m), (.getfield 18, 3, 9, 3, 0, 3, [2098], j0m), j0, j0, (.baload, 1, 0, 0, 2, 0, [], j0m), 
  (.bipush 32, 2, 0, 0, 0, 0, [], j0m), j0, (.if_icmp .eq 17, 3, 0, 39, 0, 0, [], j0m), j0, j0, (.aload_n 0, 1, 0, 0, 0, 0, [], j0m), (.getfield 33, 3, 9, 0, 0, 0, [2095], j0m), j0, j0, (.aload_n 0, 1, 0, 0, 0, 0, [], j0m), 
  (.getfield 18, 3, 9, 3, 0, 3, [2098], j0m), j0, j0, (.baload, 1, 0, 0, 2, 0, [], j0m), (.bipush 10, 2, 0, 0, 0, 0, [], j0m), j0, (.if_icmp .ne 16, 3, 0, 52, 0, 0, [], j0m), j0, j0, (.aload_n 0, 1, 0, 0, 0, 0, [], j0m), 
  (.dup, 1, 0, 0, 0, 0, [], j0m), (.getfield 18, 3, 9, 3, 0, 3, [2098], j0m), j0, j0, (.iconst 1, 1, 0, 0, 0, 0, [], j0m), (.iadd, 1, 0, 0, 0, 0, [], j0m), (.putfield 18, 3, 9, 3, 0, 3, [2098], j0m), j0, 
  j0, (.goto (-49), 3, 0, 0, 0, 0, [], j0m), j0, j0, (.aload_n 0, 1, 0, 0, 0, 0, [], j0m), (.aload_n 0, 1, 0, 0, 0, 0, [], j0m), (.getfield 18, 3, 9, 3, 0, 3, [2098], j0m), j0, j0, (.putfield 15, 3, 9, 2, 0, 2, [2097], j0m), 
  j0, j0, (.aload_n 0, 1, 0, 0, 0, 0, [], j0m), (.getfield 18, 3, 9, 3, 0, 3, [2098], j0m), j0, j0, (.aload_n 0, 1, 0, 0, 0, 0, [], j0m), (.getfield 9, 3, 9, 1, 0, 1, [2096], j0m), j0, j0, (.if_icmp .lt 11, 3, 0, 79, 0, 0, [], j0m), 
  j0, j0, (.aload_n 0, 1, 0, 0, 0, 0, [], j0m), (.iconst 0, 1, 0, 0, 0, 0, [], j0m), (.putfield 21, 3, 9, 4, 0, 4, [2099], j0m), j0, j0, (.goto 137, 3, 0, 213, 0, 0, [], j0m), j0, j0, (.aload_n 0, 1, 0, 0, 0, 0, [], j0m), 
  (.getfield 33, 3, 9, 0, 0, 0, [2095], j0m), j0, j0, (.aload_n 0, 1, 0, 0, 0, 0, [], j0m), (.getfield 18, 3, 9, 3, 0, 3, [2098], j0m), j0, j0, (.baload, 1, 0, 0, 2, 0, [], j0m), (.invokestatic 49, 3, 0, 1, 4, 0, [3086, 1001, 3087], m_WordPlaces_isLetter), 
  j0, j0, (.ifCond .eq 47, 3, 0, 138, 0, 0, [], j0m), j0, j0, (.aload_n 0, 1, 0, 0, 0, 0, [], j0m), (.iconst 1, 1, 0, 0, 0, 0, [], j0m), (.putfield 21, 3, 9, 4, 0, 4, [2099], j0m), j0, j0, (.aload_n 0, 1, 0, 0, 0, 0, [], j0m), 
  (.getfield 18, 3, 9, 3, 0, 3, [2098], j0m), j0, j0, (.aload_n 0, 1, 0, 0, 0, 0, [], j0m), (.getfield 9, 3, 9, 1, 0, 1, [2096], j0m), j0, j0, (.if_icmp .ge 106, 3, 0, 213, 0, 0, [], j0m), j0, j0, (.aload_n 0, 1, 0, 0, 0, 0, [], j0m), 
  (.getfield 33, 3, 9, 0, 0, 0, [2095], j0m), j0, j0, (.aload_n 0, 1, 0, 0, 0, 0, [], j0m), (.getfield 18, 3, 9, 3, 0, 3, [2098], j0m), j0, j0, (.baload, 1, 0, 0, 2, 0, [], j0m), (.invokestatic 49, 3, 0, 1, 4, 0, [3086, 1001, 3087], m_WordPlaces_isLetter), 
  j0, j0, (.ifCond .eq 91, 3, 0, 213, 0, 0, [], j0m), j0, j0, (.aload_n 0, 1, 0, 0, 0, 0, [], j0m), (.dup, 1, 0, 0, 0, 0, [], j0m), (.getfield 18, 3, 9, 3, 0, 3, [2098], j0m), j0, j0, (.iconst 1, 1, 0, 0, 0, 0, [], j0m), 
  (.iadd, 1, 0, 0, 0, 0, [], j0m), (.putfield 18, 3, 9, 3, 0, 3, [2098], j0m), j0, j0, (.goto (-36), 3, 0, 99, 0, 0, [], j0m), j0, j0, (.aload_n 0, 1, 0, 0, 0, 0, [], j0m), (.getfield 33, 3, 9, 0, 0, 0, [2095], j0m), 
  j0, j0, (.aload_n 0, 1, 0, 0, 0, 0, [], j0m), (.getfield 18, 3, 9, 3, 0, 3, [2098], j0m), j0, j0, (.baload, 1, 0, 0, 2, 0, [], j0m), (.invokestatic 53, 3, 0, 1, 0, 0, [3088, 3089, 1011, 3090], m_Tokens_isDigit), 
  j0, j0, (.ifCond .eq 10, 3, 0, 160, 0, 0, [], j0m), j0, j0, (.aload_n 0, 1, 0, 0, 0, 0, [], j0m), (.invokevirtual 56, 3, 9, 1, 1, 0, [3091, 3093, 2, 1011, 3094], m_Tokens_readNumber), j0, j0, (.goto 56, 3, 0, 213, 0, 0, [], j0m), 
  j0, j0, (.aload_n 0, 1, 0, 0, 0, 0, [], j0m), (.getfield 33, 3, 9, 0, 0, 0, [2095], j0m), j0, j0, (.aload_n 0, 1, 0, 0, 0, 0, [], j0m), (.getfield 18, 3, 9, 3, 0, 3, [2098], j0m), j0, j0, (.baload, 1, 0, 0, 2, 0, [], j0m), 
  (.istore_n 1, 1, 1, 0, 0, 0, [], j0m), (.aload_n 0, 1, 0, 0, 0, 0, [], j0m), (.iload_n 1, 1, 1, 0, 0, 0, [], j0m), (.bipush 59, 2, 0, 0, 0, 0, [], j0m), j0, (.if_icmp .eq 21, 3, 0, 195, 0, 0, [], j0m), 
  j0, j0, (.iload_n 1, 1, 1, 0, 0, 0, [], j0m), (.bipush 40, 2, 0, 0, 0, 0, [], j0m), j0, (.if_icmp .eq 15, 3, 0, 195, 0, 0, [], j0m), j0, j0, (.iload_n 1, 1, 1, 0, 0, 0, [], j0m), (.bipush 41, 2, 0, 0, 0, 0, [], j0m), 
  j0, (.if_icmp .eq 9, 3, 0, 195, 0, 0, [], j0m), j0, j0, (.iload_n 1, 1, 1, 0, 0, 0, [], j0m), (.bipush 34, 2, 0, 0, 0, 0, [], j0m), j0, (.if_icmp .ne 7, 3, 0, 199, 0, 0, [], j0m), j0, j0, (.iload_n 1, 1, 1, 0, 0, 0, [], j0m), 
  (.goto 4, 3, 0, 200, 0, 0, [], j0m), j0, j0, (.iconst 3, 1, 0, 0, 0, 0, [], j0m), (.putfield 21, 3, 9, 4, 0, 4, [2099], j0m), j0, j0, (.aload_n 0, 1, 0, 0, 0, 0, [], j0m), (.dup, 1, 0, 0, 0, 0, [], j0m), 
  (.getfield 18, 3, 9, 3, 0, 3, [2098], j0m), j0, j0, (.iconst 1, 1, 0, 0, 0, 0, [], j0m), (.iadd, 1, 0, 0, 0, 0, [], j0m), (.putfield 18, 3, 9, 3, 0, 3, [2098], j0m), j0, j0, (.return_, 1, 0, 0, 0, 0, [], j0m)
  ]
set_option maxRecDepth 20000 in
theorem t_Tokens_advance : okT m_Tokens_advance k_Tokens_advance = true := by decide +kernel
def k_Tokens_isDigit : List jO := [
  (.iload_n 0, 1, 0, 0, 0, 0, [], j0m), (.bipush 48, 2, 0, 0, 0, 0, [], j0m), j0, (.if_icmp .lt 13, 3, 0, 16, 0, 0, [], j0m), j0, j0, (.iload_n 0, 1, 0, 0, 0, 0, [], j0m), (.bipush 57, 2, 0, 0, 0, 0, [], j0m), 
  j0, (.if_icmp .gt 7, 3, 0, 16, 0, 0, [], j0m), j0, j0, (.iconst 1, 1, 0, 0, 0, 0, [], j0m), (.goto 4, 3, 0, 17, 0, 0, [], j0m), j0, j0, (.iconst 0, 1, 0, 0, 0, 0, [], j0m), (.ireturn, 1, 0, 0, 1, 0, [], j0m)
  ]
set_option maxRecDepth 20000 in
theorem t_Tokens_isDigit : okT m_Tokens_isDigit k_Tokens_isDigit = true := by decide +kernel
def k_Tokens_readNumber : List jO := [
  (.aload_n 0, 1, 0, 0, 0, 0, [], j0m), (.iconst 2, 1, 0, 0, 0, 0, [], j0m), (.putfield 21, 3, 9, 4, 0, 4, [2099], j0m), j0, j0, (.aload_n 0, 1, 0, 0, 0, 0, [], j0m), (.iconst 0, 1, 0, 0, 0, 0, [], j0m), 
  (.putfield 24, 3, 9, 5, 0, 5, [2102], j0m), j0, j0, (.aload_n 0, 1, 0, 0, 0, 0, [], j0m), (.getfield 18, 3, 9, 3, 0, 3, [2098], j0m), j0, j0, (.aload_n 0, 1, 0, 0, 0, 0, [], j0m), (.getfield 9, 3, 9, 1, 0, 1, [2096], j0m), 
  j0, j0, (.if_icmp .ge 61, 3, 0, 79, 0, 0, [], j0m), j0, j0, (.aload_n 0, 1, 0, 0, 0, 0, [], j0m), (.getfield 33, 3, 9, 0, 0, 0, [2095], j0m), j0, j0, (.aload_n 0, 1, 0, 0, 0, 0, [], j0m), (.getfield 18, 3, 9, 3, 0, 3, [2098], j0m), 
  j0, j0, (.baload, 1, 0, 0, 2, 0, [], j0m), (.invokestatic 53, 3, 0, 1, 0, 0, [3088, 3089, 1011, 3090], m_Tokens_isDigit), j0, j0, (.ifCond .eq 46, 3, 0, 79, 0, 0, [], j0m), j0, j0, (.aload_n 0, 1, 0, 0, 0, 0, [], j0m), 
  (.sipush 1000, 3, 0, 0, 0, 0, [], j0m), j0, j0, (.aload_n 0, 1, 0, 0, 0, 0, [], j0m), (.getfield 24, 3, 9, 5, 0, 5, [2102], j0m), j0, j0, (.bipush 10, 2, 0, 0, 0, 0, [], j0m), j0, (.imul, 1, 0, 0, 0, 0, [], j0m), 
  (.aload_n 0, 1, 0, 0, 0, 0, [], j0m), (.getfield 33, 3, 9, 0, 0, 0, [2095], j0m), j0, j0, (.aload_n 0, 1, 0, 0, 0, 0, [], j0m), (.getfield 18, 3, 9, 3, 0, 3, [2098], j0m), j0, j0, (.baload, 1, 0, 0, 2, 0, [], j0m), 
  (.iadd, 1, 0, 0, 0, 0, [], j0m), (.bipush 48, 2, 0, 0, 0, 0, [], j0m), j0, (.isub, 1, 0, 0, 0, 0, [], j0m), (.invokestatic 37, 3, 0, 2, 1, 0, [3077, 3078, 1005, 3079], j0m), j0, j0, (.putfield 24, 3, 9, 5, 0, 5, [2102], j0m), 
  j0, j0, (.aload_n 0, 1, 0, 0, 0, 0, [], j0m), (.dup, 1, 0, 0, 0, 0, [], j0m), (.getfield 18, 3, 9, 3, 0, 3, [2098], j0m), j0, j0, (.iconst 1, 1, 0, 0, 0, 0, [], j0m), (.iadd, 1, 0, 0, 0, 0, [], j0m), 
  (.putfield 18, 3, 9, 3, 0, 3, [2098], j0m), j0, j0, (.goto (-66), 3, 0, 10, 0, 0, [], j0m), j0, j0, (.return_, 1, 0, 0, 0, 0, [], j0m)]
set_option maxRecDepth 20000 in
theorem t_Tokens_readNumber : okT m_Tokens_readNumber k_Tokens_readNumber = true := by decide +kernel
def k_RuleReader_readRule : List jO := [
  (.aload_n 0, 1, 0, 0, 0, 0, [], j0m), (.getfield 25, 3, 6, 1, 0, 1, [2137], j0m), j0, j0, (.ldc 69, 2, 0, 0, 1, 0, [], j0m), j0, (.invokevirtual 61, 3, 9, 2, 1, 0, [3101, 3102, 3103, 1011, 3104], m_Tokens_is), 
  j0, j0, (.ifCond .eq 11, 3, 0, 20, 0, 0, [], j0m), j0, j0, (.aload_n 0, 1, 0, 0, 0, 0, [], j0m), (.invokevirtual 75, 3, 6, 1, 1, 0, [3153, 3155, 4, 1012, 3156], m_RuleReader_readFold), j0, j0, (.istore_n 1, 1, 1, 0, 0, 0, [], j0m), 
  (.goto 72, 3, 0, 89, 0, 0, [], j0m), j0, j0, (.aload_n 0, 1, 0, 0, 0, 0, [], j0m), (.getfield 25, 3, 6, 1, 0, 1, [2137], j0m), j0, j0, (.ldc 71, 2, 2, 0, 1, 0, [], j0m), j0, (.invokevirtual 61, 3, 9, 2, 1, 0, [3101, 3102, 3103, 1011, 3104], m_Tokens_is), 
  j0, j0, (.ifCond .eq 11, 3, 0, 40, 0, 0, [], j0m), j0, j0, (.aload_n 0, 1, 0, 0, 0, 0, [], j0m), (.invokevirtual 78, 3, 6, 1, 1, 0, [3176, 3178, 5, 1012, 3179], m_RuleReader_readStop), j0, j0, (.istore_n 1, 1, 1, 0, 0, 0, [], j0m), 
  (.goto 52, 3, 0, 89, 0, 0, [], j0m), j0, j0, (.aload_n 0, 1, 0, 0, 0, 0, [], j0m), (.getfield 25, 3, 6, 1, 0, 1, [2137], j0m), j0, j0, (.ldc 73, 2, 3, 0, 1, 0, [], j0m), j0, (.invokevirtual 61, 3, 9, 2, 1, 0, [3101, 3102, 3103, 1011, 3104], m_Tokens_is), 
  j0, j0, (.ifCond .eq 11, 3, 0, 60, 0, 0, [], j0m), j0, j0, (.aload_n 0, 1, 0, 0, 0, 0, [], j0m), (.invokevirtual 81, 3, 6, 1, 1, 0, [3201, 3203, 7, 1012, 3204], m_RuleReader_readRoot), j0, j0, (.istore_n 1, 1, 1, 0, 0, 0, [], j0m), 
  (.goto 32, 3, 0, 89, 0, 0, [], j0m), j0, j0, (.aload_n 0, 1, 0, 0, 0, 0, [], j0m), (.getfield 25, 3, 6, 1, 0, 1, [2137], j0m), j0, j0, (.ldc 59, 2, 5, 0, 1, 0, [], j0m), j0, (.invokevirtual 61, 3, 9, 2, 1, 0, [3101, 3102, 3103, 1011, 3104], m_Tokens_is), 
  j0, j0, (.ifCond .eq 11, 3, 0, 80, 0, 0, [], j0m), j0, j0, (.aload_n 0, 1, 0, 0, 0, 0, [], j0m), (.invokevirtual 84, 3, 6, 1, 1, 0, [3207, 3209, 8, 1012, 3210], m_RuleReader_readOrder), j0, j0, (.istore_n 1, 1, 1, 0, 0, 0, [], j0m), 
  (.goto 12, 3, 0, 89, 0, 0, [], j0m), j0, j0, (.aload_n 0, 1, 0, 0, 0, 0, [], j0m), (.getfield 25, 3, 6, 1, 0, 1, [2137], j0m), j0, j0, (.iconst 1, 1, 0, 0, 0, 0, [], j0m), (.invokevirtual 55, 3, 9, 2, 1, 0, [3170, 3171, 3172, 1011, 3173], m_Tokens_fail), 
  j0, j0, (.istore_n 1, 1, 1, 0, 0, 0, [], j0m), (.iload_n 1, 1, 1, 0, 0, 0, [], j0m), (.ifCond .ne 5, 3, 0, 95, 0, 0, [], j0m), j0, j0, (.iconst 0, 1, 0, 0, 0, 0, [], j0m), (.ireturn, 1, 0, 0, 1, 0, [], j0m), 
  (.aload_n 0, 1, 0, 0, 0, 0, [], j0m), (.getfield 25, 3, 6, 1, 0, 1, [2137], j0m), j0, j0, (.getfield 38, 3, 9, 4, 0, 4, [2100], j0m), j0, j0, (.bipush 59, 2, 0, 0, 0, 0, [], j0m), j0, (.if_icmp .eq 12, 3, 0, 116, 0, 0, [], j0m), 
  j0, j0, (.aload_n 0, 1, 0, 0, 0, 0, [], j0m), (.getfield 25, 3, 6, 1, 0, 1, [2137], j0m), j0, j0, (.iconst 1, 1, 0, 0, 0, 0, [], j0m), (.invokevirtual 55, 3, 9, 2, 1, 0, [3170, 3171, 3172, 1011, 3173], m_Tokens_fail), 
  j0, j0, (.ireturn, 1, 0, 0, 1, 0, [], j0m), (.aload_n 0, 1, 0, 0, 0, 0, [], j0m), (.getfield 25, 3, 6, 1, 0, 1, [2137], j0m), j0, j0, (.invokevirtual 87, 3, 9, 1, 1, 0, [3157, 3082, 3083, 1011, 3084], m_Tokens_advance), 
  j0, j0, (.aload_n 0, 1, 0, 0, 0, 0, [], j0m), (.getfield 12, 3, 6, 0, 0, 0, [2135], j0m), j0, j0, (.dup, 1, 0, 0, 0, 0, [], j0m), (.getfield 90, 3, 7, 0, 0, 0, [1078], j0m), j0, j0, (.iconst 1, 1, 0, 0, 0, 0, [], j0m), 
  (.iadd, 1, 0, 0, 0, 0, [], j0m), (.putfield 90, 3, 7, 0, 0, 0, [1078], j0m), j0, j0, (.iconst 1, 1, 0, 0, 0, 0, [], j0m), (.ireturn, 1, 0, 0, 1, 0, [], j0m)]
set_option maxRecDepth 20000 in
theorem t_RuleReader_readRule : okT m_RuleReader_readRule k_RuleReader_readRule = true := by decide +kernel
def k_Tokens_is : List jO := [
  (.aload_n 0, 1, 0, 0, 0, 0, [], j0m), (.getfield 21, 3, 9, 4, 0, 4, [2099], j0m), j0, j0, (.iconst 1, 1, 0, 0, 0, 0, [], j0m), (.if_icmp .ne 19, 3, 0, 24, 0, 0, [], j0m), j0, j0, (.aload_n 0, 1, 0, 0, 0, 0, [], j0m), 
  (.getfield 18, 3, 9, 3, 0, 3, [2098], j0m), j0, j0, (.aload_n 0, 1, 0, 0, 0, 0, [], j0m), (.getfield 15, 3, 9, 2, 0, 2, [2097], j0m), j0, j0, (.isub, 1, 0, 0, 0, 0, [], j0m), (.aload_n 1, 1, 1, 0, 0, 0, [], j0m), 
  (.invokevirtual 59, 3, 0, 1, 2, 0, [3105, 3106, 3107, 1016, 3108], m_String_length), j0, j0, (.if_icmp .eq 5, 3, 0, 26, 0, 0, [], j0m), j0, j0, (.iconst 0, 1, 0, 0, 0, 0, [], j0m), (.ireturn, 1, 0, 0, 1, 0, [], j0m), 
  (.iconst 0, 1, 0, 0, 0, 0, [], j0m), (.istore_n 2, 1, 2, 0, 0, 0, [], j0m), (.iload_n 2, 1, 2, 0, 0, 0, [], j0m), (.aload_n 1, 1, 1, 0, 0, 0, [], j0m), (.invokevirtual 59, 3, 0, 1, 2, 0, [3105, 3106, 3107, 1016, 3108], m_String_length), 
  j0, j0, (.if_icmp .ge 30, 3, 0, 63, 0, 0, [], j0m), j0, j0, (.aload_n 0, 1, 0, 0, 0, 0, [], j0m), (.getfield 33, 3, 9, 0, 0, 0, [2095], j0m), j0, j0, (.aload_n 0, 1, 0, 0, 0, 0, [], j0m), (.getfield 15, 3, 9, 2, 0, 2, [2097], j0m), 
  j0, j0, (.iload_n 2, 1, 2, 0, 0, 0, [], j0m), (.iadd, 1, 0, 0, 0, 0, [], j0m), (.baload, 1, 0, 0, 2, 0, [], j0m), (.aload_n 1, 1, 1, 0, 0, 0, [], j0m), (.iload_n 2, 1, 2, 0, 0, 0, [], j0m), (.invokevirtual 64, 3, 0, 2, 3, 0, [3115, 3116, 3117, 1016, 3118], m_String_charAt), 
  j0, j0, (.if_icmp .eq 5, 3, 0, 57, 0, 0, [], j0m), j0, j0, (.iconst 0, 1, 0, 0, 0, 0, [], j0m), (.ireturn, 1, 0, 0, 1, 0, [], j0m), (.iinc 2 1, 3, 2, 0, 0, 0, [], j0m), j0, j0, (.goto (-32), 3, 0, 28, 0, 0, [], j0m), 
  j0, j0, (.iconst 1, 1, 0, 0, 0, 0, [], j0m), (.ireturn, 1, 0, 0, 1, 0, [], j0m)]
set_option maxRecDepth 20000 in
theorem t_Tokens_is : okT m_Tokens_is k_Tokens_is = true := by decide +kernel
def k_RuleReader_readFold : List jO := [
  (.aload_n 0, 1, 0, 0, 0, 0, [], j0m), (.getfield 25, 3, 6, 1, 0, 1, [2137], j0m), j0, j0, (.invokevirtual 87, 3, 9, 1, 1, 0, [3157, 3082, 3083, 1011, 3084], m_Tokens_advance), j0, j0, (.aload_n 0, 1, 0, 0, 0, 0, [], j0m), 
  (.getfield 25, 3, 6, 1, 0, 1, [2137], j0m), j0, j0, (.invokevirtual 93, 3, 9, 1, 1, 0, [3158, 3159, 3160, 1011, 3161], m_Tokens_onlyLetter), j0, j0, (.istore_n 1, 1, 1, 0, 0, 0, [], j0m), (.iload_n 1, 1, 1, 0, 0, 0, [], j0m), 
  (.ifCond .lt 9, 3, 0, 25, 0, 0, [], j0m), j0, j0, (.iload_n 1, 1, 1, 0, 0, 0, [], j0m), (.bipush 26, 2, 0, 0, 0, 0, [], j0m), j0, (.if_icmp .lt 12, 3, 0, 34, 0, 0, [], j0m), j0, j0, (.aload_n 0, 1, 0, 0, 0, 0, [], j0m), 
  (.getfield 25, 3, 6, 1, 0, 1, [2137], j0m), j0, j0, (.iconst 1, 1, 0, 0, 0, 0, [], j0m), (.invokevirtual 55, 3, 9, 2, 1, 0, [3170, 3171, 3172, 1011, 3173], m_Tokens_fail), j0, j0, (.ireturn, 1, 0, 0, 1, 0, [], j0m), 
  (.aload_n 0, 1, 0, 0, 0, 0, [], j0m), (.getfield 12, 3, 6, 0, 0, 0, [2135], j0m), j0, j0, (.getfield 97, 3, 7, 2, 0, 2, [1087], j0m), j0, j0, (.iload_n 1, 1, 1, 0, 0, 0, [], j0m), (.baload, 1, 0, 0, 2, 0, [], j0m), 
  (.ifCond .eq 12, 3, 0, 55, 0, 0, [], j0m), j0, j0, (.aload_n 0, 1, 0, 0, 0, 0, [], j0m), (.getfield 25, 3, 6, 1, 0, 1, [2137], j0m), j0, j0, (.iconst 2, 1, 0, 0, 0, 0, [], j0m), (.invokevirtual 55, 3, 9, 2, 1, 0, [3170, 3171, 3172, 1011, 3173], m_Tokens_fail), 
  j0, j0, (.ireturn, 1, 0, 0, 1, 0, [], j0m), (.aload_n 0, 1, 0, 0, 0, 0, [], j0m), (.getfield 25, 3, 6, 1, 0, 1, [2137], j0m), j0, j0, (.invokevirtual 87, 3, 9, 1, 1, 0, [3157, 3082, 3083, 1011, 3084], m_Tokens_advance), 
  j0, j0, (.aload_n 0, 1, 0, 0, 0, 0, [], j0m), (.getfield 25, 3, 6, 1, 0, 1, [2137], j0m), j0, j0, (.ldc 101, 2, 1, 0, 1, 0, [], j0m), j0, (.invokevirtual 61, 3, 9, 2, 1, 0, [3101, 3102, 3103, 1011, 3104], m_Tokens_is), 
  j0, j0, (.ifCond .ne 12, 3, 0, 83, 0, 0, [], j0m), j0, j0, (.aload_n 0, 1, 0, 0, 0, 0, [], j0m), (.getfield 25, 3, 6, 1, 0, 1, [2137], j0m), j0, j0, (.iconst 1, 1, 0, 0, 0, 0, [], j0m), (.invokevirtual 55, 3, 9, 2, 1, 0, [3170, 3171, 3172, 1011, 3173], m_Tokens_fail), 
  j0, j0, (.ireturn, 1, 0, 0, 1, 0, [], j0m), (.aload_n 0, 1, 0, 0, 0, 0, [], j0m), (.getfield 25, 3, 6, 1, 0, 1, [2137], j0m), j0, j0, (.invokevirtual 87, 3, 9, 1, 1, 0, [3157, 3082, 3083, 1011, 3084], m_Tokens_advance), 
  j0, j0, (.aload_n 0, 1, 0, 0, 0, 0, [], j0m), (.getfield 25, 3, 6, 1, 0, 1, [2137], j0m), j0, j0, (.invokevirtual 93, 3, 9, 1, 1, 0, [3158, 3159, 3160, 1011, 3161], m_Tokens_onlyLetter), j0, j0, (.istore_n 2, 1, 2, 0, 0, 0, [], j0m), 
  (.iload_n 2, 1, 2, 0, 0, 0, [], j0m), (.ifCond .lt 9, 3, 0, 108, 0, 0, [], j0m), j0, j0, (.iload_n 2, 1, 2, 0, 0, 0, [], j0m), (.bipush 26, 2, 0, 0, 0, 0, [], j0m), j0, (.if_icmp .lt 12, 3, 0, 117, 0, 0, [], j0m), 
  j0, j0, (.aload_n 0, 1, 0, 0, 0, 0, [], j0m), (.getfield 25, 3, 6, 1, 0, 1, [2137], j0m), j0, j0, (.iconst 1, 1, 0, 0, 0, 0, [], j0m), (.invokevirtual 55, 3, 9, 2, 1, 0, [3170, 3171, 3172, 1011, 3173], m_Tokens_fail), 
  j0, j0, (.ireturn, 1, 0, 0, 1, 0, [], j0m), (.aload_n 0, 1, 0, 0, 0, 0, [], j0m), (.getfield 25, 3, 6, 1, 0, 1, [2137], j0m), j0, j0, (.invokevirtual 87, 3, 9, 1, 1, 0, [3157, 3082, 3083, 1011, 3084], m_Tokens_advance), 
  j0, j0, (.aload_n 0, 1, 0, 0, 0, 0, [], j0m), (.getfield 12, 3, 6, 0, 0, 0, [2135], j0m), j0, j0, (.getfield 103, 3, 7, 1, 0, 1, [1082], j0m), j0, j0, (.iload_n 1, 1, 1, 0, 0, 0, [], j0m), (.iload_n 2, 1, 2, 0, 0, 0, [], j0m), 
  (.i2b, 1, 0, 0, 0, 0, [], j0m), (.bastore, 1, 0, 0, 2, 0, [], j0m), (.aload_n 0, 1, 0, 0, 0, 0, [], j0m), (.getfield 12, 3, 6, 0, 0, 0, [2135], j0m), j0, j0, (.getfield 97, 3, 7, 2, 0, 2, [1087], j0m), 
  j0, j0, (.iload_n 1, 1, 1, 0, 0, 0, [], j0m), (.iconst 1, 1, 0, 0, 0, 0, [], j0m), (.bastore, 1, 0, 0, 2, 0, [], j0m), (.aload_n 0, 1, 0, 0, 0, 0, [], j0m), (.getfield 12, 3, 6, 0, 0, 0, [2135], j0m), 
  j0, j0, (.dup, 1, 0, 0, 0, 0, [], j0m), (.getfield 105, 3, 7, 3, 0, 3, [1089], j0m), j0, j0, (.iconst 1, 1, 0, 0, 0, 0, [], j0m), (.iadd, 1, 0, 0, 0, 0, [], j0m), (.putfield 105, 3, 7, 3, 0, 3, [1089], j0m), 
  j0, j0, (.iconst 1, 1, 0, 0, 0, 0, [], j0m), (.ireturn, 1, 0, 0, 1, 0, [], j0m)]
set_option maxRecDepth 20000 in
theorem t_RuleReader_readFold : okT m_RuleReader_readFold k_RuleReader_readFold = true := by decide +kernel
def k_Tokens_onlyLetter : List jO := [
  (.aload_n 0, 1, 0, 0, 0, 0, [], j0m), (.invokevirtual 68, 3, 9, 1, 1, 0, [3162, 3163, 3164, 1011, 3165], m_Tokens_letterCount), j0, j0, (.iconst 1, 1, 0, 0, 0, 0, [], j0m), (.if_icmp .ne 11, 3, 0, 16, 0, 0, [], j0m), 
  j0, j0, (.aload_n 0, 1, 0, 0, 0, 0, [], j0m), (.iconst 0, 1, 0, 0, 0, 0, [], j0m), (.invokevirtual 71, 3, 9, 2, 1, 0, [3166, 3167, 3168, 1011, 3169], m_Tokens_letterAt), j0, j0, (.goto 4, 3, 0, 17, 0, 0, [], j0m), 
  j0, j0, (.iconst (-1), 1, 0, 0, 0, 0, [], j0m), (.ireturn, 1, 0, 0, 0, 0, [], j0m)]
set_option maxRecDepth 20000 in
theorem t_Tokens_onlyLetter : okT m_Tokens_onlyLetter k_Tokens_onlyLetter = true := by decide +kernel
def k_Tokens_letterCount : List jO := [
  (.aload_n 0, 1, 0, 0, 0, 0, [], j0m), (.getfield 21, 3, 9, 4, 0, 4, [2099], j0m), j0, j0, (.iconst 1, 1, 0, 0, 0, 0, [], j0m), (.if_icmp .ne 15, 3, 0, 20, 0, 0, [], j0m), j0, j0, (.aload_n 0, 1, 0, 0, 0, 0, [], j0m), 
  (.getfield 18, 3, 9, 3, 0, 3, [2098], j0m), j0, j0, (.aload_n 0, 1, 0, 0, 0, 0, [], j0m), (.getfield 15, 3, 9, 2, 0, 2, [2097], j0m), j0, j0, (.isub, 1, 0, 0, 0, 0, [], j0m), (.goto 4, 3, 0, 21, 0, 0, [], j0m), 
  j0, j0, (.iconst 0, 1, 0, 0, 0, 0, [], j0m), (.ireturn, 1, 0, 0, 0, 0, [], j0m)]
set_option maxRecDepth 20000 in
theorem t_Tokens_letterCount : okT m_Tokens_letterCount k_Tokens_letterCount = true := by decide +kernel
def k_Tokens_letterAt : List jO := [
  (.aload_n 0, 1, 0, 0, 0, 0, [], j0m), (.getfield 15, 3, 9, 2, 0, 2, [2097], j0m), j0, j0, (.iload_n 1, 1, 1, 0, 0, 0, [], j0m), (.iadd, 1, 0, 0, 0, 0, [], j0m), (.istore_n 2, 1, 2, 0, 0, 0, [], j0m), 
  (.iload_n 1, 1, 1, 0, 0, 0, [], j0m), (.ifCond .lt 32, 3, 0, 40, 0, 0, [], j0m), j0, j0, (.iload_n 2, 1, 2, 0, 0, 0, [], j0m), (.aload_n 0, 1, 0, 0, 0, 0, [], j0m), (.getfield 18, 3, 9, 3, 0, 3, [2098], j0m), 
  j0, j0, (.if_icmp .ge 24, 3, 0, 40, 0, 0, [], j0m), j0, j0, (.iload_n 2, 1, 2, 0, 0, 0, [], j0m), (.aload_n 0, 1, 0, 0, 0, 0, [], j0m), (.getfield 33, 3, 9, 0, 0, 0, [2095], j0m), j0, j0, (.arraylength, 1, 0, 0, 0, 0, [], j0m), 
  (.if_icmp .ge 15, 3, 0, 40, 0, 0, [], j0m), j0, j0, (.aload_n 0, 1, 0, 0, 0, 0, [], j0m), (.getfield 33, 3, 9, 0, 0, 0, [2095], j0m), j0, j0, (.iload_n 2, 1, 2, 0, 0, 0, [], j0m), (.baload, 1, 0, 0, 2, 0, [], j0m), 
  (.bipush 97, 2, 0, 0, 0, 0, [], j0m), j0, (.isub, 1, 0, 0, 0, 0, [], j0m), (.goto 4, 3, 0, 41, 0, 0, [], j0m), j0, j0, (.iconst (-1), 1, 0, 0, 0, 0, [], j0m), (.ireturn, 1, 0, 0, 0, 0, [], j0m)]
set_option maxRecDepth 20000 in
theorem t_Tokens_letterAt : okT m_Tokens_letterAt k_Tokens_letterAt = true := by decide +kernel
def k_Tokens_fail : List jO := [
  (.aload_n 0, 1, 0, 0, 0, 0, [], j0m), (.iload_n 1, 1, 1, 0, 0, 0, [], j0m), (.putfield 27, 3, 9, 6, 0, 6, [2104], j0m), j0, j0, (.aload_n 0, 1, 0, 0, 0, 0, [], j0m), (.aload_n 0, 1, 0, 0, 0, 0, [], j0m), 
  (.getfield 15, 3, 9, 2, 0, 2, [2097], j0m), j0, j0, (.putfield 30, 3, 9, 7, 0, 7, [2106], j0m), j0, j0, (.iconst 0, 1, 0, 0, 0, 0, [], j0m), (.ireturn, 1, 0, 0, 1, 0, [], j0m)]
set_option maxRecDepth 20000 in
theorem t_Tokens_fail : okT m_Tokens_fail k_Tokens_fail = true := by decide +kernel
def k_RuleReader_readStop : List jO := [
  (.aload_n 0, 1, 0, 0, 0, 0, [], j0m), (.getfield 25, 3, 6, 1, 0, 1, [2137], j0m), j0, j0, (.invokevirtual 87, 3, 9, 1, 1, 0, [3157, 3082, 3083, 1011, 3084], m_Tokens_advance), j0, j0, (.aload_n 0, 1, 0, 0, 0, 0, [], j0m), 
  (.aload_n 0, 1, 0, 0, 0, 0, [], j0m), (.getfield 12, 3, 6, 0, 0, 0, [2135], j0m), j0, j0, (.getfield 108, 3, 7, 4, 0, 4, [1092], j0m), j0, j0, (.aload_n 0, 1, 0, 0, 0, 0, [], j0m), (.getfield 12, 3, 6, 0, 0, 0, [2135], j0m), 
  j0, j0, (.getfield 112, 3, 7, 5, 0, 5, [1094], j0m), j0, j0, (.invokevirtual 115, 3, 6, 3, 1, 0, [3180, 3182, 6, 1012, 3183], m_RuleReader_readWord), j0, j0, (.ifCond .ne 5, 3, 0, 30, 0, 0, [], j0m), 
  j0, j0, (.iconst 0, 1, 0, 0, 0, 0, [], j0m), (.ireturn, 1, 0, 0, 1, 0, [], j0m), (.aload_n 0, 1, 0, 0, 0, 0, [], j0m), (.getfield 12, 3, 6, 0, 0, 0, [2135], j0m), j0, j0, (.dup, 1, 0, 0, 0, 0, [], j0m), 
  (.getfield 112, 3, 7, 5, 0, 5, [1094], j0m), j0, j0, (.iconst 1, 1, 0, 0, 0, 0, [], j0m), (.iadd, 1, 0, 0, 0, 0, [], j0m), (.putfield 112, 3, 7, 5, 0, 5, [1094], j0m), j0, j0, (.iconst 1, 1, 0, 0, 0, 0, [], j0m), 
  (.ireturn, 1, 0, 0, 1, 0, [], j0m)]
set_option maxRecDepth 20000 in
theorem t_RuleReader_readStop : okT m_RuleReader_readStop k_RuleReader_readStop = true := by decide +kernel
def k_RuleReader_readWord : List jO := [
  (.aload_n 0, 1, 0, 0, 0, 0, [], j0m), (.getfield 25, 3, 6, 1, 0, 1, [2137], j0m), j0, j0, (.getfield 38, 3, 9, 4, 0, 4, [2100], j0m), j0, j0, (.iconst 1, 1, 0, 0, 0, 0, [], j0m), (.if_icmp .eq 12, 3, 0, 20, 0, 0, [], j0m), 
  j0, j0, (.aload_n 0, 1, 0, 0, 0, 0, [], j0m), (.getfield 25, 3, 6, 1, 0, 1, [2137], j0m), j0, j0, (.iconst 1, 1, 0, 0, 0, 0, [], j0m), (.invokevirtual 55, 3, 9, 2, 1, 0, [3170, 3171, 3172, 1011, 3173], m_Tokens_fail), 
  j0, j0, (.ireturn, 1, 0, 0, 1, 0, [], j0m), (.aload_n 0, 1, 0, 0, 0, 0, [], j0m), (.getfield 25, 3, 6, 1, 0, 1, [2137], j0m), j0, j0, (.aload_n 0, 1, 0, 0, 0, 0, [], j0m), (.getfield 21, 3, 6, 2, 0, 2, [2138], j0m), 
  j0, j0, (.invokevirtual 134, 3, 9, 2, 1, 0, [3184, 3185, 3186, 1011, 3187], m_Tokens_readInto), j0, j0, (.aload_n 1, 1, 1, 0, 0, 0, [], j0m), (.iload_n 2, 1, 2, 0, 0, 0, [], j0m), (.aload_n 0, 1, 0, 0, 0, 0, [], j0m), 
  (.getfield 21, 3, 6, 2, 0, 2, [2138], j0m), j0, j0, (.getfield 138, 3, 3, 0, 0, 0, [1195], j0m), j0, j0, (.aload_n 0, 1, 0, 0, 0, 0, [], j0m), (.getfield 21, 3, 6, 2, 0, 2, [2138], j0m), j0, j0, (.getfield 142, 3, 3, 1, 0, 1, [1201], j0m), 
  j0, j0, (.invokevirtual 145, 3, 4, 4, 1, 0, [3196, 3197, 3198, 1004, 3199], m_KeyRow_put), j0, j0, (.aload_n 0, 1, 0, 0, 0, 0, [], j0m), (.getfield 25, 3, 6, 1, 0, 1, [2137], j0m), j0, j0, (.invokevirtual 87, 3, 9, 1, 1, 0, [3157, 3082, 3083, 1011, 3084], m_Tokens_advance), 
  j0, j0, (.iconst 1, 1, 0, 0, 0, 0, [], j0m), (.ireturn, 1, 0, 0, 1, 0, [], j0m)]
set_option maxRecDepth 20000 in
theorem t_RuleReader_readWord : okT m_RuleReader_readWord k_RuleReader_readWord = true := by decide +kernel
def k_Tokens_readInto : List jO := [
  (.aload_n 1, 1, 1, 0, 0, 0, [], j0m), (.invokevirtual 75, 3, 3, 1, 1, 0, [3188, 3189, 3190, 1009, 3191], m_Key_clear), j0, j0, (.iconst 0, 1, 0, 0, 0, 0, [], j0m), (.istore_n 2, 1, 2, 0, 0, 0, [], j0m), 
  (.iload_n 2, 1, 2, 0, 0, 0, [], j0m), (.aload_n 0, 1, 0, 0, 0, 0, [], j0m), (.invokevirtual 68, 3, 9, 1, 1, 0, [3162, 3163, 3164, 1011, 3165], m_Tokens_letterCount), j0, j0, (.if_icmp .ge 24, 3, 0, 35, 0, 0, [], j0m), 
  j0, j0, (.iload_n 2, 1, 2, 0, 0, 0, [], j0m), (.bipush 20, 2, 0, 0, 0, 0, [], j0m), j0, (.if_icmp .ge 18, 3, 0, 35, 0, 0, [], j0m), j0, j0, (.aload_n 1, 1, 1, 0, 0, 0, [], j0m), (.aload_n 0, 1, 0, 0, 0, 0, [], j0m), 
  (.iload_n 2, 1, 2, 0, 0, 0, [], j0m), (.invokevirtual 71, 3, 9, 2, 1, 0, [3166, 3167, 3168, 1011, 3169], m_Tokens_letterAt), j0, j0, (.invokevirtual 80, 3, 3, 2, 1, 0, [3192, 3193, 3194, 1009, 3195], m_Key_add), 
  j0, j0, (.iinc 2 1, 3, 2, 0, 0, 0, [], j0m), j0, j0, (.goto (-26), 3, 0, 6, 0, 0, [], j0m), j0, j0, (.return_, 1, 0, 0, 0, 0, [], j0m)]
set_option maxRecDepth 20000 in
theorem t_Tokens_readInto : okT m_Tokens_readInto k_Tokens_readInto = true := by decide +kernel
def k_Key_clear : List jO := [
  (.aload_n 0, 1, 0, 0, 0, 0, [], j0m), (.lconst 0, 1, 0, 0, 0, 0, [], j0m), (.putfield 9, 3, 3, 0, 0, 0, [1191], j0m), j0, j0, (.aload_n 0, 1, 0, 0, 0, 0, [], j0m), (.lconst 0, 1, 0, 0, 0, 0, [], j0m), 
  (.putfield 15, 3, 3, 1, 0, 1, [1197], j0m), j0, j0, (.aload_n 0, 1, 0, 0, 0, 0, [], j0m), (.iconst 0, 1, 0, 0, 0, 0, [], j0m), (.putfield 18, 3, 3, 2, 0, 2, [1203], j0m), j0, j0, (.return_, 1, 0, 0, 0, 0, [], j0m)
  ]
set_option maxRecDepth 20000 in
theorem t_Key_clear : okT m_Key_clear k_Key_clear = true := by decide +kernel
def k_Key_add : List jO := [
  (.aload_n 0, 1, 0, 0, 0, 0, [], j0m), (.getfield 18, 3, 3, 2, 0, 2, [1203], j0m), j0, j0, (.bipush 20, 2, 0, 0, 0, 0, [], j0m), j0, (.if_icmp .ge 13, 3, 0, 19, 0, 0, [], j0m), j0, j0, (.iload_n 1, 1, 1, 0, 0, 0, [], j0m), 
  (.ifCond .lt 9, 3, 0, 19, 0, 0, [], j0m), j0, j0, (.iload_n 1, 1, 1, 0, 0, 0, [], j0m), (.bipush 26, 2, 0, 0, 0, 0, [], j0m), j0, (.if_icmp .lt 4, 3, 0, 20, 0, 0, [], j0m), j0, j0, (.return_, 1, 0, 0, 0, 0, [], j0m), 
  (.iload_n 1, 1, 1, 0, 0, 0, [], j0m), (.i2l, 1, 0, 0, 0, 0, [], j0m), (.lconst 1, 1, 0, 0, 0, 1, [], j0m), (.ladd, 1, 0, 0, 0, 0, [], j0m), (.bipush 45, 2, 0, 0, 0, 0, [], j0m), j0, (.iconst 5, 1, 0, 0, 0, 0, [], j0m), 
  (.aload_n 0, 1, 0, 0, 0, 0, [], j0m), (.getfield 18, 3, 3, 2, 0, 2, [1203], j0m), j0, j0, (.bipush 10, 2, 0, 0, 0, 0, [], j0m), j0, (.irem, 1, 0, 0, 0, 0, [], j0m), (.imul, 1, 0, 0, 0, 0, [], j0m), (.isub, 1, 0, 0, 0, 0, [], j0m), 
  (.lshl, 1, 0, 0, 0, 0, [], j0m), (.lstore_n 2, 1, 2, 0, 0, 0, [], j0m), (.aload_n 0, 1, 0, 0, 0, 0, [], j0m), (.getfield 18, 3, 3, 2, 0, 2, [1203], j0m), j0, j0, (.bipush 10, 2, 0, 0, 0, 0, [], j0m), 
  j0, (.if_icmp .ge 16, 3, 0, 60, 0, 0, [], j0m), j0, j0, (.aload_n 0, 1, 0, 0, 0, 0, [], j0m), (.dup, 1, 0, 0, 0, 0, [], j0m), (.getfield 9, 3, 3, 0, 0, 0, [1191], j0m), j0, j0, (.lload_n 2, 1, 2, 0, 0, 0, [], j0m), 
  (.lor, 1, 0, 0, 0, 0, [], j0m), (.putfield 9, 3, 3, 0, 0, 0, [1191], j0m), j0, j0, (.goto 13, 3, 0, 70, 0, 0, [], j0m), j0, j0, (.aload_n 0, 1, 0, 0, 0, 0, [], j0m), (.dup, 1, 0, 0, 0, 0, [], j0m), (.getfield 15, 3, 3, 1, 0, 1, [1197], j0m), 
  j0, j0, (.lload_n 2, 1, 2, 0, 0, 0, [], j0m), (.lor, 1, 0, 0, 0, 0, [], j0m), (.putfield 15, 3, 3, 1, 0, 1, [1197], j0m), j0, j0, (.aload_n 0, 1, 0, 0, 0, 0, [], j0m), (.dup, 1, 0, 0, 0, 0, [], j0m), 
  (.getfield 18, 3, 3, 2, 0, 2, [1203], j0m), j0, j0, (.iconst 1, 1, 0, 0, 0, 0, [], j0m), (.iadd, 1, 0, 0, 0, 0, [], j0m), (.putfield 18, 3, 3, 2, 0, 2, [1203], j0m), j0, j0, (.return_, 1, 0, 0, 0, 0, [], j0m)
  ]
set_option maxRecDepth 20000 in
theorem t_Key_add : okT m_Key_add k_Key_add = true := by decide +kernel
def k_KeyRow_put : List jO := [
  (.iload_n 1, 1, 1, 0, 0, 0, [], j0m), (.ifCond .lt 27, 3, 0, 28, 0, 0, [], j0m), j0, j0, (.iload_n 1, 1, 1, 0, 0, 0, [], j0m), (.aload_n 0, 1, 0, 0, 0, 0, [], j0m), (.getfield 13, 3, 4, 0, 0, 0, [1051], j0m), 
  j0, j0, (.arraylength, 1, 0, 0, 0, 0, [], j0m), (.if_icmp .ge 18, 3, 0, 28, 0, 0, [], j0m), j0, j0, (.aload_n 0, 1, 0, 0, 0, 0, [], j0m), (.getfield 13, 3, 4, 0, 0, 0, [1051], j0m), j0, j0, (.iload_n 1, 1, 1, 0, 0, 0, [], j0m), 
  (.lload_n 2, 1, 2, 0, 0, 0, [], j0m), (.lastore, 1, 0, 0, 0, 0, [], j0m), (.aload_n 0, 1, 0, 0, 0, 0, [], j0m), (.getfield 19, 3, 4, 1, 0, 1, [1057], j0m), j0, j0, (.iload_n 1, 1, 1, 0, 0, 0, [], j0m), 
  (.lload 4, 2, 4, 0, 0, 0, [], j0m), j0, (.lastore, 1, 0, 0, 0, 0, [], j0m), (.return_, 1, 0, 0, 0, 0, [], j0m)]
set_option maxRecDepth 20000 in
theorem t_KeyRow_put : okT m_KeyRow_put k_KeyRow_put = true := by decide +kernel
def k_RuleReader_readRoot : List jO := [
  (.aload_n 0, 1, 0, 0, 0, 0, [], j0m), (.getfield 12, 3, 6, 0, 0, 0, [2135], j0m), j0, j0, (.getfield 119, 3, 7, 7, 0, 7, [1099], j0m), j0, j0, (.istore_n 1, 1, 1, 0, 0, 0, [], j0m), (.aload_n 0, 1, 0, 0, 0, 0, [], j0m), 
  (.getfield 25, 3, 6, 1, 0, 1, [2137], j0m), j0, j0, (.invokevirtual 87, 3, 9, 1, 1, 0, [3157, 3082, 3083, 1011, 3084], m_Tokens_advance), j0, j0, (.iload_n 1, 1, 1, 0, 0, 0, [], j0m), (.ifCond .lt 24, 3, 0, 40, 0, 0, [], j0m), 
  j0, j0, (.iload_n 1, 1, 1, 0, 0, 0, [], j0m), (.bipush 20, 2, 0, 0, 0, 0, [], j0m), j0, (.if_icmp .ge 18, 3, 0, 40, 0, 0, [], j0m), j0, j0, (.aload_n 0, 1, 0, 0, 0, 0, [], j0m), (.aload_n 0, 1, 0, 0, 0, 0, [], j0m), 
  (.getfield 12, 3, 6, 0, 0, 0, [2135], j0m), j0, j0, (.getfield 122, 3, 7, 6, 0, 6, [1097], j0m), j0, j0, (.iload_n 1, 1, 1, 0, 0, 0, [], j0m), (.invokevirtual 115, 3, 6, 3, 1, 0, [3180, 3182, 6, 1012, 3183], m_RuleReader_readWord), 
  j0, j0, (.ifCond .ne 5, 3, 0, 42, 0, 0, [], j0m), j0, j0, (.iconst 0, 1, 0, 0, 0, 0, [], j0m), (.ireturn, 1, 0, 0, 1, 0, [], j0m), (.aload_n 0, 1, 0, 0, 0, 0, [], j0m), (.getfield 25, 3, 6, 1, 0, 1, [2137], j0m), 
  j0, j0, (.ldc 125, 2, 4, 0, 1, 0, [], j0m), j0, (.invokevirtual 61, 3, 9, 2, 1, 0, [3101, 3102, 3103, 1011, 3104], m_Tokens_is), j0, j0, (.ifCond .ne 12, 3, 0, 63, 0, 0, [], j0m), j0, j0, (.aload_n 0, 1, 0, 0, 0, 0, [], j0m), 
  (.getfield 25, 3, 6, 1, 0, 1, [2137], j0m), j0, j0, (.iconst 1, 1, 0, 0, 0, 0, [], j0m), (.invokevirtual 55, 3, 9, 2, 1, 0, [3170, 3171, 3172, 1011, 3173], m_Tokens_fail), j0, j0, (.ireturn, 1, 0, 0, 1, 0, [], j0m), 
  (.aload_n 0, 1, 0, 0, 0, 0, [], j0m), (.getfield 25, 3, 6, 1, 0, 1, [2137], j0m), j0, j0, (.invokevirtual 87, 3, 9, 1, 1, 0, [3157, 3082, 3083, 1011, 3084], m_Tokens_advance), j0, j0, (.iconst 0, 1, 0, 0, 0, 0, [], j0m), 
  (.istore_n 2, 1, 2, 0, 0, 0, [], j0m), (.iload_n 2, 1, 2, 0, 0, 0, [], j0m), (.iconst 4, 1, 0, 0, 0, 0, [], j0m), (.if_icmp .lt 12, 3, 0, 86, 0, 0, [], j0m), j0, j0, (.aload_n 0, 1, 0, 0, 0, 0, [], j0m), 
  (.getfield 25, 3, 6, 1, 0, 1, [2137], j0m), j0, j0, (.iconst 3, 1, 0, 0, 0, 0, [], j0m), (.invokevirtual 55, 3, 9, 2, 1, 0, [3170, 3171, 3172, 1011, 3173], m_Tokens_fail), j0, j0, (.ireturn, 1, 0, 0, 1, 0, [], j0m), 
  (.aload_n 0, 1, 0, 0, 0, 0, [], j0m), (.aload_n 0, 1, 0, 0, 0, 0, [], j0m), (.getfield 12, 3, 6, 0, 0, 0, [2135], j0m), j0, j0, (.getfield 127, 3, 7, 8, 0, 8, [1102], j0m), j0, j0, (.iload_n 1, 1, 1, 0, 0, 0, [], j0m), 
  (.iconst 4, 1, 0, 0, 0, 0, [], j0m), (.imul, 1, 0, 0, 0, 0, [], j0m), (.iload_n 2, 1, 2, 0, 0, 0, [], j0m), (.iadd, 1, 0, 0, 0, 0, [], j0m), (.invokevirtual 115, 3, 6, 3, 1, 0, [3180, 3182, 6, 1012, 3183], m_RuleReader_readWord), 
  j0, j0, (.ifCond .ne 5, 3, 0, 107, 0, 0, [], j0m), j0, j0, (.iconst 0, 1, 0, 0, 0, 0, [], j0m), (.ireturn, 1, 0, 0, 1, 0, [], j0m), (.iinc 2 1, 3, 2, 0, 0, 0, [], j0m), j0, j0, (.aload_n 0, 1, 0, 0, 0, 0, [], j0m), 
  (.getfield 25, 3, 6, 1, 0, 1, [2137], j0m), j0, j0, (.getfield 38, 3, 9, 4, 0, 4, [2100], j0m), j0, j0, (.iconst 1, 1, 0, 0, 0, 0, [], j0m), (.if_icmp .eq (-46), 3, 0, 72, 0, 0, [], j0m), j0, j0, (.aload_n 0, 1, 0, 0, 0, 0, [], j0m), 
  (.getfield 12, 3, 6, 0, 0, 0, [2135], j0m), j0, j0, (.getfield 130, 3, 7, 9, 0, 9, [1105], j0m), j0, j0, (.iload_n 1, 1, 1, 0, 0, 0, [], j0m), (.iload_n 2, 1, 2, 0, 0, 0, [], j0m), (.iastore, 1, 0, 0, 0, 0, [], j0m), 
  (.aload_n 0, 1, 0, 0, 0, 0, [], j0m), (.getfield 12, 3, 6, 0, 0, 0, [2135], j0m), j0, j0, (.dup, 1, 0, 0, 0, 0, [], j0m), (.getfield 119, 3, 7, 7, 0, 7, [1099], j0m), j0, j0, (.iconst 1, 1, 0, 0, 0, 0, [], j0m), 
  (.iadd, 1, 0, 0, 0, 0, [], j0m), (.putfield 119, 3, 7, 7, 0, 7, [1099], j0m), j0, j0, (.iconst 1, 1, 0, 0, 0, 0, [], j0m), (.ireturn, 1, 0, 0, 1, 0, [], j0m)]
set_option maxRecDepth 20000 in
theorem t_RuleReader_readRoot : okT m_RuleReader_readRoot k_RuleReader_readRoot = true := by decide +kernel
def k_RuleReader_readOrder : List jO := [
  (.aload_n 0, 1, 0, 0, 0, 0, [], j0m), (.getfield 12, 3, 6, 0, 0, 0, [2135], j0m), j0, j0, (.getfield 65, 3, 7, 11, 0, 11, [1111], j0m), j0, j0, (.ifCond .eq 12, 3, 0, 19, 0, 0, [], j0m), j0, j0, (.aload_n 0, 1, 0, 0, 0, 0, [], j0m), 
  (.getfield 25, 3, 6, 1, 0, 1, [2137], j0m), j0, j0, (.iconst 2, 1, 0, 0, 0, 0, [], j0m), (.invokevirtual 55, 3, 9, 2, 1, 0, [3170, 3171, 3172, 1011, 3173], m_Tokens_fail), j0, j0, (.ireturn, 1, 0, 0, 1, 0, [], j0m), 
  (.aload_n 0, 1, 0, 0, 0, 0, [], j0m), (.getfield 25, 3, 6, 1, 0, 1, [2137], j0m), j0, j0, (.invokevirtual 87, 3, 9, 1, 1, 0, [3157, 3082, 3083, 1011, 3084], m_Tokens_advance), j0, j0, (.aload_n 0, 1, 0, 0, 0, 0, [], j0m), 
  (.getfield 25, 3, 6, 1, 0, 1, [2137], j0m), j0, j0, (.getfield 38, 3, 9, 4, 0, 4, [2100], j0m), j0, j0, (.iconst 1, 1, 0, 0, 0, 0, [], j0m), (.if_icmp .eq 12, 3, 0, 46, 0, 0, [], j0m), j0, j0, (.aload_n 0, 1, 0, 0, 0, 0, [], j0m), 
  (.getfield 25, 3, 6, 1, 0, 1, [2137], j0m), j0, j0, (.iconst 1, 1, 0, 0, 0, 0, [], j0m), (.invokevirtual 55, 3, 9, 2, 1, 0, [3170, 3171, 3172, 1011, 3173], m_Tokens_fail), j0, j0, (.ireturn, 1, 0, 0, 1, 0, [], j0m), 
  (.aload_n 0, 1, 0, 0, 0, 0, [], j0m), (.getfield 12, 3, 6, 0, 0, 0, [2135], j0m), j0, j0, (.getfield 151, 3, 7, 10, 0, 10, [1109], j0m), j0, j0, (.iconst (-1), 1, 0, 0, 0, 0, [], j0m), (.invokestatic 154, 3, 0, 2, 0, 0, [3211, 3212, 1006, 3213], m_Arrays_fill2), 
  j0, j0, (.iconst 0, 1, 0, 0, 0, 0, [], j0m), (.istore_n 1, 1, 1, 0, 0, 0, [], j0m), (.iload_n 1, 1, 1, 0, 0, 0, [], j0m), (.aload_n 0, 1, 0, 0, 0, 0, [], j0m), (.getfield 25, 3, 6, 1, 0, 1, [2137], j0m), 
  j0, j0, (.invokevirtual 160, 3, 9, 1, 1, 0, [3214, 3163, 3164, 1011, 3165], m_Tokens_letterCount), j0, j0, (.if_icmp .ge 61, 3, 0, 128, 0, 0, [], j0m), j0, j0, (.aload_n 0, 1, 0, 0, 0, 0, [], j0m), (.getfield 25, 3, 6, 1, 0, 1, [2137], j0m), 
  j0, j0, (.iload_n 1, 1, 1, 0, 0, 0, [], j0m), (.invokevirtual 163, 3, 9, 2, 1, 0, [3215, 3167, 3168, 1011, 3169], m_Tokens_letterAt), j0, j0, (.istore_n 2, 1, 2, 0, 0, 0, [], j0m), (.iload_n 2, 1, 2, 0, 0, 0, [], j0m), 
  (.ifCond .lt 22, 3, 0, 102, 0, 0, [], j0m), j0, j0, (.iload_n 2, 1, 2, 0, 0, 0, [], j0m), (.bipush 26, 2, 0, 0, 0, 0, [], j0m), j0, (.if_icmp .ge 16, 3, 0, 102, 0, 0, [], j0m), j0, j0, (.aload_n 0, 1, 0, 0, 0, 0, [], j0m), 
  (.getfield 12, 3, 6, 0, 0, 0, [2135], j0m), j0, j0, (.getfield 151, 3, 7, 10, 0, 10, [1109], j0m), j0, j0, (.iload_n 2, 1, 2, 0, 0, 0, [], j0m), (.baload, 1, 0, 0, 2, 0, [], j0m), (.iconst (-1), 1, 0, 0, 0, 0, [], j0m), 
  (.if_icmp .eq 12, 3, 0, 111, 0, 0, [], j0m), j0, j0, (.aload_n 0, 1, 0, 0, 0, 0, [], j0m), (.getfield 25, 3, 6, 1, 0, 1, [2137], j0m), j0, j0, (.iconst 2, 1, 0, 0, 0, 0, [], j0m), (.invokevirtual 55, 3, 9, 2, 1, 0, [3170, 3171, 3172, 1011, 3173], m_Tokens_fail), 
  j0, j0, (.ireturn, 1, 0, 0, 1, 0, [], j0m), (.aload_n 0, 1, 0, 0, 0, 0, [], j0m), (.getfield 12, 3, 6, 0, 0, 0, [2135], j0m), j0, j0, (.getfield 151, 3, 7, 10, 0, 10, [1109], j0m), j0, j0, (.iload_n 2, 1, 2, 0, 0, 0, [], j0m), 
  (.iload_n 1, 1, 1, 0, 0, 0, [], j0m), (.i2b, 1, 0, 0, 0, 0, [], j0m), (.bastore, 1, 0, 0, 2, 0, [], j0m), (.iinc 1 1, 3, 1, 0, 0, 0, [], j0m), j0, j0, (.goto (-66), 3, 0, 59, 0, 0, [], j0m), j0, j0, 
  (.aload_n 0, 1, 0, 0, 0, 0, [], j0m), (.aload_n 0, 1, 0, 0, 0, 0, [], j0m), (.getfield 25, 3, 6, 1, 0, 1, [2137], j0m), j0, j0, (.invokevirtual 160, 3, 9, 1, 1, 0, [3214, 3163, 3164, 1011, 3165], m_Tokens_letterCount), 
  j0, j0, (.invokevirtual 167, 3, 6, 2, 1, 0, [3216, 3218, 9, 1012, 3219], m_RuleReader_rankOthers), j0, j0, (.aload_n 0, 1, 0, 0, 0, 0, [], j0m), (.getfield 12, 3, 6, 0, 0, 0, [2135], j0m), j0, j0, (.iconst 1, 1, 0, 0, 0, 0, [], j0m), 
  (.putfield 65, 3, 7, 11, 0, 11, [1111], j0m), j0, j0, (.aload_n 0, 1, 0, 0, 0, 0, [], j0m), (.getfield 25, 3, 6, 1, 0, 1, [2137], j0m), j0, j0, (.invokevirtual 87, 3, 9, 1, 1, 0, [3157, 3082, 3083, 1011, 3084], m_Tokens_advance), 
  j0, j0, (.iconst 1, 1, 0, 0, 0, 0, [], j0m), (.ireturn, 1, 0, 0, 1, 0, [], j0m)]
set_option maxRecDepth 20000 in
theorem t_RuleReader_readOrder : okT m_RuleReader_readOrder k_RuleReader_readOrder = true := by decide +kernel
def k_RuleReader_rankOthers : List jO := [
  (.iload_n 1, 1, 1, 0, 0, 0, [], j0m), (.istore_n 2, 1, 2, 0, 0, 0, [], j0m), (.iconst 0, 1, 0, 0, 0, 0, [], j0m), (.istore_n 3, 1, 3, 0, 0, 0, [], j0m), (.iload_n 3, 1, 3, 0, 0, 0, [], j0m), (.bipush 26, 2, 0, 0, 0, 0, [], j0m), 
  j0, (.if_icmp .ge 36, 3, 0, 43, 0, 0, [], j0m), j0, j0, (.aload_n 0, 1, 0, 0, 0, 0, [], j0m), (.getfield 12, 3, 6, 0, 0, 0, [2135], j0m), j0, j0, (.getfield 151, 3, 7, 10, 0, 10, [1109], j0m), j0, j0, 
  (.iload_n 3, 1, 3, 0, 0, 0, [], j0m), (.baload, 1, 0, 0, 2, 0, [], j0m), (.iconst (-1), 1, 0, 0, 0, 0, [], j0m), (.if_icmp .ne 17, 3, 0, 37, 0, 0, [], j0m), j0, j0, (.aload_n 0, 1, 0, 0, 0, 0, [], j0m), 
  (.getfield 12, 3, 6, 0, 0, 0, [2135], j0m), j0, j0, (.getfield 151, 3, 7, 10, 0, 10, [1109], j0m), j0, j0, (.iload_n 3, 1, 3, 0, 0, 0, [], j0m), (.iload_n 2, 1, 2, 0, 0, 0, [], j0m), (.i2b, 1, 0, 0, 0, 0, [], j0m), 
  (.bastore, 1, 0, 0, 2, 0, [], j0m), (.iinc 2 1, 3, 2, 0, 0, 0, [], j0m), j0, j0, (.iinc 3 1, 3, 3, 0, 0, 0, [], j0m), j0, j0, (.goto (-36), 3, 0, 4, 0, 0, [], j0m), j0, j0, (.return_, 1, 0, 0, 0, 0, [], j0m)
  ]
set_option maxRecDepth 20000 in
theorem t_RuleReader_rankOthers : okT m_RuleReader_rankOthers k_RuleReader_rankOthers = true := by decide +kernel
def k_RuleReader_refuseFurther : List jO := [
  (.aload_n 0, 1, 0, 0, 0, 0, [], j0m), (.invokevirtual 52, 3, 6, 1, 1, 0, [3224, 3226, 11, 1012, 3227], m_RuleReader_beginsRule), j0, j0, (.ifCond .ne 12, 3, 0, 16, 0, 0, [], j0m), j0, j0, (.aload_n 0, 1, 0, 0, 0, 0, [], j0m), 
  (.getfield 25, 3, 6, 1, 0, 1, [2137], j0m), j0, j0, (.iconst 1, 1, 0, 0, 0, 0, [], j0m), (.invokevirtual 55, 3, 9, 2, 1, 0, [3170, 3171, 3172, 1011, 3173], m_Tokens_fail), j0, j0, (.ireturn, 1, 0, 0, 1, 0, [], j0m), 
  (.aload_n 0, 1, 0, 0, 0, 0, [], j0m), (.getfield 25, 3, 6, 1, 0, 1, [2137], j0m), j0, j0, (.aload_n 0, 1, 0, 0, 0, 0, [], j0m), (.getfield 25, 3, 6, 1, 0, 1, [2137], j0m), j0, j0, (.ldc 59, 2, 5, 0, 1, 0, [], j0m), 
  j0, (.invokevirtual 61, 3, 9, 2, 1, 0, [3101, 3102, 3103, 1011, 3104], m_Tokens_is), j0, j0, (.ifCond .eq 17, 3, 0, 46, 0, 0, [], j0m), j0, j0, (.aload_n 0, 1, 0, 0, 0, 0, [], j0m), (.getfield 12, 3, 6, 0, 0, 0, [2135], j0m), 
  j0, j0, (.getfield 65, 3, 7, 11, 0, 11, [1111], j0m), j0, j0, (.ifCond .eq 7, 3, 0, 46, 0, 0, [], j0m), j0, j0, (.iconst 2, 1, 0, 0, 0, 0, [], j0m), (.goto 4, 3, 0, 47, 0, 0, [], j0m), j0, j0, (.iconst 3, 1, 0, 0, 0, 0, [], j0m), 
  (.invokevirtual 55, 3, 9, 2, 1, 0, [3170, 3171, 3172, 1011, 3173], m_Tokens_fail), j0, j0, (.ireturn, 1, 0, 0, 1, 0, [], j0m)]
set_option maxRecDepth 20000 in
theorem t_RuleReader_refuseFurther : okT m_RuleReader_refuseFurther k_RuleReader_refuseFurther = true := by decide +kernel
def k_RuleReader_beginsRule : List jO := [
  (.aload_n 0, 1, 0, 0, 0, 0, [], j0m), (.getfield 25, 3, 6, 1, 0, 1, [2137], j0m), j0, j0, (.ldc 69, 2, 0, 0, 1, 0, [], j0m), j0, (.invokevirtual 61, 3, 9, 2, 1, 0, [3101, 3102, 3103, 1011, 3104], m_Tokens_is), 
  j0, j0, (.ifCond .ne 39, 3, 0, 48, 0, 0, [], j0m), j0, j0, (.aload_n 0, 1, 0, 0, 0, 0, [], j0m), (.getfield 25, 3, 6, 1, 0, 1, [2137], j0m), j0, j0, (.ldc 71, 2, 2, 0, 1, 0, [], j0m), j0, (.invokevirtual 61, 3, 9, 2, 1, 0, [3101, 3102, 3103, 1011, 3104], m_Tokens_is), 
  j0, j0, (.ifCond .ne 27, 3, 0, 48, 0, 0, [], j0m), j0, j0, (.aload_n 0, 1, 0, 0, 0, 0, [], j0m), (.getfield 25, 3, 6, 1, 0, 1, [2137], j0m), j0, j0, (.ldc 73, 2, 3, 0, 1, 0, [], j0m), j0, (.invokevirtual 61, 3, 9, 2, 1, 0, [3101, 3102, 3103, 1011, 3104], m_Tokens_is), 
  j0, j0, (.ifCond .ne 15, 3, 0, 48, 0, 0, [], j0m), j0, j0, (.aload_n 0, 1, 0, 0, 0, 0, [], j0m), (.getfield 25, 3, 6, 1, 0, 1, [2137], j0m), j0, j0, (.ldc 59, 2, 5, 0, 1, 0, [], j0m), j0, (.invokevirtual 61, 3, 9, 2, 1, 0, [3101, 3102, 3103, 1011, 3104], m_Tokens_is), 
  j0, j0, (.ifCond .eq 7, 3, 0, 52, 0, 0, [], j0m), j0, j0, (.iconst 1, 1, 0, 0, 0, 0, [], j0m), (.goto 4, 3, 0, 53, 0, 0, [], j0m), j0, j0, (.iconst 0, 1, 0, 0, 0, 0, [], j0m), (.ireturn, 1, 0, 0, 1, 0, [], j0m)
  ]
set_option maxRecDepth 20000 in
theorem t_RuleReader_beginsRule : okT m_RuleReader_beginsRule k_RuleReader_beginsRule = true := by decide +kernel
def k_Rules_foldAll : List jO := [
  (.iconst 0, 1, 0, 0, 0, 0, [], j0m), (.istore_n 1, 1, 1, 0, 0, 0, [], j0m), (.iload_n 1, 1, 1, 0, 0, 0, [], j0m), (.bipush 20, 2, 0, 0, 0, 0, [], j0m), j0, (.if_icmp .ge 33, 3, 0, 38, 0, 0, [], j0m), 
  j0, j0, (.aload_n 0, 1, 0, 0, 0, 0, [], j0m), (.getfield 30, 3, 7, 4, 0, 4, [1091], j0m), j0, j0, (.iload_n 1, 1, 1, 0, 0, 0, [], j0m), (.aload_n 0, 1, 0, 0, 0, 0, [], j0m), (.getfield 15, 3, 7, 1, 0, 1, [1080], j0m), 
  j0, j0, (.invokevirtual 76, 3, 4, 3, 1, 0, [3232, 3233, 3234, 1004, 3235], m_KeyRow_map), j0, j0, (.aload_n 0, 1, 0, 0, 0, 0, [], j0m), (.getfield 37, 3, 7, 6, 0, 6, [1096], j0m), j0, j0, (.iload_n 1, 1, 1, 0, 0, 0, [], j0m), 
  (.aload_n 0, 1, 0, 0, 0, 0, [], j0m), (.getfield 15, 3, 7, 1, 0, 1, [1080], j0m), j0, j0, (.invokevirtual 76, 3, 4, 3, 1, 0, [3232, 3233, 3234, 1004, 3235], m_KeyRow_map), j0, j0, (.iinc 1 1, 3, 1, 0, 0, 0, [], j0m), 
  j0, j0, (.goto (-33), 3, 0, 2, 0, 0, [], j0m), j0, j0, (.iconst 0, 1, 0, 0, 0, 0, [], j0m), (.istore_n 1, 1, 1, 0, 0, 0, [], j0m), (.iload_n 1, 1, 1, 0, 0, 0, [], j0m), (.bipush 80, 2, 0, 0, 0, 0, [], j0m), 
  j0, (.if_icmp .ge 21, 3, 0, 64, 0, 0, [], j0m), j0, j0, (.aload_n 0, 1, 0, 0, 0, 0, [], j0m), (.getfield 43, 3, 7, 8, 0, 8, [1101], j0m), j0, j0, (.iload_n 1, 1, 1, 0, 0, 0, [], j0m), (.aload_n 0, 1, 0, 0, 0, 0, [], j0m), 
  (.getfield 15, 3, 7, 1, 0, 1, [1080], j0m), j0, j0, (.invokevirtual 76, 3, 4, 3, 1, 0, [3232, 3233, 3234, 1004, 3235], m_KeyRow_map), j0, j0, (.iinc 1 1, 3, 1, 0, 0, 0, [], j0m), j0, j0, (.goto (-21), 3, 0, 40, 0, 0, [], j0m), 
  j0, j0, (.return_, 1, 0, 0, 0, 0, [], j0m)]
set_option maxRecDepth 20000 in
theorem t_Rules_foldAll : okT m_Rules_foldAll k_Rules_foldAll = true := by decide +kernel
def k_KeyRow_map : List jO := [
  (.iload_n 1, 1, 1, 0, 0, 0, [], j0m), (.ifCond .lt 37, 3, 0, 38, 0, 0, [], j0m), j0, j0, (.iload_n 1, 1, 1, 0, 0, 0, [], j0m), (.aload_n 0, 1, 0, 0, 0, 0, [], j0m), (.getfield 13, 3, 4, 0, 0, 0, [1051], j0m), 
  j0, j0, (.arraylength, 1, 0, 0, 0, 0, [], j0m), (.if_icmp .ge 28, 3, 0, 38, 0, 0, [], j0m), j0, j0, (.aload_n 0, 1, 0, 0, 0, 0, [], j0m), (.iload_n 1, 1, 1, 0, 0, 0, [], j0m), (.aload_n 0, 1, 0, 0, 0, 0, [], j0m), 
  (.getfield 13, 3, 4, 0, 0, 0, [1051], j0m), j0, j0, (.iload_n 1, 1, 1, 0, 0, 0, [], j0m), (.laload, 1, 0, 0, 0, 0, [], j0m), (.aload_n 2, 1, 2, 0, 0, 0, [], j0m), (.invokestatic 41, 3, 0, 2, 0, 0, [3236, 3237, 1009, 3238], m_Key_mapped), 
  j0, j0, (.aload_n 0, 1, 0, 0, 0, 0, [], j0m), (.getfield 19, 3, 4, 1, 0, 1, [1057], j0m), j0, j0, (.iload_n 1, 1, 1, 0, 0, 0, [], j0m), (.laload, 1, 0, 0, 0, 0, [], j0m), (.aload_n 2, 1, 2, 0, 0, 0, [], j0m), 
  (.invokestatic 41, 3, 0, 2, 0, 0, [3236, 3237, 1009, 3238], m_Key_mapped), j0, j0, (.invokevirtual 37, 3, 4, 4, 1, 0, [4000, 3197, 3198, 1004, 3199], m_KeyRow_put), j0, j0, (.return_, 1, 0, 0, 0, 0, [], j0m)
  ]
set_option maxRecDepth 20000 in
theorem t_KeyRow_map : okT m_KeyRow_map k_KeyRow_map = true := by decide +kernel
def k_Key_mapped : List jO := [
  (.lconst 0, 1, 0, 0, 0, 0, [], j0m), (.lstore_n 3, 1, 3, 0, 0, 0, [], j0m), (.bipush 45, 2, 0, 0, 0, 0, [], j0m), j0, (.istore 5, 2, 5, 0, 0, 0, [], j0m), j0, (.iload 5, 2, 5, 0, 0, 0, [], j0m), j0, 
  (.ifCond .lt 47, 3, 0, 55, 0, 0, [], j0m), j0, j0, (.lload_n 0, 1, 0, 0, 0, 0, [], j0m), (.iload 5, 2, 5, 0, 0, 0, [], j0m), j0, (.lshr, 1, 0, 0, 0, 0, [], j0m), (.ldc2_w 26, 3, 0, 0, 0, 31, [3239], j0m), 
  j0, j0, (.land, 1, 0, 0, 0, 0, [], j0m), (.l2i, 1, 0, 0, 0, 0, [], j0m), (.iconst 1, 1, 0, 0, 0, 0, [], j0m), (.isub, 1, 0, 0, 0, 0, [], j0m), (.istore 6, 2, 6, 0, 0, 0, [], j0m), j0, (.iload 6, 2, 6, 0, 0, 0, [], j0m), 
  j0, (.ifCond .lt 23, 3, 0, 49, 0, 0, [], j0m), j0, j0, (.iload 6, 2, 6, 0, 0, 0, [], j0m), j0, (.aload_n 2, 1, 2, 0, 0, 0, [], j0m), (.arraylength, 1, 0, 0, 0, 0, [], j0m), (.if_icmp .ge 16, 3, 0, 49, 0, 0, [], j0m), 
  j0, j0, (.lload_n 3, 1, 3, 0, 0, 0, [], j0m), (.aload_n 2, 1, 2, 0, 0, 0, [], j0m), (.iload 6, 2, 6, 0, 0, 0, [], j0m), j0, (.baload, 1, 0, 0, 2, 0, [], j0m), (.i2l, 1, 0, 0, 0, 0, [], j0m), (.lconst 1, 1, 0, 0, 0, 1, [], j0m), 
  (.ladd, 1, 0, 0, 0, 0, [], j0m), (.iload 5, 2, 5, 0, 0, 0, [], j0m), j0, (.lshl, 1, 0, 0, 0, 0, [], j0m), (.lor, 1, 0, 0, 0, 0, [], j0m), (.lstore_n 3, 1, 3, 0, 0, 0, [], j0m), (.iinc 5 (-5), 3, 5, 0, 0, 0, [], j0m), 
  j0, j0, (.goto (-46), 3, 0, 6, 0, 0, [], j0m), j0, j0, (.lload_n 3, 1, 3, 0, 0, 0, [], j0m), (.lreturn, 1, 0, 0, 0, 0, [], j0m)]
set_option maxRecDepth 20000 in
theorem t_Key_mapped : okT m_Key_mapped k_Key_mapped = true := by decide +kernel
def k_Rules_copyFrom : List jO := [
  (.aload_n 0, 1, 0, 0, 0, 0, [], j0m), (.aload_n 1, 1, 1, 0, 0, 0, [], j0m), (.getfield 9, 3, 7, 0, 0, 0, [1077], j0m), j0, j0, (.putfield 9, 3, 7, 0, 0, 0, [1077], j0m), j0, j0, (.aload_n 0, 1, 0, 0, 0, 0, [], j0m), 
  (.aload_n 1, 1, 1, 0, 0, 0, [], j0m), (.getfield 22, 3, 7, 3, 0, 3, [1088], j0m), j0, j0, (.putfield 22, 3, 7, 3, 0, 3, [1088], j0m), j0, j0, (.aload_n 0, 1, 0, 0, 0, 0, [], j0m), (.aload_n 1, 1, 1, 0, 0, 0, [], j0m), 
  (.getfield 34, 3, 7, 5, 0, 5, [1093], j0m), j0, j0, (.putfield 34, 3, 7, 5, 0, 5, [1093], j0m), j0, j0, (.aload_n 0, 1, 0, 0, 0, 0, [], j0m), (.aload_n 1, 1, 1, 0, 0, 0, [], j0m), (.getfield 40, 3, 7, 7, 0, 7, [1098], j0m), 
  j0, j0, (.putfield 40, 3, 7, 7, 0, 7, [1098], j0m), j0, j0, (.aload_n 0, 1, 0, 0, 0, 0, [], j0m), (.aload_n 1, 1, 1, 0, 0, 0, [], j0m), (.getfield 53, 3, 7, 11, 0, 11, [1110], j0m), j0, j0, (.putfield 53, 3, 7, 11, 0, 11, [1110], j0m), 
  j0, j0, (.aload_n 1, 1, 1, 0, 0, 0, [], j0m), (.getfield 15, 3, 7, 1, 0, 1, [1080], j0m), j0, j0, (.iconst 0, 1, 0, 0, 0, 0, [], j0m), (.aload_n 0, 1, 0, 0, 0, 0, [], j0m), (.getfield 15, 3, 7, 1, 0, 1, [1080], j0m), 
  j0, j0, (.iconst 0, 1, 0, 0, 0, 0, [], j0m), (.bipush 26, 2, 0, 0, 0, 0, [], j0m), j0, (.invokestatic 66, 3, 2, 5, 3, 0, [4005, 4007, 4006, 1020], j0m), j0, j0, (.aload_n 1, 1, 1, 0, 0, 0, [], j0m), 
  (.getfield 50, 3, 7, 10, 0, 10, [1107], j0m), j0, j0, (.iconst 0, 1, 0, 0, 0, 0, [], j0m), (.aload_n 0, 1, 0, 0, 0, 0, [], j0m), (.getfield 50, 3, 7, 10, 0, 10, [1107], j0m), j0, j0, (.iconst 0, 1, 0, 0, 0, 0, [], j0m), 
  (.bipush 26, 2, 0, 0, 0, 0, [], j0m), j0, (.invokestatic 66, 3, 2, 5, 3, 0, [4005, 4007, 4006, 1020], j0m), j0, j0, (.aload_n 1, 1, 1, 0, 0, 0, [], j0m), (.getfield 19, 3, 7, 2, 0, 2, [1086], j0m), j0, 
  j0, (.iconst 0, 1, 0, 0, 0, 0, [], j0m), (.aload_n 0, 1, 0, 0, 0, 0, [], j0m), (.getfield 19, 3, 7, 2, 0, 2, [1086], j0m), j0, j0, (.iconst 0, 1, 0, 0, 0, 0, [], j0m), (.bipush 26, 2, 0, 0, 0, 0, [], j0m), 
  j0, (.invokestatic 66, 3, 2, 5, 3, 0, [4005, 4007, 4006, 1020], j0m), j0, j0, (.aload_n 1, 1, 1, 0, 0, 0, [], j0m), (.getfield 46, 3, 7, 9, 0, 9, [1104], j0m), j0, j0, (.iconst 0, 1, 0, 0, 0, 0, [], j0m), 
  (.aload_n 0, 1, 0, 0, 0, 0, [], j0m), (.getfield 46, 3, 7, 9, 0, 9, [1104], j0m), j0, j0, (.iconst 0, 1, 0, 0, 0, 0, [], j0m), (.bipush 20, 2, 0, 0, 0, 0, [], j0m), j0, (.invokestatic 66, 3, 1, 5, 3, 0, [4005, 4007, 4006, 1020], j0m), 
  j0, j0, (.aload_n 0, 1, 0, 0, 0, 0, [], j0m), (.getfield 30, 3, 7, 4, 0, 4, [1091], j0m), j0, j0, (.aload_n 1, 1, 1, 0, 0, 0, [], j0m), (.getfield 30, 3, 7, 4, 0, 4, [1091], j0m), j0, j0, (.invokevirtual 72, 3, 4, 2, 1, 0, [4008, 4009, 4010, 1004, 4011], m_KeyRow_copyFrom), 
  j0, j0, (.aload_n 0, 1, 0, 0, 0, 0, [], j0m), (.getfield 37, 3, 7, 6, 0, 6, [1096], j0m), j0, j0, (.aload_n 1, 1, 1, 0, 0, 0, [], j0m), (.getfield 37, 3, 7, 6, 0, 6, [1096], j0m), j0, j0, (.invokevirtual 72, 3, 4, 2, 1, 0, [4008, 4009, 4010, 1004, 4011], m_KeyRow_copyFrom), 
  j0, j0, (.aload_n 0, 1, 0, 0, 0, 0, [], j0m), (.getfield 43, 3, 7, 8, 0, 8, [1101], j0m), j0, j0, (.aload_n 1, 1, 1, 0, 0, 0, [], j0m), (.getfield 43, 3, 7, 8, 0, 8, [1101], j0m), j0, j0, (.invokevirtual 72, 3, 4, 2, 1, 0, [4008, 4009, 4010, 1004, 4011], m_KeyRow_copyFrom), 
  j0, j0, (.return_, 1, 0, 0, 0, 0, [], j0m)]
set_option maxRecDepth 20000 in
theorem t_Rules_copyFrom : okT m_Rules_copyFrom k_Rules_copyFrom = true := by decide +kernel
def k_KeyRow_copyFrom : List jO := [
  (.aload_n 0, 1, 0, 0, 0, 0, [], j0m), (.getfield 13, 3, 4, 0, 0, 0, [1051], j0m), j0, j0, (.arraylength, 1, 0, 0, 0, 0, [], j0m), (.aload_n 1, 1, 1, 0, 0, 0, [], j0m), (.getfield 13, 3, 4, 0, 0, 0, [1051], j0m), 
  j0, j0, (.arraylength, 1, 0, 0, 0, 0, [], j0m), (.invokestatic 22, 3, 0, 2, 1, 0, [4012, 3078, 1005, 3079], j0m), j0, j0, (.istore_n 2, 1, 2, 0, 0, 0, [], j0m), (.aload_n 1, 1, 1, 0, 0, 0, [], j0m), 
  (.getfield 13, 3, 4, 0, 0, 0, [1051], j0m), j0, j0, (.iconst 0, 1, 0, 0, 0, 0, [], j0m), (.aload_n 0, 1, 0, 0, 0, 0, [], j0m), (.getfield 13, 3, 4, 0, 0, 0, [1051], j0m), j0, j0, (.iconst 0, 1, 0, 0, 0, 0, [], j0m), 
  (.iload_n 2, 1, 2, 0, 0, 0, [], j0m), (.invokestatic 31, 3, 4, 5, 3, 0, [4013, 4007, 4006, 1020], j0m), j0, j0, (.aload_n 1, 1, 1, 0, 0, 0, [], j0m), (.getfield 19, 3, 4, 1, 0, 1, [1057], j0m), j0, j0, 
  (.iconst 0, 1, 0, 0, 0, 0, [], j0m), (.aload_n 0, 1, 0, 0, 0, 0, [], j0m), (.getfield 19, 3, 4, 1, 0, 1, [1057], j0m), j0, j0, (.iconst 0, 1, 0, 0, 0, 0, [], j0m), (.iload_n 2, 1, 2, 0, 0, 0, [], j0m), 
  (.invokestatic 31, 3, 4, 5, 3, 0, [4013, 4007, 4006, 1020], j0m), j0, j0, (.return_, 1, 0, 0, 0, 0, [], j0m)]
set_option maxRecDepth 20000 in
theorem t_KeyRow_copyFrom : okT m_KeyRow_copyFrom k_KeyRow_copyFrom = true := by decide +kernel
def k_Image_lineCount : List jO := [
  (.iload_n 1, 1, 1, 0, 0, 0, [], j0m), (.invokestatic 57, 3, 0, 1, 4, 0, [4027, 1001, 4028], m_WordPlaces_isEdition), j0, j0, (.ifCond .eq 12, 3, 0, 16, 0, 0, [], j0m), j0, j0, (.aload_n 0, 1, 0, 0, 0, 0, [], j0m), 
  (.getfield 32, 3, 2, 5, 0, 5, [1150], j0m), j0, j0, (.iload_n 1, 1, 1, 0, 0, 0, [], j0m), (.iaload, 1, 0, 0, 0, 0, [], j0m), (.goto 4, 3, 0, 17, 0, 0, [], j0m), j0, j0, (.iconst 0, 1, 0, 0, 0, 0, [], j0m), 
  (.ireturn, 1, 0, 0, 0, 0, [], j0m)]
set_option maxRecDepth 20000 in
theorem t_Image_lineCount : okT m_Image_lineCount k_Image_lineCount = true := by decide +kernel
def k_Image_wordCountWith : List jO := [
  (.bipush 40, 2, 0, 0, 0, 0, [], j0m), j0, (.aload_n 0, 1, 0, 0, 0, 0, [], j0m), (.iload_n 1, 1, 1, 0, 0, 0, [], j0m), (.invokevirtual 78, 3, 2, 2, 1, 0, [4050, 4034, 4035, 1002, 4036], m_Image_lineCount), 
  j0, j0, (.iload_n 2, 1, 2, 0, 0, 0, [], j0m), (.iconst 1, 1, 0, 0, 0, 0, [], j0m), (.iadd, 1, 0, 0, 0, 0, [], j0m), (.invokestatic 69, 3, 0, 2, 2, 0, [4051, 1049, 1005, 1050], j0m), j0, j0, (.invokestatic 86, 3, 0, 2, 1, 0, [4052, 3078, 1005, 3079], j0m), 
  j0, j0, (.istore 5, 2, 5, 0, 0, 0, [], j0m), j0, (.iconst 0, 1, 0, 0, 0, 0, [], j0m), (.istore 6, 2, 6, 0, 0, 0, [], j0m), j0, (.iconst 0, 1, 0, 0, 0, 0, [], j0m), (.istore 7, 2, 7, 0, 0, 0, [], j0m), 
  j0, (.iconst 0, 1, 0, 0, 0, 0, [], j0m), (.istore 8, 2, 8, 0, 0, 0, [], j0m), j0, (.iload 8, 2, 8, 0, 0, 0, [], j0m), j0, (.iload 5, 2, 5, 0, 0, 0, [], j0m), j0, (.if_icmp .ge 104, 3, 0, 135, 0, 0, [], j0m), 
  j0, j0, (.iload_n 1, 1, 1, 0, 0, 0, [], j0m), (.invokestatic 57, 3, 0, 1, 4, 0, [4027, 1001, 4028], m_WordPlaces_isEdition), j0, j0, (.ifCond .eq 97, 3, 0, 135, 0, 0, [], j0m), j0, j0, (.iload_n 1, 1, 1, 0, 0, 0, [], j0m), 
  (.bipush 40, 2, 0, 0, 0, 0, [], j0m), j0, (.imul, 1, 0, 0, 0, 0, [], j0m), (.iload 8, 2, 8, 0, 0, 0, [], j0m), j0, (.iadd, 1, 0, 0, 0, 0, [], j0m), (.istore 9, 2, 9, 0, 0, 0, [], j0m), j0, (.iload 8, 2, 8, 0, 0, 0, [], j0m), 
  j0, (.iload_n 2, 1, 2, 0, 0, 0, [], j0m), (.if_icmp .ne 12, 3, 0, 65, 0, 0, [], j0m), j0, j0, (.aload_n 3, 1, 3, 0, 0, 0, [], j0m), (.iload 4, 2, 4, 0, 0, 0, [], j0m), j0, (.invokestatic 61, 3, 0, 2, 0, 0, [4053, 4054, 1002, 4055], m_Image_runsIn), 
  j0, j0, (.goto 10, 3, 0, 72, 0, 0, [], j0m), j0, j0, (.aload_n 0, 1, 0, 0, 0, 0, [], j0m), (.getfield 26, 3, 2, 3, 0, 3, [1148], j0m), j0, j0, (.iload 9, 2, 9, 0, 0, 0, [], j0m), j0, (.iaload, 1, 0, 0, 0, 0, [], j0m), 
  (.istore 10, 2, 10, 0, 0, 0, [], j0m), j0, (.iload 6, 2, 6, 0, 0, 0, [], j0m), j0, (.iload 10, 2, 10, 0, 0, 0, [], j0m), j0, (.iload 7, 2, 7, 0, 0, 0, [], j0m), j0, (.ifCond .eq 12, 3, 0, 92, 0, 0, [], j0m), 
  j0, j0, (.iload 10, 2, 10, 0, 0, 0, [], j0m), j0, (.ifCond .le 7, 3, 0, 92, 0, 0, [], j0m), j0, j0, (.iconst 1, 1, 0, 0, 0, 0, [], j0m), (.goto 4, 3, 0, 93, 0, 0, [], j0m), j0, j0, (.iconst 0, 1, 0, 0, 0, 0, [], j0m), 
  (.isub, 1, 0, 0, 0, 0, [], j0m), (.iadd, 1, 0, 0, 0, 0, [], j0m), (.istore 6, 2, 6, 0, 0, 0, [], j0m), j0, (.iload 8, 2, 8, 0, 0, 0, [], j0m), j0, (.iload_n 2, 1, 2, 0, 0, 0, [], j0m), (.if_icmp .ne 12, 3, 0, 112, 0, 0, [], j0m), 
  j0, j0, (.aload_n 3, 1, 3, 0, 0, 0, [], j0m), (.iload 4, 2, 4, 0, 0, 0, [], j0m), j0, (.invokestatic 65, 3, 0, 2, 0, 0, [4057, 4058, 1002, 4059], m_Image_endsInDash), j0, j0, (.goto 18, 3, 0, 127, 0, 0, [], j0m), 
  j0, j0, (.aload_n 0, 1, 0, 0, 0, 0, [], j0m), (.getfield 29, 3, 2, 4, 0, 4, [1149], j0m), j0, j0, (.iload 9, 2, 9, 0, 0, 0, [], j0m), j0, (.baload, 1, 0, 0, 2, 0, [], j0m), (.ifCond .eq 7, 3, 0, 126, 0, 0, [], j0m), 
  j0, j0, (.iconst 1, 1, 0, 0, 0, 0, [], j0m), (.goto 4, 3, 0, 127, 0, 0, [], j0m), j0, j0, (.iconst 0, 1, 0, 0, 0, 0, [], j0m), (.istore 7, 2, 7, 0, 0, 0, [], j0m), j0, (.iinc 8 1, 3, 8, 0, 0, 0, [], j0m), 
  j0, j0, (.goto (-105), 3, 0, 27, 0, 0, [], j0m), j0, j0, (.iload 6, 2, 6, 0, 0, 0, [], j0m), j0, (.ireturn, 1, 0, 0, 0, 0, [], j0m)]
set_option maxRecDepth 20000 in
theorem t_Image_wordCountWith : okT m_Image_wordCountWith k_Image_wordCountWith = true := by decide +kernel
def k_Image_runsIn : List jO := [
  (.iconst 0, 1, 0, 0, 0, 0, [], j0m), (.istore_n 2, 1, 2, 0, 0, 0, [], j0m), (.iconst 0, 1, 0, 0, 0, 0, [], j0m), (.istore_n 3, 1, 3, 0, 0, 0, [], j0m), (.iconst 0, 1, 0, 0, 0, 0, [], j0m), (.istore 4, 2, 4, 0, 0, 0, [], j0m), 
  j0, (.iload 4, 2, 4, 0, 0, 0, [], j0m), j0, (.iload_n 1, 1, 1, 0, 0, 0, [], j0m), (.if_icmp .ge 45, 3, 0, 55, 0, 0, [], j0m), j0, j0, (.iload 4, 2, 4, 0, 0, 0, [], j0m), j0, (.aload_n 0, 1, 0, 0, 0, 0, [], j0m), 
  (.arraylength, 1, 0, 0, 0, 0, [], j0m), (.if_icmp .ge 38, 3, 0, 55, 0, 0, [], j0m), j0, j0, (.aload_n 0, 1, 0, 0, 0, 0, [], j0m), (.iload 4, 2, 4, 0, 0, 0, [], j0m), j0, (.baload, 1, 0, 0, 2, 0, [], j0m), 
  (.invokestatic 75, 3, 0, 1, 4, 0, [3086, 1001, 3087], m_WordPlaces_isLetter), j0, j0, (.istore 5, 2, 5, 0, 0, 0, [], j0m), j0, (.iload_n 2, 1, 2, 0, 0, 0, [], j0m), (.iload 5, 2, 5, 0, 0, 0, [], j0m), 
  j0, (.ifCond .eq 11, 3, 0, 43, 0, 0, [], j0m), j0, j0, (.iload_n 3, 1, 3, 0, 0, 0, [], j0m), (.ifCond .ne 7, 3, 0, 43, 0, 0, [], j0m), j0, j0, (.iconst 1, 1, 0, 0, 0, 0, [], j0m), (.goto 4, 3, 0, 44, 0, 0, [], j0m), 
  j0, j0, (.iconst 0, 1, 0, 0, 0, 0, [], j0m), (.iadd, 1, 0, 0, 0, 0, [], j0m), (.istore_n 2, 1, 2, 0, 0, 0, [], j0m), (.iload 5, 2, 5, 0, 0, 0, [], j0m), j0, (.istore_n 3, 1, 3, 0, 0, 0, [], j0m), (.iinc 4 1, 3, 4, 0, 0, 0, [], j0m), 
  j0, j0, (.goto (-45), 3, 0, 7, 0, 0, [], j0m), j0, j0, (.iload_n 2, 1, 2, 0, 0, 0, [], j0m), (.ireturn, 1, 0, 0, 0, 0, [], j0m)]
set_option maxRecDepth 20000 in
theorem t_Image_runsIn : okT m_Image_runsIn k_Image_runsIn = true := by decide +kernel
def k_Image_endsInDash : List jO := [
  (.iload_n 1, 1, 1, 0, 0, 0, [], j0m), (.iconst 2, 1, 0, 0, 0, 0, [], j0m), (.if_icmp .lt 34, 3, 0, 36, 0, 0, [], j0m), j0, j0, (.iload_n 1, 1, 1, 0, 0, 0, [], j0m), (.aload_n 0, 1, 0, 0, 0, 0, [], j0m), 
  (.arraylength, 1, 0, 0, 0, 0, [], j0m), (.if_icmp .gt 28, 3, 0, 36, 0, 0, [], j0m), j0, j0, (.aload_n 0, 1, 0, 0, 0, 0, [], j0m), (.iload_n 1, 1, 1, 0, 0, 0, [], j0m), (.iconst 1, 1, 0, 0, 0, 0, [], j0m), 
  (.isub, 1, 0, 0, 0, 0, [], j0m), (.baload, 1, 0, 0, 2, 0, [], j0m), (.bipush 45, 2, 0, 0, 0, 0, [], j0m), j0, (.if_icmp .ne 18, 3, 0, 36, 0, 0, [], j0m), j0, j0, (.aload_n 0, 1, 0, 0, 0, 0, [], j0m), 
  (.iload_n 1, 1, 1, 0, 0, 0, [], j0m), (.iconst 2, 1, 0, 0, 0, 0, [], j0m), (.isub, 1, 0, 0, 0, 0, [], j0m), (.baload, 1, 0, 0, 2, 0, [], j0m), (.invokestatic 75, 3, 0, 1, 4, 0, [3086, 1001, 3087], m_WordPlaces_isLetter), 
  j0, j0, (.ifCond .eq 7, 3, 0, 36, 0, 0, [], j0m), j0, j0, (.iconst 1, 1, 0, 0, 0, 0, [], j0m), (.goto 4, 3, 0, 37, 0, 0, [], j0m), j0, j0, (.iconst 0, 1, 0, 0, 0, 0, [], j0m), (.ireturn, 1, 0, 0, 1, 0, [], j0m)
  ]
set_option maxRecDepth 20000 in
theorem t_Image_endsInDash : okT m_Image_endsInDash k_Image_endsInDash = true := by decide +kernel
def k_Image_putLine : List jO := [
  (.iload_n 1, 1, 1, 0, 0, 0, [], j0m), (.invokestatic 57, 3, 0, 1, 4, 0, [4027, 1001, 4028], m_WordPlaces_isEdition), j0, j0, (.ifCond .eq 32, 3, 0, 36, 0, 0, [], j0m), j0, j0, (.iload_n 2, 1, 2, 0, 0, 0, [], j0m), 
  (.ifCond .lt 28, 3, 0, 36, 0, 0, [], j0m), j0, j0, (.iload_n 2, 1, 2, 0, 0, 0, [], j0m), (.bipush 40, 2, 0, 0, 0, 0, [], j0m), j0, (.if_icmp .ge 22, 3, 0, 36, 0, 0, [], j0m), j0, j0, (.iload 4, 2, 4, 0, 0, 0, [], j0m), 
  j0, (.ifCond .lt 17, 3, 0, 36, 0, 0, [], j0m), j0, j0, (.iload 4, 2, 4, 0, 0, 0, [], j0m), j0, (.bipush 60, 2, 0, 0, 0, 0, [], j0m), j0, (.if_icmp .gt 10, 3, 0, 36, 0, 0, [], j0m), j0, j0, (.iload 4, 2, 4, 0, 0, 0, [], j0m), 
  j0, (.aload_n 3, 1, 3, 0, 0, 0, [], j0m), (.arraylength, 1, 0, 0, 0, 0, [], j0m), (.if_icmp .le 4, 3, 0, 37, 0, 0, [], j0m), j0, j0, (.return_, 1, 0, 0, 0, 0, [], j0m), (.iload_n 1, 1, 1, 0, 0, 0, [], j0m), 
  (.bipush 40, 2, 0, 0, 0, 0, [], j0m), j0, (.imul, 1, 0, 0, 0, 0, [], j0m), (.iload_n 2, 1, 2, 0, 0, 0, [], j0m), (.iadd, 1, 0, 0, 0, 0, [], j0m), (.istore 5, 2, 5, 0, 0, 0, [], j0m), j0, (.aload_n 3, 1, 3, 0, 0, 0, [], j0m), 
  (.iconst 0, 1, 0, 0, 0, 0, [], j0m), (.aload_n 0, 1, 0, 0, 0, 0, [], j0m), (.getfield 18, 3, 2, 1, 0, 1, [1144], j0m), j0, j0, (.iload 5, 2, 5, 0, 0, 0, [], j0m), j0, (.bipush 60, 2, 0, 0, 0, 0, [], j0m), 
  j0, (.imul, 1, 0, 0, 0, 0, [], j0m), (.iload 4, 2, 4, 0, 0, 0, [], j0m), j0, (.invokestatic 48, 3, 2, 5, 3, 0, [4064, 4007, 4006, 1020], j0m), j0, j0, (.aload_n 0, 1, 0, 0, 0, 0, [], j0m), (.getfield 22, 3, 2, 2, 0, 2, [1146], j0m), 
  j0, j0, (.iload 5, 2, 5, 0, 0, 0, [], j0m), j0, (.iload 4, 2, 4, 0, 0, 0, [], j0m), j0, (.iastore, 1, 0, 0, 0, 0, [], j0m), (.aload_n 0, 1, 0, 0, 0, 0, [], j0m), (.getfield 26, 3, 2, 3, 0, 3, [1148], j0m), 
  j0, j0, (.iload 5, 2, 5, 0, 0, 0, [], j0m), j0, (.aload_n 3, 1, 3, 0, 0, 0, [], j0m), (.iload 4, 2, 4, 0, 0, 0, [], j0m), j0, (.invokestatic 61, 3, 0, 2, 0, 0, [4053, 4054, 1002, 4055], m_Image_runsIn), 
  j0, j0, (.iastore, 1, 0, 0, 0, 0, [], j0m), (.aload_n 0, 1, 0, 0, 0, 0, [], j0m), (.getfield 29, 3, 2, 4, 0, 4, [1149], j0m), j0, j0, (.iload 5, 2, 5, 0, 0, 0, [], j0m), j0, (.aload_n 3, 1, 3, 0, 0, 0, [], j0m), 
  (.iload 4, 2, 4, 0, 0, 0, [], j0m), j0, (.invokestatic 65, 3, 0, 2, 0, 0, [4057, 4058, 1002, 4059], m_Image_endsInDash), j0, j0, (.ifCond .eq 7, 3, 0, 102, 0, 0, [], j0m), j0, j0, (.iconst 1, 1, 0, 0, 0, 0, [], j0m), 
  (.goto 4, 3, 0, 103, 0, 0, [], j0m), j0, j0, (.iconst 0, 1, 0, 0, 0, 0, [], j0m), (.i2b, 1, 0, 0, 0, 0, [], j0m), (.bastore, 1, 0, 0, 2, 0, [], j0m), (.aload_n 0, 1, 0, 0, 0, 0, [], j0m), (.getfield 32, 3, 2, 5, 0, 5, [1150], j0m), 
  j0, j0, (.iload_n 1, 1, 1, 0, 0, 0, [], j0m), (.aload_n 0, 1, 0, 0, 0, 0, [], j0m), (.getfield 32, 3, 2, 5, 0, 5, [1150], j0m), j0, j0, (.iload_n 1, 1, 1, 0, 0, 0, [], j0m), (.iaload, 1, 0, 0, 0, 0, [], j0m), 
  (.iload_n 2, 1, 2, 0, 0, 0, [], j0m), (.iconst 1, 1, 0, 0, 0, 0, [], j0m), (.iadd, 1, 0, 0, 0, 0, [], j0m), (.invokestatic 69, 3, 0, 2, 2, 0, [4051, 1049, 1005, 1050], j0m), j0, j0, (.iastore, 1, 0, 0, 0, 0, [], j0m), 
  (.return_, 1, 0, 0, 0, 0, [], j0m)]
set_option maxRecDepth 20000 in
theorem t_Image_putLine : okT m_Image_putLine k_Image_putLine = true := by decide +kernel
def k_Image_wordCount : List jO := [
  (.iconst 0, 1, 0, 0, 0, 0, [], j0m), (.istore_n 2, 1, 2, 0, 0, 0, [], j0m), (.iconst 0, 1, 0, 0, 0, 0, [], j0m), (.istore_n 3, 1, 3, 0, 0, 0, [], j0m), (.iload_n 3, 1, 3, 0, 0, 0, [], j0m), (.aload_n 0, 1, 0, 0, 0, 0, [], j0m), 
  (.iload_n 1, 1, 1, 0, 0, 0, [], j0m), (.invokevirtual 78, 3, 2, 2, 1, 0, [4050, 4034, 4035, 1002, 4036], m_Image_lineCount), j0, j0, (.if_icmp .ge 44, 3, 0, 54, 0, 0, [], j0m), j0, j0, (.iload_n 3, 1, 3, 0, 0, 0, [], j0m), 
  (.bipush 40, 2, 0, 0, 0, 0, [], j0m), j0, (.if_icmp .ge 38, 3, 0, 54, 0, 0, [], j0m), j0, j0, (.iload_n 2, 1, 2, 0, 0, 0, [], j0m), (.aload_n 0, 1, 0, 0, 0, 0, [], j0m), (.getfield 26, 3, 2, 3, 0, 3, [1148], j0m), 
  j0, j0, (.iload_n 1, 1, 1, 0, 0, 0, [], j0m), (.bipush 40, 2, 0, 0, 0, 0, [], j0m), j0, (.imul, 1, 0, 0, 0, 0, [], j0m), (.iload_n 3, 1, 3, 0, 0, 0, [], j0m), (.iadd, 1, 0, 0, 0, 0, [], j0m), (.iaload, 1, 0, 0, 0, 0, [], j0m), 
  (.aload_n 0, 1, 0, 0, 0, 0, [], j0m), (.iload_n 1, 1, 1, 0, 0, 0, [], j0m), (.iload_n 3, 1, 3, 0, 0, 0, [], j0m), (.invokevirtual 82, 3, 2, 3, 1, 0, [4073, 4074, 4075, 1002, 4076], m_Image_isCut), j0, 
  j0, (.ifCond .eq 7, 3, 0, 44, 0, 0, [], j0m), j0, j0, (.iconst 1, 1, 0, 0, 0, 0, [], j0m), (.goto 4, 3, 0, 45, 0, 0, [], j0m), j0, j0, (.iconst 0, 1, 0, 0, 0, 0, [], j0m), (.isub, 1, 0, 0, 0, 0, [], j0m), 
  (.iadd, 1, 0, 0, 0, 0, [], j0m), (.istore_n 2, 1, 2, 0, 0, 0, [], j0m), (.iinc 3 1, 3, 3, 0, 0, 0, [], j0m), j0, j0, (.goto (-47), 3, 0, 4, 0, 0, [], j0m), j0, j0, (.iload_n 2, 1, 2, 0, 0, 0, [], j0m), 
  (.ireturn, 1, 0, 0, 0, 0, [], j0m)]
set_option maxRecDepth 20000 in
theorem t_Image_wordCount : okT m_Image_wordCount k_Image_wordCount = true := by decide +kernel
def k_Image_isCut : List jO := [
  (.iload_n 1, 1, 1, 0, 0, 0, [], j0m), (.invokestatic 57, 3, 0, 1, 4, 0, [4027, 1001, 4028], m_WordPlaces_isEdition), j0, j0, (.ifCond .eq 27, 3, 0, 31, 0, 0, [], j0m), j0, j0, (.iload_n 2, 1, 2, 0, 0, 0, [], j0m), 
  (.ifCond .lt 23, 3, 0, 31, 0, 0, [], j0m), j0, j0, (.iload_n 2, 1, 2, 0, 0, 0, [], j0m), (.iconst 1, 1, 0, 0, 0, 0, [], j0m), (.iadd, 1, 0, 0, 0, 0, [], j0m), (.aload_n 0, 1, 0, 0, 0, 0, [], j0m), (.getfield 32, 3, 2, 5, 0, 5, [1150], j0m), 
  j0, j0, (.iload_n 1, 1, 1, 0, 0, 0, [], j0m), (.iaload, 1, 0, 0, 0, 0, [], j0m), (.if_icmp .ge 11, 3, 0, 31, 0, 0, [], j0m), j0, j0, (.iload_n 2, 1, 2, 0, 0, 0, [], j0m), (.iconst 1, 1, 0, 0, 0, 0, [], j0m), 
  (.iadd, 1, 0, 0, 0, 0, [], j0m), (.bipush 40, 2, 0, 0, 0, 0, [], j0m), j0, (.if_icmp .lt 5, 3, 0, 33, 0, 0, [], j0m), j0, j0, (.iconst 0, 1, 0, 0, 0, 0, [], j0m), (.ireturn, 1, 0, 0, 1, 0, [], j0m), 
  (.iload_n 1, 1, 1, 0, 0, 0, [], j0m), (.bipush 40, 2, 0, 0, 0, 0, [], j0m), j0, (.imul, 1, 0, 0, 0, 0, [], j0m), (.iload_n 2, 1, 2, 0, 0, 0, [], j0m), (.iadd, 1, 0, 0, 0, 0, [], j0m), (.istore_n 3, 1, 3, 0, 0, 0, [], j0m), 
  (.aload_n 0, 1, 0, 0, 0, 0, [], j0m), (.getfield 29, 3, 2, 4, 0, 4, [1149], j0m), j0, j0, (.iload_n 3, 1, 3, 0, 0, 0, [], j0m), (.baload, 1, 0, 0, 2, 0, [], j0m), (.ifCond .eq 18, 3, 0, 64, 0, 0, [], j0m), 
  j0, j0, (.aload_n 0, 1, 0, 0, 0, 0, [], j0m), (.getfield 26, 3, 2, 3, 0, 3, [1148], j0m), j0, j0, (.iload_n 3, 1, 3, 0, 0, 0, [], j0m), (.iconst 1, 1, 0, 0, 0, 0, [], j0m), (.iadd, 1, 0, 0, 0, 0, [], j0m), 
  (.iaload, 1, 0, 0, 0, 0, [], j0m), (.ifCond .le 7, 3, 0, 64, 0, 0, [], j0m), j0, j0, (.iconst 1, 1, 0, 0, 0, 0, [], j0m), (.goto 4, 3, 0, 65, 0, 0, [], j0m), j0, j0, (.iconst 0, 1, 0, 0, 0, 0, [], j0m), 
  (.ireturn, 1, 0, 0, 1, 0, [], j0m)]
set_option maxRecDepth 20000 in
theorem t_Image_isCut : okT m_Image_isCut k_Image_isCut = true := by decide +kernel
def k_Slots_isSlot : List jO := [
  (.iload_n 1, 1, 1, 0, 0, 0, [], j0m), (.ifCond .lt 12, 3, 0, 13, 0, 0, [], j0m), j0, j0, (.iload_n 1, 1, 1, 0, 0, 0, [], j0m), (.iconst 4, 1, 0, 0, 0, 0, [], j0m), (.if_icmp .ge 7, 3, 0, 13, 0, 0, [], j0m), 
  j0, j0, (.iconst 1, 1, 0, 0, 0, 0, [], j0m), (.goto 4, 3, 0, 14, 0, 0, [], j0m), j0, j0, (.iconst 0, 1, 0, 0, 0, 0, [], j0m), (.ireturn, 1, 0, 0, 1, 0, [], j0m)]
set_option maxRecDepth 20000 in
theorem t_Slots_isSlot : okT m_Slots_isSlot k_Slots_isSlot = true := by decide +kernel
def k_Slots_isEmpty : List jO := [
  (.aload_n 0, 1, 0, 0, 0, 0, [], j0m), (.iload_n 1, 1, 1, 0, 0, 0, [], j0m), (.invokevirtual 32, 3, 8, 2, 1, 0, [4089, 4082, 4083, 1014, 4084], m_Slots_isSlot), j0, j0, (.ifCond .eq 13, 3, 0, 18, 0, 0, [], j0m), 
  j0, j0, (.aload_n 0, 1, 0, 0, 0, 0, [], j0m), (.getfield 19, 3, 8, 2, 0, 2, [2215], j0m), j0, j0, (.iload_n 1, 1, 1, 0, 0, 0, [], j0m), (.iaload, 1, 0, 0, 0, 0, [], j0m), (.iconst (-1), 1, 0, 0, 0, 0, [], j0m), 
  (.if_icmp .ne 7, 3, 0, 22, 0, 0, [], j0m), j0, j0, (.iconst 1, 1, 0, 0, 0, 0, [], j0m), (.goto 4, 3, 0, 23, 0, 0, [], j0m), j0, j0, (.iconst 0, 1, 0, 0, 0, 0, [], j0m), (.ireturn, 1, 0, 0, 1, 0, [], j0m)
  ]
set_option maxRecDepth 20000 in
theorem t_Slots_isEmpty : okT m_Slots_isEmpty k_Slots_isEmpty = true := by decide +kernel
def k_Slots_widthOf : List jO := [
  (.aload_n 0, 1, 0, 0, 0, 0, [], j0m), (.iload_n 1, 1, 1, 0, 0, 0, [], j0m), (.invokevirtual 32, 3, 8, 2, 1, 0, [4089, 4082, 4083, 1014, 4084], m_Slots_isSlot), j0, j0, (.ifCond .eq 12, 3, 0, 17, 0, 0, [], j0m), 
  j0, j0, (.aload_n 0, 1, 0, 0, 0, 0, [], j0m), (.getfield 15, 3, 8, 1, 0, 1, [2214], j0m), j0, j0, (.iload_n 1, 1, 1, 0, 0, 0, [], j0m), (.iaload, 1, 0, 0, 0, 0, [], j0m), (.goto 4, 3, 0, 18, 0, 0, [], j0m), 
  j0, j0, (.iconst (-1), 1, 0, 0, 0, 0, [], j0m), (.ireturn, 1, 0, 0, 0, 0, [], j0m)]
set_option maxRecDepth 20000 in
theorem t_Slots_widthOf : okT m_Slots_widthOf k_Slots_widthOf = true := by decide +kernel
def k_Slots_takeBytes : List jO := [
  (.aload_n 0, 1, 0, 0, 0, 0, [], j0m), (.iload_n 1, 1, 1, 0, 0, 0, [], j0m), (.invokevirtual 36, 3, 8, 2, 1, 0, [4098, 4086, 4087, 1014, 4088], m_Slots_isEmpty), j0, j0, (.ifCond .eq 5, 3, 0, 10, 0, 0, [], j0m), 
  j0, j0, (.iconst 0, 1, 0, 0, 0, 0, [], j0m), (.ireturn, 1, 0, 0, 0, 0, [], j0m), (.iconst 0, 1, 0, 0, 0, 0, [], j0m), (.istore_n 2, 1, 2, 0, 0, 0, [], j0m), (.iload_n 2, 1, 2, 0, 0, 0, [], j0m), (.aload_n 0, 1, 0, 0, 0, 0, [], j0m), 
  (.getfield 19, 3, 8, 2, 0, 2, [2215], j0m), j0, j0, (.iload_n 1, 1, 1, 0, 0, 0, [], j0m), (.iaload, 1, 0, 0, 0, 0, [], j0m), (.if_icmp .ge 34, 3, 0, 53, 0, 0, [], j0m), j0, j0, (.iload_n 2, 1, 2, 0, 0, 0, [], j0m), 
  (.bipush 60, 2, 0, 0, 0, 0, [], j0m), j0, (.if_icmp .ge 28, 3, 0, 53, 0, 0, [], j0m), j0, j0, (.aload_n 0, 1, 0, 0, 0, 0, [], j0m), (.getfield 22, 3, 8, 3, 0, 3, [2216], j0m), j0, j0, (.iload_n 2, 1, 2, 0, 0, 0, [], j0m), 
  (.aload_n 0, 1, 0, 0, 0, 0, [], j0m), (.getfield 9, 3, 8, 0, 0, 0, [2213], j0m), j0, j0, (.iload_n 1, 1, 1, 0, 0, 0, [], j0m), (.bipush 60, 2, 0, 0, 0, 0, [], j0m), j0, (.imul, 1, 0, 0, 0, 0, [], j0m), 
  (.iload_n 2, 1, 2, 0, 0, 0, [], j0m), (.iadd, 1, 0, 0, 0, 0, [], j0m), (.laload, 1, 0, 0, 0, 0, [], j0m), (.l2i, 1, 0, 0, 0, 0, [], j0m), (.i2b, 1, 0, 0, 0, 0, [], j0m), (.bastore, 1, 0, 0, 2, 0, [], j0m), 
  (.iinc 2 1, 3, 2, 0, 0, 0, [], j0m), j0, j0, (.goto (-38), 3, 0, 12, 0, 0, [], j0m), j0, j0, (.aload_n 0, 1, 0, 0, 0, 0, [], j0m), (.getfield 19, 3, 8, 2, 0, 2, [2215], j0m), j0, j0, (.iload_n 1, 1, 1, 0, 0, 0, [], j0m), 
  (.iaload, 1, 0, 0, 0, 0, [], j0m), (.ireturn, 1, 0, 0, 0, 0, [], j0m)]
set_option maxRecDepth 20000 in
theorem t_Slots_takeBytes : okT m_Slots_takeBytes k_Slots_takeBytes = true := by decide +kernel
def k_Book_refresh : List jO := [
  (.aload_n 0, 1, 0, 0, 0, 0, [], j0m), (.getfield 9, 3, 1, 0, 0, 0, [2033], j0m), j0, j0, (.ifCond .eq 4, 3, 0, 8, 0, 0, [], j0m), j0, j0, (.return_, 1, 0, 0, 0, 0, [], j0m), (.aload_n 0, 1, 0, 0, 0, 0, [], j0m), 
  (.getfield 38, 3, 1, 5, 0, 5, [2044], j0m), j0, j0, (.aload_n 1, 1, 1, 0, 0, 0, [], j0m), (.iconst 0, 1, 0, 0, 0, 0, [], j0m), (.invokevirtual 45, 3, 10, 3, 1, 0, [4112, 4113, 4114, 1008, 4115], m_Words_cutOut), 
  j0, j0, (.aload_n 0, 1, 0, 0, 0, 0, [], j0m), (.getfield 42, 3, 1, 6, 0, 6, [2045], j0m), j0, j0, (.aload_n 1, 1, 1, 0, 0, 0, [], j0m), (.iconst 1, 1, 0, 0, 0, 0, [], j0m), (.invokevirtual 45, 3, 10, 3, 1, 0, [4112, 4113, 4114, 1008, 4115], m_Words_cutOut), 
  j0, j0, (.aload_n 0, 1, 0, 0, 0, 0, [], j0m), (.iconst 0, 1, 0, 0, 0, 0, [], j0m), (.putfield 15, 3, 1, 1, 0, 1, [2035], j0m), j0, j0, (.aload_n 0, 1, 0, 0, 0, 0, [], j0m), (.aload_n 0, 1, 0, 0, 0, 0, [], j0m), 
  (.getfield 38, 3, 1, 5, 0, 5, [2044], j0m), j0, j0, (.invokevirtual 49, 3, 1, 2, 1, 0, [4136, 4138, 19, 1007, 4139], m_Book_gather), j0, j0, (.aload_n 0, 1, 0, 0, 0, 0, [], j0m), (.aload_n 0, 1, 0, 0, 0, 0, [], j0m), 
  (.getfield 42, 3, 1, 6, 0, 6, [2045], j0m), j0, j0, (.invokevirtual 49, 3, 1, 2, 1, 0, [4136, 4138, 19, 1007, 4139], m_Book_gather), j0, j0, (.aload_n 0, 1, 0, 0, 0, 0, [], j0m), (.getfield 38, 3, 1, 5, 0, 5, [2044], j0m), 
  j0, j0, (.aload_n 0, 1, 0, 0, 0, 0, [], j0m), (.getfield 24, 3, 1, 2, 0, 2, [2038], j0m), j0, j0, (.aload_n 0, 1, 0, 0, 0, 0, [], j0m), (.getfield 15, 3, 1, 1, 0, 1, [2035], j0m), j0, j0, (.invokevirtual 53, 3, 10, 3, 1, 0, [4151, 4152, 4153, 1008, 4154], m_Words_number), 
  j0, j0, (.aload_n 0, 1, 0, 0, 0, 0, [], j0m), (.getfield 42, 3, 1, 6, 0, 6, [2045], j0m), j0, j0, (.aload_n 0, 1, 0, 0, 0, 0, [], j0m), (.getfield 24, 3, 1, 2, 0, 2, [2038], j0m), j0, j0, (.aload_n 0, 1, 0, 0, 0, 0, [], j0m), 
  (.getfield 15, 3, 1, 1, 0, 1, [2035], j0m), j0, j0, (.invokevirtual 53, 3, 10, 3, 1, 0, [4151, 4152, 4153, 1008, 4154], m_Words_number), j0, j0, (.aload_n 0, 1, 0, 0, 0, 0, [], j0m), (.aload_n 1, 1, 1, 0, 0, 0, [], j0m), 
  (.getfield 57, 3, 2, 0, 0, 0, [1142], j0m), j0, j0, (.getfield 63, 3, 7, 10, 0, 10, [1108], j0m), j0, j0, (.invokevirtual 69, 3, 1, 2, 1, 0, [4161, 4163, 21, 1007, 4164], m_Book_bringToOrder), j0, j0, 
  (.aload_n 0, 1, 0, 0, 0, 0, [], j0m), (.iconst 1, 1, 0, 0, 0, 0, [], j0m), (.putfield 9, 3, 1, 0, 0, 0, [2033], j0m), j0, j0, (.return_, 1, 0, 0, 0, 0, [], j0m)]
set_option maxRecDepth 20000 in
theorem t_Book_refresh : okT m_Book_refresh k_Book_refresh = true := by decide +kernel
def k_Words_cutOut : List jO := [
  (.aload_n 0, 1, 0, 0, 0, 0, [], j0m), (.iconst 0, 1, 0, 0, 0, 0, [], j0m), (.putfield 9, 3, 10, 0, 0, 0, [1213], j0m), j0, j0, (.aload_n 0, 1, 0, 0, 0, 0, [], j0m), (.getfield 49, 3, 10, 10, 0, 10, [1239], j0m), 
  j0, j0, (.iconst 0, 1, 0, 0, 0, 0, [], j0m), (.invokestatic 66, 3, 0, 2, 0, 0, [4116, 1075, 1006, 1076], m_Arrays_fill), j0, j0, (.iconst 0, 1, 0, 0, 0, 0, [], j0m), (.istore_n 3, 1, 3, 0, 0, 0, [], j0m), 
  (.iconst 0, 1, 0, 0, 0, 0, [], j0m), (.istore 4, 2, 4, 0, 0, 0, [], j0m), j0, (.iload 4, 2, 4, 0, 0, 0, [], j0m), j0, (.aload_n 1, 1, 1, 0, 0, 0, [], j0m), (.iload_n 2, 1, 2, 0, 0, 0, [], j0m), (.invokevirtual 72, 3, 2, 2, 1, 0, [4117, 4034, 4035, 1002, 4036], m_Image_lineCount), 
  j0, j0, (.if_icmp .ge 33, 3, 0, 58, 0, 0, [], j0m), j0, j0, (.iload 4, 2, 4, 0, 0, 0, [], j0m), j0, (.bipush 40, 2, 0, 0, 0, 0, [], j0m), j0, (.if_icmp .ge 26, 3, 0, 58, 0, 0, [], j0m), j0, j0, (.aload_n 0, 1, 0, 0, 0, 0, [], j0m), 
  (.aload_n 1, 1, 1, 0, 0, 0, [], j0m), (.iload_n 2, 1, 2, 0, 0, 0, [], j0m), (.iload 4, 2, 4, 0, 0, 0, [], j0m), j0, (.iload_n 3, 1, 3, 0, 0, 0, [], j0m), (.aload_n 1, 1, 1, 0, 0, 0, [], j0m), (.iload_n 2, 1, 2, 0, 0, 0, [], j0m), 
  (.iload 4, 2, 4, 0, 0, 0, [], j0m), j0, (.invokevirtual 78, 3, 2, 3, 1, 0, [4118, 4074, 4075, 1002, 4076], m_Image_isCut), j0, j0, (.invokevirtual 82, 3, 10, 6, 1, 0, [4119, 4121, 16, 1008, 4122], m_Words_cutLine), 
  j0, j0, (.istore_n 3, 1, 3, 0, 0, 0, [], j0m), (.iinc 4 1, 3, 4, 0, 0, 0, [], j0m), j0, j0, (.goto (-37), 3, 0, 18, 0, 0, [], j0m), j0, j0, (.return_, 1, 0, 0, 0, 0, [], j0m)]
set_option maxRecDepth 20000 in
theorem t_Words_cutOut : okT m_Words_cutOut k_Words_cutOut = true := by decide +kernel
def k_Words_cutLine : List jO := [
  (.iload_n 2, 1, 2, 0, 0, 0, [], j0m), (.bipush 40, 2, 0, 0, 0, 0, [], j0m), j0, (.imul, 1, 0, 0, 0, 0, [], j0m), (.iload_n 3, 1, 3, 0, 0, 0, [], j0m), (.iadd, 1, 0, 0, 0, 0, [], j0m), (.bipush 60, 2, 0, 0, 0, 0, [], j0m), 
  j0, (.imul, 1, 0, 0, 0, 0, [], j0m), (.istore 6, 2, 6, 0, 0, 0, [], j0m), j0, (.iload 6, 2, 6, 0, 0, 0, [], j0m), j0, (.aload_n 1, 1, 1, 0, 0, 0, [], j0m), (.getfield 86, 3, 2, 2, 0, 2, [1147], j0m), 
  j0, j0, (.iload_n 2, 1, 2, 0, 0, 0, [], j0m), (.bipush 40, 2, 0, 0, 0, 0, [], j0m), j0, (.imul, 1, 0, 0, 0, 0, [], j0m), (.iload_n 3, 1, 3, 0, 0, 0, [], j0m), (.iadd, 1, 0, 0, 0, 0, [], j0m), (.iaload, 1, 0, 0, 0, 0, [], j0m), 
  (.iadd, 1, 0, 0, 0, 0, [], j0m), (.istore 7, 2, 7, 0, 0, 0, [], j0m), j0, (.iload 4, 2, 4, 0, 0, 0, [], j0m), j0, (.istore 8, 2, 8, 0, 0, 0, [], j0m), j0, (.iload 6, 2, 6, 0, 0, 0, [], j0m), j0, (.iload 7, 2, 7, 0, 0, 0, [], j0m), 
  j0, (.if_icmp .ge 112, 3, 0, 147, 0, 0, [], j0m), j0, j0, (.aload_n 1, 1, 1, 0, 0, 0, [], j0m), (.getfield 89, 3, 2, 1, 0, 1, [1145], j0m), j0, j0, (.iload 6, 2, 6, 0, 0, 0, [], j0m), j0, (.baload, 1, 0, 0, 2, 0, [], j0m), 
  (.invokestatic 92, 3, 0, 1, 4, 0, [3086, 1001, 3087], m_WordPlaces_isLetter), j0, j0, (.ifCond .eq 93, 3, 0, 141, 0, 0, [], j0m), j0, j0, (.iload 8, 2, 8, 0, 0, 0, [], j0m), j0, (.ifCond .ne 8, 3, 0, 61, 0, 0, [], j0m), 
  j0, j0, (.aload_n 0, 1, 0, 0, 0, 0, [], j0m), (.iload_n 3, 1, 3, 0, 0, 0, [], j0m), (.invokevirtual 96, 3, 10, 2, 1, 0, [4124, 4126, 17, 1008, 4127], m_Words_beginWord), j0, j0, (.iload 6, 2, 6, 0, 0, 0, [], j0m), 
  j0, (.iload 7, 2, 7, 0, 0, 0, [], j0m), j0, (.if_icmp .ge 39, 3, 0, 104, 0, 0, [], j0m), j0, j0, (.aload_n 1, 1, 1, 0, 0, 0, [], j0m), (.getfield 89, 3, 2, 1, 0, 1, [1145], j0m), j0, j0, (.iload 6, 2, 6, 0, 0, 0, [], j0m), 
  j0, (.baload, 1, 0, 0, 2, 0, [], j0m), (.invokestatic 92, 3, 0, 1, 4, 0, [3086, 1001, 3087], m_WordPlaces_isLetter), j0, j0, (.ifCond .eq 26, 3, 0, 104, 0, 0, [], j0m), j0, j0, (.aload_n 0, 1, 0, 0, 0, 0, [], j0m), 
  (.getfield 62, 3, 10, 13, 0, 13, [2003], j0m), j0, j0, (.aload_n 1, 1, 1, 0, 0, 0, [], j0m), (.getfield 89, 3, 2, 1, 0, 1, [1145], j0m), j0, j0, (.iload 6, 2, 6, 0, 0, 0, [], j0m), j0, (.baload, 1, 0, 0, 2, 0, [], j0m), 
  (.bipush 97, 2, 0, 0, 0, 0, [], j0m), j0, (.isub, 1, 0, 0, 0, 0, [], j0m), (.invokevirtual 99, 3, 3, 2, 1, 0, [4129, 3193, 3194, 1009, 3195], m_Key_add), j0, j0, (.iinc 6 1, 3, 6, 0, 0, 0, [], j0m), 
  j0, j0, (.goto (-40), 3, 0, 61, 0, 0, [], j0m), j0, j0, (.iload 6, 2, 6, 0, 0, 0, [], j0m), j0, (.iload 7, 2, 7, 0, 0, 0, [], j0m), j0, (.iconst 1, 1, 0, 0, 0, 0, [], j0m), (.isub, 1, 0, 0, 0, 0, [], j0m), 
  (.if_icmp .ne 12, 3, 0, 122, 0, 0, [], j0m), j0, j0, (.iload 5, 2, 5, 0, 0, 0, [], j0m), j0, (.ifCond .eq 7, 3, 0, 122, 0, 0, [], j0m), j0, j0, (.iconst 1, 1, 0, 0, 0, 0, [], j0m), (.goto 4, 3, 0, 123, 0, 0, [], j0m), 
  j0, j0, (.iconst 0, 1, 0, 0, 0, 0, [], j0m), (.istore 8, 2, 8, 0, 0, 0, [], j0m), j0, (.aload_n 0, 1, 0, 0, 0, 0, [], j0m), (.aload_n 1, 1, 1, 0, 0, 0, [], j0m), (.getfield 102, 3, 2, 0, 0, 0, [1143], j0m), 
  j0, j0, (.getfield 106, 3, 7, 1, 0, 1, [1081], j0m), j0, j0, (.iload 8, 2, 8, 0, 0, 0, [], j0m), j0, (.invokevirtual 111, 3, 10, 3, 1, 0, [4130, 4132, 18, 1008, 4133], m_Words_endRun), j0, j0, (.goto (-107), 3, 0, 31, 0, 0, [], j0m), 
  j0, j0, (.iinc 6 1, 3, 6, 0, 0, 0, [], j0m), j0, j0, (.goto (-113), 3, 0, 31, 0, 0, [], j0m), j0, j0, (.iload 8, 2, 8, 0, 0, 0, [], j0m), j0, (.ireturn, 1, 0, 0, 1, 0, [], j0m)]
set_option maxRecDepth 20000 in
theorem t_Words_cutLine : okT m_Words_cutLine k_Words_cutLine = true := by decide +kernel
def k_Words_beginWord : List jO := [
  (.aload_n 0, 1, 0, 0, 0, 0, [], j0m), (.getfield 62, 3, 10, 13, 0, 13, [2003], j0m), j0, j0, (.invokevirtual 115, 3, 3, 1, 1, 0, [4128, 3189, 3190, 1009, 3191], m_Key_clear), j0, j0, (.aload_n 0, 1, 0, 0, 0, 0, [], j0m), 
  (.getfield 9, 3, 10, 0, 0, 0, [1213], j0m), j0, j0, (.sipush 300, 3, 0, 0, 0, 0, [], j0m), j0, j0, (.if_icmp .ge 68, 3, 0, 82, 0, 0, [], j0m), j0, j0, (.iload_n 1, 1, 1, 0, 0, 0, [], j0m), (.ifCond .lt 64, 3, 0, 82, 0, 0, [], j0m), 
  j0, j0, (.iload_n 1, 1, 1, 0, 0, 0, [], j0m), (.bipush 40, 2, 0, 0, 0, 0, [], j0m), j0, (.if_icmp .ge 58, 3, 0, 82, 0, 0, [], j0m), j0, j0, (.aload_n 0, 1, 0, 0, 0, 0, [], j0m), (.getfield 24, 3, 10, 2, 0, 2, [1222], j0m), 
  j0, j0, (.aload_n 0, 1, 0, 0, 0, 0, [], j0m), (.getfield 9, 3, 10, 0, 0, 0, [1213], j0m), j0, j0, (.iload_n 1, 1, 1, 0, 0, 0, [], j0m), (.iastore, 1, 0, 0, 0, 0, [], j0m), (.aload_n 0, 1, 0, 0, 0, 0, [], j0m), 
  (.getfield 28, 3, 10, 3, 0, 3, [1225], j0m), j0, j0, (.aload_n 0, 1, 0, 0, 0, 0, [], j0m), (.getfield 9, 3, 10, 0, 0, 0, [1213], j0m), j0, j0, (.aload_n 0, 1, 0, 0, 0, 0, [], j0m), (.getfield 49, 3, 10, 10, 0, 10, [1239], j0m), 
  j0, j0, (.iload_n 1, 1, 1, 0, 0, 0, [], j0m), (.iaload, 1, 0, 0, 0, 0, [], j0m), (.iastore, 1, 0, 0, 0, 0, [], j0m), (.aload_n 0, 1, 0, 0, 0, 0, [], j0m), (.getfield 31, 3, 10, 4, 0, 4, [1228], j0m), 
  j0, j0, (.aload_n 0, 1, 0, 0, 0, 0, [], j0m), (.getfield 9, 3, 10, 0, 0, 0, [1213], j0m), j0, j0, (.iconst 0, 1, 0, 0, 0, 0, [], j0m), (.iastore, 1, 0, 0, 0, 0, [], j0m), (.aload_n 0, 1, 0, 0, 0, 0, [], j0m), 
  (.getfield 49, 3, 10, 10, 0, 10, [1239], j0m), j0, j0, (.iload_n 1, 1, 1, 0, 0, 0, [], j0m), (.dup2, 1, 0, 0, 0, 0, [], j0m), (.iaload, 1, 0, 0, 0, 0, [], j0m), (.iconst 1, 1, 0, 0, 0, 0, [], j0m), (.iadd, 1, 0, 0, 0, 0, [], j0m), 
  (.iastore, 1, 0, 0, 0, 0, [], j0m), (.aload_n 0, 1, 0, 0, 0, 0, [], j0m), (.dup, 1, 0, 0, 0, 0, [], j0m), (.getfield 9, 3, 10, 0, 0, 0, [1213], j0m), j0, j0, (.iconst 1, 1, 0, 0, 0, 0, [], j0m), (.iadd, 1, 0, 0, 0, 0, [], j0m), 
  (.putfield 9, 3, 10, 0, 0, 0, [1213], j0m), j0, j0, (.return_, 1, 0, 0, 0, 0, [], j0m)]
set_option maxRecDepth 20000 in
theorem t_Words_beginWord : okT m_Words_beginWord k_Words_beginWord = true := by decide +kernel
def k_Words_endRun : List jO := [
  (.aload_n 0, 1, 0, 0, 0, 0, [], j0m), (.getfield 9, 3, 10, 0, 0, 0, [1213], j0m), j0, j0, (.iconst 1, 1, 0, 0, 0, 0, [], j0m), (.isub, 1, 0, 0, 0, 0, [], j0m), (.istore_n 3, 1, 3, 0, 0, 0, [], j0m), 
  (.iload_n 3, 1, 3, 0, 0, 0, [], j0m), (.ifCond .lt 10, 3, 0, 18, 0, 0, [], j0m), j0, j0, (.iload_n 3, 1, 3, 0, 0, 0, [], j0m), (.sipush 300, 3, 0, 0, 0, 0, [], j0m), j0, j0, (.if_icmp .lt 4, 3, 0, 19, 0, 0, [], j0m), 
  j0, j0, (.return_, 1, 0, 0, 0, 0, [], j0m), (.aload_n 0, 1, 0, 0, 0, 0, [], j0m), (.getfield 20, 3, 10, 1, 0, 1, [1218], j0m), j0, j0, (.iload_n 3, 1, 3, 0, 0, 0, [], j0m), (.aload_n 0, 1, 0, 0, 0, 0, [], j0m), 
  (.getfield 62, 3, 10, 13, 0, 13, [2003], j0m), j0, j0, (.getfield 118, 3, 3, 0, 0, 0, [1192], j0m), j0, j0, (.aload_n 1, 1, 1, 0, 0, 0, [], j0m), (.invokestatic 122, 3, 0, 2, 0, 0, [4134, 3237, 1009, 3238], m_Key_mapped), 
  j0, j0, (.aload_n 0, 1, 0, 0, 0, 0, [], j0m), (.getfield 62, 3, 10, 13, 0, 13, [2003], j0m), j0, j0, (.getfield 126, 3, 3, 1, 0, 1, [1198], j0m), j0, j0, (.aload_n 1, 1, 1, 0, 0, 0, [], j0m), (.invokestatic 122, 3, 0, 2, 0, 0, [4134, 3237, 1009, 3238], m_Key_mapped), 
  j0, j0, (.invokevirtual 129, 3, 4, 4, 1, 0, [4135, 3197, 3198, 1004, 3199], m_KeyRow_put), j0, j0, (.iload_n 2, 1, 2, 0, 0, 0, [], j0m), (.ifCond .eq 10, 3, 0, 60, 0, 0, [], j0m), j0, j0, (.aload_n 0, 1, 0, 0, 0, 0, [], j0m), 
  (.getfield 31, 3, 10, 4, 0, 4, [1228], j0m), j0, j0, (.iload_n 3, 1, 3, 0, 0, 0, [], j0m), (.iconst 1, 1, 0, 0, 0, 0, [], j0m), (.iastore, 1, 0, 0, 0, 0, [], j0m), (.return_, 1, 0, 0, 0, 0, [], j0m)]
set_option maxRecDepth 20000 in
theorem t_Words_endRun : okT m_Words_endRun k_Words_endRun = true := by decide +kernel
def k_Book_gather : List jO := [
  (.iconst 0, 1, 0, 0, 0, 0, [], j0m), (.istore_n 2, 1, 2, 0, 0, 0, [], j0m), (.iload_n 2, 1, 2, 0, 0, 0, [], j0m), (.aload_n 1, 1, 1, 0, 0, 0, [], j0m), (.getfield 73, 3, 10, 0, 0, 0, [1216], j0m), j0, 
  j0, (.if_icmp .ge 96, 3, 0, 103, 0, 0, [], j0m), j0, j0, (.iload_n 2, 1, 2, 0, 0, 0, [], j0m), (.sipush 300, 3, 0, 0, 0, 0, [], j0m), j0, j0, (.if_icmp .ge 89, 3, 0, 103, 0, 0, [], j0m), j0, j0, (.aload_n 1, 1, 1, 0, 0, 0, [], j0m), 
  (.getfield 76, 3, 10, 1, 0, 1, [1219], j0m), j0, j0, (.getfield 79, 3, 4, 0, 0, 0, [1052], j0m), j0, j0, (.iload_n 2, 1, 2, 0, 0, 0, [], j0m), (.laload, 1, 0, 0, 0, 0, [], j0m), (.lstore_n 3, 1, 3, 0, 0, 0, [], j0m), 
  (.aload_n 1, 1, 1, 0, 0, 0, [], j0m), (.getfield 76, 3, 10, 1, 0, 1, [1219], j0m), j0, j0, (.getfield 83, 3, 4, 1, 0, 1, [1058], j0m), j0, j0, (.iload_n 2, 1, 2, 0, 0, 0, [], j0m), (.laload, 1, 0, 0, 0, 0, [], j0m), 
  (.lstore 5, 2, 5, 0, 0, 0, [], j0m), j0, (.aload_n 0, 1, 0, 0, 0, 0, [], j0m), (.getfield 24, 3, 1, 2, 0, 2, [2038], j0m), j0, j0, (.aload_n 0, 1, 0, 0, 0, 0, [], j0m), (.getfield 15, 3, 1, 1, 0, 1, [2035], j0m), 
  j0, j0, (.lload_n 3, 1, 3, 0, 0, 0, [], j0m), (.lload 5, 2, 5, 0, 0, 0, [], j0m), j0, (.invokevirtual 86, 3, 4, 4, 1, 0, [4140, 4141, 4142, 1004, 4143], m_KeyRow_find), j0, j0, (.istore 7, 2, 7, 0, 0, 0, [], j0m), 
  j0, (.iload 7, 2, 7, 0, 0, 0, [], j0m), j0, (.ifCond .ge 41, 3, 0, 97, 0, 0, [], j0m), j0, j0, (.aload_n 0, 1, 0, 0, 0, 0, [], j0m), (.getfield 15, 3, 1, 1, 0, 1, [2035], j0m), j0, j0, (.sipush 600, 3, 0, 0, 0, 0, [], j0m), 
  j0, j0, (.if_icmp .ge 31, 3, 0, 97, 0, 0, [], j0m), j0, j0, (.aload_n 0, 1, 0, 0, 0, 0, [], j0m), (.getfield 24, 3, 1, 2, 0, 2, [2038], j0m), j0, j0, (.aload_n 0, 1, 0, 0, 0, 0, [], j0m), (.getfield 15, 3, 1, 1, 0, 1, [2035], j0m), 
  j0, j0, (.iconst (-1), 1, 0, 0, 0, 0, [], j0m), (.iload 7, 2, 7, 0, 0, 0, [], j0m), j0, (.isub, 1, 0, 0, 0, 0, [], j0m), (.lload_n 3, 1, 3, 0, 0, 0, [], j0m), (.lload 5, 2, 5, 0, 0, 0, [], j0m), j0, 
  (.invokevirtual 90, 3, 4, 5, 1, 0, [4147, 4148, 4149, 1004, 4150], m_KeyRow_insert), j0, j0, (.aload_n 0, 1, 0, 0, 0, 0, [], j0m), (.dup, 1, 0, 0, 0, 0, [], j0m), (.getfield 15, 3, 1, 1, 0, 1, [2035], j0m), 
  j0, j0, (.iconst 1, 1, 0, 0, 0, 0, [], j0m), (.iadd, 1, 0, 0, 0, 0, [], j0m), (.putfield 15, 3, 1, 1, 0, 1, [2035], j0m), j0, j0, (.iinc 2 1, 3, 2, 0, 0, 0, [], j0m), j0, j0, (.goto (-98), 3, 0, 2, 0, 0, [], j0m), 
  j0, j0, (.return_, 1, 0, 0, 0, 0, [], j0m)]
set_option maxRecDepth 20000 in
theorem t_Book_gather : okT m_Book_gather k_Book_gather = true := by decide +kernel
def k_KeyRow_find : List jO := [
  (.iconst 0, 1, 0, 0, 0, 0, [], j0m), (.istore 6, 2, 6, 0, 0, 0, [], j0m), j0, (.iload_n 1, 1, 1, 0, 0, 0, [], j0m), (.aload_n 0, 1, 0, 0, 0, 0, [], j0m), (.getfield 13, 3, 4, 0, 0, 0, [1051], j0m), j0, 
  j0, (.arraylength, 1, 0, 0, 0, 0, [], j0m), (.invokestatic 22, 3, 0, 2, 1, 0, [4012, 3078, 1005, 3079], j0m), j0, j0, (.istore 7, 2, 7, 0, 0, 0, [], j0m), j0, (.iload 6, 2, 6, 0, 0, 0, [], j0m), j0, 
  (.iload 7, 2, 7, 0, 0, 0, [], j0m), j0, (.if_icmp .ge 73, 3, 0, 91, 0, 0, [], j0m), j0, j0, (.iload 6, 2, 6, 0, 0, 0, [], j0m), j0, (.iload 7, 2, 7, 0, 0, 0, [], j0m), j0, (.iadd, 1, 0, 0, 0, 0, [], j0m), 
  (.iconst 1, 1, 0, 0, 0, 0, [], j0m), (.iushr, 1, 0, 0, 0, 0, [], j0m), (.istore 8, 2, 8, 0, 0, 0, [], j0m), j0, (.aload_n 0, 1, 0, 0, 0, 0, [], j0m), (.getfield 13, 3, 4, 0, 0, 0, [1051], j0m), j0, j0, 
  (.iload 8, 2, 8, 0, 0, 0, [], j0m), j0, (.laload, 1, 0, 0, 0, 0, [], j0m), (.lload_n 2, 1, 2, 0, 0, 0, [], j0m), (.invokestatic 25, 3, 0, 2, 0, 0, [4144, 4145, 1021, 4146], m_Long_compare), j0, j0, (.istore 9, 2, 9, 0, 0, 0, [], j0m), 
  j0, (.iload 9, 2, 9, 0, 0, 0, [], j0m), j0, (.ifCond .ne 17, 3, 0, 62, 0, 0, [], j0m), j0, j0, (.aload_n 0, 1, 0, 0, 0, 0, [], j0m), (.getfield 19, 3, 4, 1, 0, 1, [1057], j0m), j0, j0, (.iload 8, 2, 8, 0, 0, 0, [], j0m), 
  j0, (.laload, 1, 0, 0, 0, 0, [], j0m), (.lload 4, 2, 4, 0, 0, 0, [], j0m), j0, (.invokestatic 25, 3, 0, 2, 0, 0, [4144, 4145, 1021, 4146], m_Long_compare), j0, j0, (.istore 9, 2, 9, 0, 0, 0, [], j0m), 
  j0, (.iload 9, 2, 9, 0, 0, 0, [], j0m), j0, (.ifCond .ne 6, 3, 0, 70, 0, 0, [], j0m), j0, j0, (.iload 8, 2, 8, 0, 0, 0, [], j0m), j0, (.ireturn, 1, 0, 0, 0, 0, [], j0m), (.iload 9, 2, 9, 0, 0, 0, [], j0m), 
  j0, (.ifCond .ge 12, 3, 0, 84, 0, 0, [], j0m), j0, j0, (.iload 8, 2, 8, 0, 0, 0, [], j0m), j0, (.iconst 1, 1, 0, 0, 0, 0, [], j0m), (.iadd, 1, 0, 0, 0, 0, [], j0m), (.istore 6, 2, 6, 0, 0, 0, [], j0m), 
  j0, (.goto 7, 3, 0, 88, 0, 0, [], j0m), j0, j0, (.iload 8, 2, 8, 0, 0, 0, [], j0m), j0, (.istore 7, 2, 7, 0, 0, 0, [], j0m), j0, (.goto (-74), 3, 0, 14, 0, 0, [], j0m), j0, j0, (.iconst (-1), 1, 0, 0, 0, 0, [], j0m), 
  (.iload 6, 2, 6, 0, 0, 0, [], j0m), j0, (.isub, 1, 0, 0, 0, 0, [], j0m), (.ireturn, 1, 0, 0, 0, 0, [], j0m)]
set_option maxRecDepth 20000 in
theorem t_KeyRow_find : okT m_KeyRow_find k_KeyRow_find = true := by decide +kernel
def k_KeyRow_insert : List jO := [
  (.iload_n 2, 1, 2, 0, 0, 0, [], j0m), (.ifCond .lt 17, 3, 0, 18, 0, 0, [], j0m), j0, j0, (.iload_n 2, 1, 2, 0, 0, 0, [], j0m), (.iload_n 1, 1, 1, 0, 0, 0, [], j0m), (.if_icmp .gt 12, 3, 0, 18, 0, 0, [], j0m), 
  j0, j0, (.iload_n 1, 1, 1, 0, 0, 0, [], j0m), (.aload_n 0, 1, 0, 0, 0, 0, [], j0m), (.getfield 13, 3, 4, 0, 0, 0, [1051], j0m), j0, j0, (.arraylength, 1, 0, 0, 0, 0, [], j0m), (.if_icmp .lt 4, 3, 0, 19, 0, 0, [], j0m), 
  j0, j0, (.return_, 1, 0, 0, 0, 0, [], j0m), (.aload_n 0, 1, 0, 0, 0, 0, [], j0m), (.getfield 13, 3, 4, 0, 0, 0, [1051], j0m), j0, j0, (.iload_n 2, 1, 2, 0, 0, 0, [], j0m), (.aload_n 0, 1, 0, 0, 0, 0, [], j0m), 
  (.getfield 13, 3, 4, 0, 0, 0, [1051], j0m), j0, j0, (.iload_n 2, 1, 2, 0, 0, 0, [], j0m), (.iconst 1, 1, 0, 0, 0, 0, [], j0m), (.iadd, 1, 0, 0, 0, 0, [], j0m), (.iload_n 1, 1, 1, 0, 0, 0, [], j0m), (.iload_n 2, 1, 2, 0, 0, 0, [], j0m), 
  (.isub, 1, 0, 0, 0, 0, [], j0m), (.invokestatic 31, 3, 4, 5, 3, 0, [4013, 4007, 4006, 1020], j0m), j0, j0, (.aload_n 0, 1, 0, 0, 0, 0, [], j0m), (.getfield 19, 3, 4, 1, 0, 1, [1057], j0m), j0, j0, (.iload_n 2, 1, 2, 0, 0, 0, [], j0m), 
  (.aload_n 0, 1, 0, 0, 0, 0, [], j0m), (.getfield 19, 3, 4, 1, 0, 1, [1057], j0m), j0, j0, (.iload_n 2, 1, 2, 0, 0, 0, [], j0m), (.iconst 1, 1, 0, 0, 0, 0, [], j0m), (.iadd, 1, 0, 0, 0, 0, [], j0m), (.iload_n 1, 1, 1, 0, 0, 0, [], j0m), 
  (.iload_n 2, 1, 2, 0, 0, 0, [], j0m), (.isub, 1, 0, 0, 0, 0, [], j0m), (.invokestatic 31, 3, 4, 5, 3, 0, [4013, 4007, 4006, 1020], j0m), j0, j0, (.aload_n 0, 1, 0, 0, 0, 0, [], j0m), (.iload_n 2, 1, 2, 0, 0, 0, [], j0m), 
  (.lload_n 3, 1, 3, 0, 0, 0, [], j0m), (.lload 5, 2, 5, 0, 0, 0, [], j0m), j0, (.invokevirtual 37, 3, 4, 4, 1, 0, [4000, 3197, 3198, 1004, 3199], m_KeyRow_put), j0, j0, (.return_, 1, 0, 0, 0, 0, [], j0m)
  ]
set_option maxRecDepth 20000 in
theorem t_KeyRow_insert : okT m_KeyRow_insert k_KeyRow_insert = true := by decide +kernel
def k_Words_number : List jO := [
  (.aload_n 0, 1, 0, 0, 0, 0, [], j0m), (.getfield 37, 3, 10, 6, 0, 6, [1233], j0m), j0, j0, (.iconst 0, 1, 0, 0, 0, 0, [], j0m), (.invokestatic 66, 3, 0, 2, 0, 0, [4116, 1075, 1006, 1076], m_Arrays_fill), 
  j0, j0, (.iconst 0, 1, 0, 0, 0, 0, [], j0m), (.istore_n 3, 1, 3, 0, 0, 0, [], j0m), (.iload_n 3, 1, 3, 0, 0, 0, [], j0m), (.aload_n 0, 1, 0, 0, 0, 0, [], j0m), (.getfield 9, 3, 10, 0, 0, 0, [1213], j0m), 
  j0, j0, (.if_icmp .ge 73, 3, 0, 88, 0, 0, [], j0m), j0, j0, (.iload_n 3, 1, 3, 0, 0, 0, [], j0m), (.sipush 300, 3, 0, 0, 0, 0, [], j0m), j0, j0, (.if_icmp .ge 66, 3, 0, 88, 0, 0, [], j0m), j0, j0, (.aload_n 1, 1, 1, 0, 0, 0, [], j0m), 
  (.iload_n 2, 1, 2, 0, 0, 0, [], j0m), (.aload_n 0, 1, 0, 0, 0, 0, [], j0m), (.getfield 20, 3, 10, 1, 0, 1, [1218], j0m), j0, j0, (.getfield 133, 3, 4, 0, 0, 0, [1053], j0m), j0, j0, (.iload_n 3, 1, 3, 0, 0, 0, [], j0m), 
  (.laload, 1, 0, 0, 0, 0, [], j0m), (.aload_n 0, 1, 0, 0, 0, 0, [], j0m), (.getfield 20, 3, 10, 1, 0, 1, [1218], j0m), j0, j0, (.getfield 136, 3, 4, 1, 0, 1, [1059], j0m), j0, j0, (.iload_n 3, 1, 3, 0, 0, 0, [], j0m), 
  (.laload, 1, 0, 0, 0, 0, [], j0m), (.invokevirtual 138, 3, 4, 4, 1, 0, [4155, 4141, 4142, 1004, 4143], m_KeyRow_find), j0, j0, (.istore 4, 2, 4, 0, 0, 0, [], j0m), j0, (.aload_n 0, 1, 0, 0, 0, 0, [], j0m), 
  (.getfield 34, 3, 10, 5, 0, 5, [1230], j0m), j0, j0, (.iload_n 3, 1, 3, 0, 0, 0, [], j0m), (.iload 4, 2, 4, 0, 0, 0, [], j0m), j0, (.iastore, 1, 0, 0, 0, 0, [], j0m), (.iload 4, 2, 4, 0, 0, 0, [], j0m), 
  j0, (.ifCond .lt 22, 3, 0, 82, 0, 0, [], j0m), j0, j0, (.iload 4, 2, 4, 0, 0, 0, [], j0m), j0, (.sipush 600, 3, 0, 0, 0, 0, [], j0m), j0, j0, (.if_icmp .ge 14, 3, 0, 82, 0, 0, [], j0m), j0, j0, (.aload_n 0, 1, 0, 0, 0, 0, [], j0m), 
  (.getfield 37, 3, 10, 6, 0, 6, [1233], j0m), j0, j0, (.iload 4, 2, 4, 0, 0, 0, [], j0m), j0, (.dup2, 1, 0, 0, 0, 0, [], j0m), (.iaload, 1, 0, 0, 0, 0, [], j0m), (.iconst 1, 1, 0, 0, 0, 0, [], j0m), (.iadd, 1, 0, 0, 0, 0, [], j0m), 
  (.iastore, 1, 0, 0, 0, 0, [], j0m), (.iinc 3 1, 3, 3, 0, 0, 0, [], j0m), j0, j0, (.goto (-75), 3, 0, 10, 0, 0, [], j0m), j0, j0, (.aload_n 0, 1, 0, 0, 0, 0, [], j0m), (.iconst 0, 1, 0, 0, 0, 0, [], j0m), 
  (.putfield 46, 3, 10, 9, 0, 9, [1237], j0m), j0, j0, (.iconst 0, 1, 0, 0, 0, 0, [], j0m), (.istore_n 3, 1, 3, 0, 0, 0, [], j0m), (.iconst 0, 1, 0, 0, 0, 0, [], j0m), (.istore 4, 2, 4, 0, 0, 0, [], j0m), 
  j0, (.iload 4, 2, 4, 0, 0, 0, [], j0m), j0, (.sipush 600, 3, 0, 0, 0, 0, [], j0m), j0, j0, (.if_icmp .ge 51, 3, 0, 154, 0, 0, [], j0m), j0, j0, (.aload_n 0, 1, 0, 0, 0, 0, [], j0m), (.dup, 1, 0, 0, 0, 0, [], j0m), 
  (.getfield 46, 3, 10, 9, 0, 9, [1237], j0m), j0, j0, (.aload_n 0, 1, 0, 0, 0, 0, [], j0m), (.getfield 37, 3, 10, 6, 0, 6, [1233], j0m), j0, j0, (.iload 4, 2, 4, 0, 0, 0, [], j0m), j0, (.iaload, 1, 0, 0, 0, 0, [], j0m), 
  (.ifCond .le 7, 3, 0, 125, 0, 0, [], j0m), j0, j0, (.iconst 1, 1, 0, 0, 0, 0, [], j0m), (.goto 4, 3, 0, 126, 0, 0, [], j0m), j0, j0, (.iconst 0, 1, 0, 0, 0, 0, [], j0m), (.iadd, 1, 0, 0, 0, 0, [], j0m), 
  (.putfield 46, 3, 10, 9, 0, 9, [1237], j0m), j0, j0, (.iload_n 3, 1, 3, 0, 0, 0, [], j0m), (.aload_n 0, 1, 0, 0, 0, 0, [], j0m), (.getfield 37, 3, 10, 6, 0, 6, [1233], j0m), j0, j0, (.iload 4, 2, 4, 0, 0, 0, [], j0m), 
  j0, (.iaload, 1, 0, 0, 0, 0, [], j0m), (.iadd, 1, 0, 0, 0, 0, [], j0m), (.istore_n 3, 1, 3, 0, 0, 0, [], j0m), (.aload_n 0, 1, 0, 0, 0, 0, [], j0m), (.getfield 43, 3, 10, 8, 0, 8, [1236], j0m), j0, j0, 
  (.iload 4, 2, 4, 0, 0, 0, [], j0m), j0, (.iload_n 3, 1, 3, 0, 0, 0, [], j0m), (.iastore, 1, 0, 0, 0, 0, [], j0m), (.iinc 4 1, 3, 4, 0, 0, 0, [], j0m), j0, j0, (.goto (-53), 3, 0, 98, 0, 0, [], j0m), 
  j0, j0, (.aload_n 0, 1, 0, 0, 0, 0, [], j0m), (.invokevirtual 142, 3, 10, 1, 1, 0, [4156, 4158, 20, 1008, 4159], m_Words_fillLists), j0, j0, (.return_, 1, 0, 0, 0, 0, [], j0m)]
set_option maxRecDepth 20000 in
theorem t_Words_number : okT m_Words_number k_Words_number = true := by decide +kernel
def k_Words_fillLists : List jO := [
  (.aload_n 0, 1, 0, 0, 0, 0, [], j0m), (.getfield 9, 3, 10, 0, 0, 0, [1213], j0m), j0, j0, (.sipush 300, 3, 0, 0, 0, 0, [], j0m), j0, j0, (.invokestatic 145, 3, 0, 2, 1, 0, [4160, 3078, 1005, 3079], j0m), 
  j0, j0, (.iconst 1, 1, 0, 0, 0, 0, [], j0m), (.isub, 1, 0, 0, 0, 0, [], j0m), (.istore_n 1, 1, 1, 0, 0, 0, [], j0m), (.iload_n 1, 1, 1, 0, 0, 0, [], j0m), (.ifCond .lt 58, 3, 0, 72, 0, 0, [], j0m), j0, 
  j0, (.aload_n 0, 1, 0, 0, 0, 0, [], j0m), (.getfield 34, 3, 10, 5, 0, 5, [1230], j0m), j0, j0, (.iload_n 1, 1, 1, 0, 0, 0, [], j0m), (.iaload, 1, 0, 0, 0, 0, [], j0m), (.istore_n 2, 1, 2, 0, 0, 0, [], j0m), 
  (.iload_n 2, 1, 2, 0, 0, 0, [], j0m), (.ifCond .lt 41, 3, 0, 66, 0, 0, [], j0m), j0, j0, (.iload_n 2, 1, 2, 0, 0, 0, [], j0m), (.sipush 600, 3, 0, 0, 0, 0, [], j0m), j0, j0, (.if_icmp .ge 34, 3, 0, 66, 0, 0, [], j0m), 
  j0, j0, (.aload_n 0, 1, 0, 0, 0, 0, [], j0m), (.getfield 43, 3, 10, 8, 0, 8, [1236], j0m), j0, j0, (.iload_n 2, 1, 2, 0, 0, 0, [], j0m), (.iaload, 1, 0, 0, 0, 0, [], j0m), (.ifCond .le 25, 3, 0, 66, 0, 0, [], j0m), 
  j0, j0, (.aload_n 0, 1, 0, 0, 0, 0, [], j0m), (.getfield 43, 3, 10, 8, 0, 8, [1236], j0m), j0, j0, (.iload_n 2, 1, 2, 0, 0, 0, [], j0m), (.dup2, 1, 0, 0, 0, 0, [], j0m), (.iaload, 1, 0, 0, 0, 0, [], j0m), 
  (.iconst 1, 1, 0, 0, 0, 0, [], j0m), (.isub, 1, 0, 0, 0, 0, [], j0m), (.iastore, 1, 0, 0, 0, 0, [], j0m), (.aload_n 0, 1, 0, 0, 0, 0, [], j0m), (.getfield 40, 3, 10, 7, 0, 7, [1235], j0m), j0, j0, (.aload_n 0, 1, 0, 0, 0, 0, [], j0m), 
  (.getfield 43, 3, 10, 8, 0, 8, [1236], j0m), j0, j0, (.iload_n 2, 1, 2, 0, 0, 0, [], j0m), (.iaload, 1, 0, 0, 0, 0, [], j0m), (.iload_n 1, 1, 1, 0, 0, 0, [], j0m), (.iastore, 1, 0, 0, 0, 0, [], j0m), 
  (.iinc 1 (-1), 3, 1, 0, 0, 0, [], j0m), j0, j0, (.goto (-56), 3, 0, 13, 0, 0, [], j0m), j0, j0, (.return_, 1, 0, 0, 0, 0, [], j0m)]
set_option maxRecDepth 20000 in
theorem t_Words_fillLists : okT m_Words_fillLists k_Words_fillLists = true := by decide +kernel
def k_Book_bringToOrder : List jO := [
  (.iconst 0, 1, 0, 0, 0, 0, [], j0m), (.istore_n 2, 1, 2, 0, 0, 0, [], j0m), (.iload_n 2, 1, 2, 0, 0, 0, [], j0m), (.aload_n 0, 1, 0, 0, 0, 0, [], j0m), (.getfield 15, 3, 1, 1, 0, 1, [2035], j0m), j0, 
  j0, (.if_icmp .ge 116, 3, 0, 123, 0, 0, [], j0m), j0, j0, (.iload_n 2, 1, 2, 0, 0, 0, [], j0m), (.sipush 600, 3, 0, 0, 0, 0, [], j0m), j0, j0, (.if_icmp .ge 109, 3, 0, 123, 0, 0, [], j0m), j0, j0, (.aload_n 0, 1, 0, 0, 0, 0, [], j0m), 
  (.getfield 24, 3, 1, 2, 0, 2, [2038], j0m), j0, j0, (.getfield 79, 3, 4, 0, 0, 0, [1052], j0m), j0, j0, (.iload_n 2, 1, 2, 0, 0, 0, [], j0m), (.laload, 1, 0, 0, 0, 0, [], j0m), (.aload_n 1, 1, 1, 0, 0, 0, [], j0m), 
  (.invokestatic 94, 3, 0, 2, 0, 0, [4165, 3237, 1009, 3238], m_Key_mapped), j0, j0, (.lstore_n 3, 1, 3, 0, 0, 0, [], j0m), (.aload_n 0, 1, 0, 0, 0, 0, [], j0m), (.getfield 24, 3, 1, 2, 0, 2, [2038], j0m), 
  j0, j0, (.getfield 83, 3, 4, 1, 0, 1, [1058], j0m), j0, j0, (.iload_n 2, 1, 2, 0, 0, 0, [], j0m), (.laload, 1, 0, 0, 0, 0, [], j0m), (.aload_n 1, 1, 1, 0, 0, 0, [], j0m), (.invokestatic 94, 3, 0, 2, 0, 0, [4165, 3237, 1009, 3238], m_Key_mapped), 
  j0, j0, (.lstore 5, 2, 5, 0, 0, 0, [], j0m), j0, (.aload_n 0, 1, 0, 0, 0, 0, [], j0m), (.getfield 32, 3, 1, 4, 0, 4, [2043], j0m), j0, j0, (.iload_n 2, 1, 2, 0, 0, 0, [], j0m), (.lload_n 3, 1, 3, 0, 0, 0, [], j0m), 
  (.lload 5, 2, 5, 0, 0, 0, [], j0m), j0, (.invokevirtual 86, 3, 4, 4, 1, 0, [4140, 4141, 4142, 1004, 4143], m_KeyRow_find), j0, j0, (.istore 7, 2, 7, 0, 0, 0, [], j0m), j0, (.iload 7, 2, 7, 0, 0, 0, [], j0m), 
  j0, (.ifCond .ge 10, 3, 0, 71, 0, 0, [], j0m), j0, j0, (.iconst (-1), 1, 0, 0, 0, 0, [], j0m), (.iload 7, 2, 7, 0, 0, 0, [], j0m), j0, (.isub, 1, 0, 0, 0, 0, [], j0m), (.goto 5, 3, 0, 73, 0, 0, [], j0m), 
  j0, j0, (.iload 7, 2, 7, 0, 0, 0, [], j0m), j0, (.istore 8, 2, 8, 0, 0, 0, [], j0m), j0, (.aload_n 0, 1, 0, 0, 0, 0, [], j0m), (.getfield 32, 3, 1, 4, 0, 4, [2043], j0m), j0, j0, (.iload_n 2, 1, 2, 0, 0, 0, [], j0m), 
  (.iload 8, 2, 8, 0, 0, 0, [], j0m), j0, (.lload_n 3, 1, 3, 0, 0, 0, [], j0m), (.lload 5, 2, 5, 0, 0, 0, [], j0m), j0, (.invokevirtual 90, 3, 4, 5, 1, 0, [4147, 4148, 4149, 1004, 4150], m_KeyRow_insert), 
  j0, j0, (.aload_n 0, 1, 0, 0, 0, 0, [], j0m), (.getfield 28, 3, 1, 3, 0, 3, [2041], j0m), j0, j0, (.iload 8, 2, 8, 0, 0, 0, [], j0m), j0, (.aload_n 0, 1, 0, 0, 0, 0, [], j0m), (.getfield 28, 3, 1, 3, 0, 3, [2041], j0m), 
  j0, j0, (.iload 8, 2, 8, 0, 0, 0, [], j0m), j0, (.iconst 1, 1, 0, 0, 0, 0, [], j0m), (.iadd, 1, 0, 0, 0, 0, [], j0m), (.iload_n 2, 1, 2, 0, 0, 0, [], j0m), (.iload 8, 2, 8, 0, 0, 0, [], j0m), j0, (.isub, 1, 0, 0, 0, 0, [], j0m), 
  (.invokestatic 100, 3, 1, 5, 3, 0, [4166, 4007, 4006, 1020], j0m), j0, j0, (.aload_n 0, 1, 0, 0, 0, 0, [], j0m), (.getfield 28, 3, 1, 3, 0, 3, [2041], j0m), j0, j0, (.iload 8, 2, 8, 0, 0, 0, [], j0m), 
  j0, (.iload_n 2, 1, 2, 0, 0, 0, [], j0m), (.iastore, 1, 0, 0, 0, 0, [], j0m), (.iinc 2 1, 3, 2, 0, 0, 0, [], j0m), j0, j0, (.goto (-118), 3, 0, 2, 0, 0, [], j0m), j0, j0, (.return_, 1, 0, 0, 0, 0, [], j0m)
  ]
set_option maxRecDepth 20000 in
theorem t_Book_bringToOrder : okT m_Book_bringToOrder k_Book_bringToOrder = true := by decide +kernel
def k_Key_letterAt : List jO := [
  (.iload 4, 2, 4, 0, 0, 0, [], j0m), j0, (.ifCond .lt 10, 3, 0, 12, 0, 0, [], j0m), j0, j0, (.iload 4, 2, 4, 0, 0, 0, [], j0m), j0, (.bipush 20, 2, 0, 0, 0, 0, [], j0m), j0, (.if_icmp .lt 5, 3, 0, 14, 0, 0, [], j0m), 
  j0, j0, (.iconst (-1), 1, 0, 0, 0, 0, [], j0m), (.ireturn, 1, 0, 0, 0, 0, [], j0m), (.iload 4, 2, 4, 0, 0, 0, [], j0m), j0, (.bipush 10, 2, 0, 0, 0, 0, [], j0m), j0, (.if_icmp .ge 7, 3, 0, 25, 0, 0, [], j0m), 
  j0, j0, (.lload_n 0, 1, 0, 0, 0, 0, [], j0m), (.goto 4, 3, 0, 26, 0, 0, [], j0m), j0, j0, (.lload_n 2, 1, 2, 0, 0, 0, [], j0m), (.lstore 5, 2, 5, 0, 0, 0, [], j0m), j0, (.lload 5, 2, 5, 0, 0, 0, [], j0m), 
  j0, (.bipush 45, 2, 0, 0, 0, 0, [], j0m), j0, (.iconst 5, 1, 0, 0, 0, 0, [], j0m), (.iload 4, 2, 4, 0, 0, 0, [], j0m), j0, (.bipush 10, 2, 0, 0, 0, 0, [], j0m), j0, (.irem, 1, 0, 0, 0, 0, [], j0m), (.imul, 1, 0, 0, 0, 0, [], j0m), 
  (.isub, 1, 0, 0, 0, 0, [], j0m), (.lshr, 1, 0, 0, 0, 0, [], j0m), (.ldc2_w 26, 3, 0, 0, 0, 31, [3239], j0m), j0, j0, (.land, 1, 0, 0, 0, 0, [], j0m), (.l2i, 1, 0, 0, 0, 0, [], j0m), (.iconst 1, 1, 0, 0, 0, 0, [], j0m), 
  (.isub, 1, 0, 0, 0, 0, [], j0m), (.ireturn, 1, 0, 0, 0, 0, [], j0m)]
set_option maxRecDepth 20000 in
theorem t_Key_letterAt : okT m_Key_letterAt k_Key_letterAt = true := by decide +kernel
def k_Key_lengthOf : List jO := [
  (.iconst 0, 1, 0, 0, 0, 0, [], j0m), (.istore 4, 2, 4, 0, 0, 0, [], j0m), j0, (.iload 4, 2, 4, 0, 0, 0, [], j0m), j0, (.bipush 20, 2, 0, 0, 0, 0, [], j0m), j0, (.if_icmp .ge 20, 3, 0, 27, 0, 0, [], j0m), 
  j0, j0, (.lload_n 0, 1, 0, 0, 0, 0, [], j0m), (.lload_n 2, 1, 2, 0, 0, 0, [], j0m), (.iload 4, 2, 4, 0, 0, 0, [], j0m), j0, (.invokestatic 28, 3, 0, 3, 0, 0, [4190, 4185, 1009, 4186], m_Key_letterAt), 
  j0, j0, (.iconst (-1), 1, 0, 0, 0, 0, [], j0m), (.if_icmp .eq 9, 3, 0, 27, 0, 0, [], j0m), j0, j0, (.iinc 4 1, 3, 4, 0, 0, 0, [], j0m), j0, j0, (.goto (-21), 3, 0, 3, 0, 0, [], j0m), j0, j0, (.iload 4, 2, 4, 0, 0, 0, [], j0m), 
  j0, (.ireturn, 1, 0, 0, 0, 0, [], j0m)]
set_option maxRecDepth 20000 in
theorem t_Key_lengthOf : okT m_Key_lengthOf k_Key_lengthOf = true := by decide +kernel
def k_Rules_isStop : List jO := [
  (.iconst 0, 1, 0, 0, 0, 0, [], j0m), (.istore 5, 2, 5, 0, 0, 0, [], j0m), j0, (.iload 5, 2, 5, 0, 0, 0, [], j0m), j0, (.aload_n 0, 1, 0, 0, 0, 0, [], j0m), (.getfield 34, 3, 7, 5, 0, 5, [1093], j0m), 
  j0, j0, (.if_icmp .ge 25, 3, 0, 34, 0, 0, [], j0m), j0, j0, (.aload_n 0, 1, 0, 0, 0, 0, [], j0m), (.getfield 30, 3, 7, 4, 0, 4, [1091], j0m), j0, j0, (.iload 5, 2, 5, 0, 0, 0, [], j0m), j0, (.lload_n 1, 1, 1, 0, 0, 0, [], j0m), 
  (.lload_n 3, 1, 3, 0, 0, 0, [], j0m), (.invokevirtual 80, 3, 4, 4, 1, 0, [4195, 4196, 4197, 1004, 4198], m_KeyRow_holds), j0, j0, (.ifCond .eq 5, 3, 0, 28, 0, 0, [], j0m), j0, j0, (.iconst 1, 1, 0, 0, 0, 0, [], j0m), 
  (.ireturn, 1, 0, 0, 1, 0, [], j0m), (.iinc 5 1, 3, 5, 0, 0, 0, [], j0m), j0, j0, (.goto (-28), 3, 0, 3, 0, 0, [], j0m), j0, j0, (.iconst 0, 1, 0, 0, 0, 0, [], j0m), (.ireturn, 1, 0, 0, 1, 0, [], j0m)
  ]
set_option maxRecDepth 20000 in
theorem t_Rules_isStop : okT m_Rules_isStop k_Rules_isStop = true := by decide +kernel
def k_KeyRow_holds : List jO := [
  (.iload_n 1, 1, 1, 0, 0, 0, [], j0m), (.ifCond .lt 39, 3, 0, 40, 0, 0, [], j0m), j0, j0, (.iload_n 1, 1, 1, 0, 0, 0, [], j0m), (.aload_n 0, 1, 0, 0, 0, 0, [], j0m), (.getfield 13, 3, 4, 0, 0, 0, [1051], j0m), 
  j0, j0, (.arraylength, 1, 0, 0, 0, 0, [], j0m), (.if_icmp .ge 30, 3, 0, 40, 0, 0, [], j0m), j0, j0, (.aload_n 0, 1, 0, 0, 0, 0, [], j0m), (.getfield 13, 3, 4, 0, 0, 0, [1051], j0m), j0, j0, (.iload_n 1, 1, 1, 0, 0, 0, [], j0m), 
  (.laload, 1, 0, 0, 0, 0, [], j0m), (.lload_n 2, 1, 2, 0, 0, 0, [], j0m), (.lcmp, 1, 0, 0, 0, 0, [], j0m), (.ifCond .ne 19, 3, 0, 40, 0, 0, [], j0m), j0, j0, (.aload_n 0, 1, 0, 0, 0, 0, [], j0m), (.getfield 19, 3, 4, 1, 0, 1, [1057], j0m), 
  j0, j0, (.iload_n 1, 1, 1, 0, 0, 0, [], j0m), (.laload, 1, 0, 0, 0, 0, [], j0m), (.lload 4, 2, 4, 0, 0, 0, [], j0m), j0, (.lcmp, 1, 0, 0, 0, 0, [], j0m), (.ifCond .ne 7, 3, 0, 40, 0, 0, [], j0m), j0, 
  j0, (.iconst 1, 1, 0, 0, 0, 0, [], j0m), (.goto 4, 3, 0, 41, 0, 0, [], j0m), j0, j0, (.iconst 0, 1, 0, 0, 0, 0, [], j0m), (.ireturn, 1, 0, 0, 1, 0, [], j0m)]
set_option maxRecDepth 20000 in
theorem t_KeyRow_holds : okT m_KeyRow_holds k_KeyRow_holds = true := by decide +kernel
def k_Rules_rootOf : List jO := [
  (.iconst 0, 1, 0, 0, 0, 0, [], j0m), (.istore 5, 2, 5, 0, 0, 0, [], j0m), j0, (.iload 5, 2, 5, 0, 0, 0, [], j0m), j0, (.aload_n 0, 1, 0, 0, 0, 0, [], j0m), (.getfield 40, 3, 7, 7, 0, 7, [1098], j0m), 
  j0, j0, (.if_icmp .ge 59, 3, 0, 68, 0, 0, [], j0m), j0, j0, (.iload 5, 2, 5, 0, 0, 0, [], j0m), j0, (.bipush 20, 2, 0, 0, 0, 0, [], j0m), j0, (.if_icmp .ge 52, 3, 0, 68, 0, 0, [], j0m), j0, j0, (.iconst 0, 1, 0, 0, 0, 0, [], j0m), 
  (.istore 6, 2, 6, 0, 0, 0, [], j0m), j0, (.iload 6, 2, 6, 0, 0, 0, [], j0m), j0, (.aload_n 0, 1, 0, 0, 0, 0, [], j0m), (.getfield 46, 3, 7, 9, 0, 9, [1104], j0m), j0, j0, (.iload 5, 2, 5, 0, 0, 0, [], j0m), 
  j0, (.iaload, 1, 0, 0, 0, 0, [], j0m), (.if_icmp .ge 31, 3, 0, 62, 0, 0, [], j0m), j0, j0, (.aload_n 0, 1, 0, 0, 0, 0, [], j0m), (.getfield 43, 3, 7, 8, 0, 8, [1101], j0m), j0, j0, (.iload 5, 2, 5, 0, 0, 0, [], j0m), 
  j0, (.iconst 4, 1, 0, 0, 0, 0, [], j0m), (.imul, 1, 0, 0, 0, 0, [], j0m), (.iload 6, 2, 6, 0, 0, 0, [], j0m), j0, (.iadd, 1, 0, 0, 0, 0, [], j0m), (.lload_n 1, 1, 1, 0, 0, 0, [], j0m), (.lload_n 3, 1, 3, 0, 0, 0, [], j0m), 
  (.invokevirtual 80, 3, 4, 4, 1, 0, [4195, 4196, 4197, 1004, 4198], m_KeyRow_holds), j0, j0, (.ifCond .eq 6, 3, 0, 56, 0, 0, [], j0m), j0, j0, (.iload 5, 2, 5, 0, 0, 0, [], j0m), j0, (.ireturn, 1, 0, 0, 0, 0, [], j0m), 
  (.iinc 6 1, 3, 6, 0, 0, 0, [], j0m), j0, j0, (.goto (-37), 3, 0, 22, 0, 0, [], j0m), j0, j0, (.iinc 5 1, 3, 5, 0, 0, 0, [], j0m), j0, j0, (.goto (-62), 3, 0, 3, 0, 0, [], j0m), j0, j0, (.iconst (-1), 1, 0, 0, 0, 0, [], j0m), 
  (.ireturn, 1, 0, 0, 0, 0, [], j0m)]
set_option maxRecDepth 20000 in
theorem t_Rules_rootOf : okT m_Rules_rootOf k_Rules_rootOf = true := by decide +kernel
def k_Asker_solve : List jO := [
  (.aload_n 0, 1, 0, 0, 0, 0, [], j0m), (.aload_n 0, 1, 0, 0, 0, 0, [], j0m), (.getfield 55, 3, 0, 2, 0, 2, [2162], j0m), j0, j0, (.iload_n 1, 1, 1, 0, 0, 0, [], j0m), (.invokevirtual 59, 3, 1, 2, 1, 0, [2156, 2157, 2158, 1007, 2159], m_Book_wordsOf), 
  j0, j0, (.putfield 65, 3, 0, 4, 0, 4, [2164], j0m), j0, j0, (.aload_n 0, 1, 0, 0, 0, 0, [], j0m), (.iconst 0, 1, 0, 0, 0, 0, [], j0m), (.putfield 18, 3, 0, 5, 0, 5, [2165], j0m), j0, j0, (.aload_n 0, 1, 0, 0, 0, 0, [], j0m), 
  (.getfield 47, 3, 0, 0, 0, 0, [2160], j0m), j0, j0, (.iload_n 2, 1, 2, 0, 0, 0, [], j0m), (.invokevirtual 69, 3, 9, 2, 1, 0, [4215, 3074, 3075, 1011, 3076], m_Tokens_open), j0, j0, (.aload_n 0, 1, 0, 0, 0, 0, [], j0m), 
  (.iconst 0, 1, 0, 0, 0, 0, [], j0m), (.invokevirtual 75, 3, 0, 2, 1, 0, [4216, 4218, 23, 1013, 4219], m_Asker_readAsk), j0, j0, (.ifCond .ne 5, 3, 0, 35, 0, 0, [], j0m), j0, j0, (.iconst 0, 1, 0, 0, 0, 0, [], j0m), 
  (.ireturn, 1, 0, 0, 1, 0, [], j0m), (.aload_n 0, 1, 0, 0, 0, 0, [], j0m), (.getfield 47, 3, 0, 0, 0, 0, [2160], j0m), j0, j0, (.getfield 79, 3, 9, 4, 0, 4, [2101], j0m), j0, j0, (.ifCond .eq 12, 3, 0, 54, 0, 0, [], j0m), 
  j0, j0, (.aload_n 0, 1, 0, 0, 0, 0, [], j0m), (.getfield 47, 3, 0, 0, 0, 0, [2160], j0m), j0, j0, (.iconst 1, 1, 0, 0, 0, 0, [], j0m), (.invokevirtual 82, 3, 9, 2, 1, 0, [4220, 3171, 3172, 1011, 3173], m_Tokens_fail), 
  j0, j0, (.ireturn, 1, 0, 0, 1, 0, [], j0m), (.aload_n 0, 1, 0, 0, 0, 0, [], j0m), (.aload_n 0, 1, 0, 0, 0, 0, [], j0m), (.getfield 24, 3, 0, 6, 0, 6, [2166], j0m), j0, j0, (.iconst 0, 1, 0, 0, 0, 0, [], j0m), 
  (.aaload, 1, 0, 0, 1, 0, [], j0m), (.invokevirtual 85, 3, 0, 2, 1, 0, [5066, 5068, 37, 1013, 5069], m_Asker_putDown), j0, j0, (.iconst 1, 1, 0, 0, 0, 0, [], j0m), (.ireturn, 1, 0, 0, 1, 0, [], j0m)]
set_option maxRecDepth 20000 in
theorem t_Asker_solve : okT m_Asker_solve k_Asker_solve = true := by decide +kernel
def k_Asker_readAsk : List jO := [
  (.iload_n 1, 1, 1, 0, 0, 0, [], j0m), (.ifCond .lt 9, 3, 0, 10, 0, 0, [], j0m), j0, j0, (.iload_n 1, 1, 1, 0, 0, 0, [], j0m), (.bipush 7, 2, 0, 0, 0, 0, [], j0m), j0, (.if_icmp .lt 12, 3, 0, 19, 0, 0, [], j0m), 
  j0, j0, (.aload_n 0, 1, 0, 0, 0, 0, [], j0m), (.getfield 47, 3, 0, 0, 0, 0, [2160], j0m), j0, j0, (.iconst 3, 1, 0, 0, 0, 0, [], j0m), (.invokevirtual 82, 3, 9, 2, 1, 0, [4220, 3171, 3172, 1011, 3173], m_Tokens_fail), 
  j0, j0, (.ireturn, 1, 0, 0, 1, 0, [], j0m), (.aload_n 0, 1, 0, 0, 0, 0, [], j0m), (.getfield 24, 3, 0, 6, 0, 6, [2166], j0m), j0, j0, (.iconst 2, 1, 0, 0, 0, 0, [], j0m), (.iload_n 1, 1, 1, 0, 0, 0, [], j0m), 
  (.imul, 1, 0, 0, 0, 0, [], j0m), (.aaload, 1, 0, 0, 1, 0, [], j0m), (.astore_n 2, 1, 2, 0, 0, 0, [], j0m), (.aload_n 0, 1, 0, 0, 0, 0, [], j0m), (.getfield 24, 3, 0, 6, 0, 6, [2166], j0m), j0, j0, (.iconst 2, 1, 0, 0, 0, 0, [], j0m), 
  (.iload_n 1, 1, 1, 0, 0, 0, [], j0m), (.imul, 1, 0, 0, 0, 0, [], j0m), (.iconst 1, 1, 0, 0, 0, 0, [], j0m), (.iadd, 1, 0, 0, 0, 0, [], j0m), (.aaload, 1, 0, 0, 1, 0, [], j0m), (.astore_n 3, 1, 3, 0, 0, 0, [], j0m), 
  (.aload_n 0, 1, 0, 0, 0, 0, [], j0m), (.iload_n 1, 1, 1, 0, 0, 0, [], j0m), (.aload_n 2, 1, 2, 0, 0, 0, [], j0m), (.invokevirtual 94, 3, 0, 3, 1, 0, [4221, 4223, 24, 1013, 4224], m_Asker_readUnit), j0, 
  j0, (.ifCond .ne 5, 3, 0, 50, 0, 0, [], j0m), j0, j0, (.iconst 0, 1, 0, 0, 0, 0, [], j0m), (.ireturn, 1, 0, 0, 1, 0, [], j0m), (.iconst 0, 1, 0, 0, 0, 0, [], j0m), (.istore 4, 2, 4, 0, 0, 0, [], j0m), 
  j0, (.iload 4, 2, 4, 0, 0, 0, [], j0m), j0, (.bipush 30, 2, 0, 0, 0, 0, [], j0m), j0, (.if_icmp .ge 125, 3, 0, 182, 0, 0, [], j0m), j0, j0, (.aload_n 0, 1, 0, 0, 0, 0, [], j0m), (.getfield 47, 3, 0, 0, 0, 0, [2160], j0m), 
  j0, j0, (.getfield 79, 3, 9, 4, 0, 4, [2101], j0m), j0, j0, (.ifCond .eq 115, 3, 0, 182, 0, 0, [], j0m), j0, j0, (.aload_n 0, 1, 0, 0, 0, 0, [], j0m), (.getfield 47, 3, 0, 0, 0, 0, [2160], j0m), j0, 
  j0, (.getfield 79, 3, 9, 4, 0, 4, [2101], j0m), j0, j0, (.bipush 41, 2, 0, 0, 0, 0, [], j0m), j0, (.if_icmp .eq 103, 3, 0, 182, 0, 0, [], j0m), j0, j0, (.aload_n 0, 1, 0, 0, 0, 0, [], j0m), (.invokevirtual 98, 3, 0, 1, 1, 0, [4231, 4233, 26, 1013, 4234], m_Asker_operatorHere), 
  j0, j0, (.istore 5, 2, 5, 0, 0, 0, [], j0m), j0, (.iload 5, 2, 5, 0, 0, 0, [], j0m), j0, (.ifCond .ne 12, 3, 0, 102, 0, 0, [], j0m), j0, j0, (.aload_n 0, 1, 0, 0, 0, 0, [], j0m), (.getfield 47, 3, 0, 0, 0, 0, [2160], j0m), 
  j0, j0, (.iconst 1, 1, 0, 0, 0, 0, [], j0m), (.invokevirtual 82, 3, 9, 2, 1, 0, [4220, 3171, 3172, 1011, 3173], m_Tokens_fail), j0, j0, (.ireturn, 1, 0, 0, 1, 0, [], j0m), (.aload_n 0, 1, 0, 0, 0, 0, [], j0m), 
  (.getfield 47, 3, 0, 0, 0, 0, [2160], j0m), j0, j0, (.invokevirtual 102, 3, 9, 1, 1, 0, [5005, 3082, 3083, 1011, 3084], m_Tokens_advance), j0, j0, (.iconst 0, 1, 0, 0, 0, 0, [], j0m), (.istore 6, 2, 6, 0, 0, 0, [], j0m), 
  j0, (.iload 5, 2, 5, 0, 0, 0, [], j0m), j0, (.iconst 1, 1, 0, 0, 0, 0, [], j0m), (.if_icmp .eq 15, 3, 0, 130, 0, 0, [], j0m), j0, j0, (.iload 5, 2, 5, 0, 0, 0, [], j0m), j0, (.iconst 2, 1, 0, 0, 0, 0, [], j0m), 
  (.if_icmp .eq 9, 3, 0, 130, 0, 0, [], j0m), j0, j0, (.iload 5, 2, 5, 0, 0, 0, [], j0m), j0, (.iconst 3, 1, 0, 0, 0, 0, [], j0m), (.if_icmp .ne 28, 3, 0, 155, 0, 0, [], j0m), j0, j0, (.aload_n 0, 1, 0, 0, 0, 0, [], j0m), 
  (.invokevirtual 105, 3, 0, 1, 1, 0, [5046, 5048, 32, 1013, 5049], m_Asker_isAway), j0, j0, (.ifCond .ne 5, 3, 0, 139, 0, 0, [], j0m), j0, j0, (.iconst 0, 1, 0, 0, 0, 0, [], j0m), (.ireturn, 1, 0, 0, 1, 0, [], j0m), 
  (.aload_n 0, 1, 0, 0, 0, 0, [], j0m), (.getfield 47, 3, 0, 0, 0, 0, [2160], j0m), j0, j0, (.getfield 109, 3, 9, 5, 0, 5, [2103], j0m), j0, j0, (.istore 6, 2, 6, 0, 0, 0, [], j0m), j0, (.aload_n 0, 1, 0, 0, 0, 0, [], j0m), 
  (.getfield 47, 3, 0, 0, 0, 0, [2160], j0m), j0, j0, (.invokevirtual 102, 3, 9, 1, 1, 0, [5005, 3082, 3083, 1011, 3084], m_Tokens_advance), j0, j0, (.aload_n 0, 1, 0, 0, 0, 0, [], j0m), (.iload_n 1, 1, 1, 0, 0, 0, [], j0m), 
  (.aload_n 3, 1, 3, 0, 0, 0, [], j0m), (.invokevirtual 94, 3, 0, 3, 1, 0, [4221, 4223, 24, 1013, 4224], m_Asker_readUnit), j0, j0, (.ifCond .ne 5, 3, 0, 166, 0, 0, [], j0m), j0, j0, (.iconst 0, 1, 0, 0, 0, 0, [], j0m), 
  (.ireturn, 1, 0, 0, 1, 0, [], j0m), (.aload_n 0, 1, 0, 0, 0, 0, [], j0m), (.iload 5, 2, 5, 0, 0, 0, [], j0m), j0, (.iload 6, 2, 6, 0, 0, 0, [], j0m), j0, (.aload_n 2, 1, 2, 0, 0, 0, [], j0m), (.aload_n 3, 1, 3, 0, 0, 0, [], j0m), 
  (.invokevirtual 112, 3, 0, 5, 1, 0, [5050, 5052, 33, 1013, 5053], m_Asker_work), j0, j0, (.iinc 4 1, 3, 4, 0, 0, 0, [], j0m), j0, j0, (.goto (-126), 3, 0, 53, 0, 0, [], j0m), j0, j0, (.iconst 1, 1, 0, 0, 0, 0, [], j0m), 
  (.ireturn, 1, 0, 0, 1, 0, [], j0m)]
set_option maxRecDepth 20000 in
theorem t_Asker_readAsk : okT m_Asker_readAsk k_Asker_readAsk = true := by decide +kernel
def k_Asker_readUnit : List jO := [
  (.aload_n 0, 1, 0, 0, 0, 0, [], j0m), (.getfield 47, 3, 0, 0, 0, 0, [2160], j0m), j0, j0, (.ldc 132, 2, 3, 0, 1, 0, [], j0m), j0, (.invokevirtual 118, 3, 9, 2, 1, 0, [4226, 3102, 3103, 1011, 3104], m_Tokens_is), 
  j0, j0, (.istore_n 3, 1, 3, 0, 0, 0, [], j0m), (.aload_n 0, 1, 0, 0, 0, 0, [], j0m), (.getfield 47, 3, 0, 0, 0, 0, [2160], j0m), j0, j0, (.getfield 79, 3, 9, 4, 0, 4, [2101], j0m), j0, j0, (.bipush 40, 2, 0, 0, 0, 0, [], j0m), 
  j0, (.if_icmp .ne 7, 3, 0, 26, 0, 0, [], j0m), j0, j0, (.iconst 1, 1, 0, 0, 0, 0, [], j0m), (.goto 4, 3, 0, 27, 0, 0, [], j0m), j0, j0, (.iconst 0, 1, 0, 0, 0, 0, [], j0m), (.istore 4, 2, 4, 0, 0, 0, [], j0m), 
  j0, (.iload_n 3, 1, 3, 0, 0, 0, [], j0m), (.ifCond .ne 36, 3, 0, 66, 0, 0, [], j0m), j0, j0, (.iload 4, 2, 4, 0, 0, 0, [], j0m), j0, (.ifCond .ne 31, 3, 0, 66, 0, 0, [], j0m), j0, j0, (.aload_n 0, 1, 0, 0, 0, 0, [], j0m), 
  (.getfield 47, 3, 0, 0, 0, 0, [2160], j0m), j0, j0, (.getfield 79, 3, 9, 4, 0, 4, [2101], j0m), j0, j0, (.bipush 34, 2, 0, 0, 0, 0, [], j0m), j0, (.if_icmp .eq 19, 3, 0, 66, 0, 0, [], j0m), j0, j0, (.aload_n 0, 1, 0, 0, 0, 0, [], j0m), 
  (.invokevirtual 134, 3, 0, 1, 1, 0, [4227, 4229, 25, 1013, 4230], m_Asker_isFreeWord), j0, j0, (.ifCond .ne 12, 3, 0, 66, 0, 0, [], j0m), j0, j0, (.aload_n 0, 1, 0, 0, 0, 0, [], j0m), (.getfield 47, 3, 0, 0, 0, 0, [2160], j0m), 
  j0, j0, (.iconst 1, 1, 0, 0, 0, 0, [], j0m), (.invokevirtual 82, 3, 9, 2, 1, 0, [4220, 3171, 3172, 1011, 3173], m_Tokens_fail), j0, j0, (.ireturn, 1, 0, 0, 1, 0, [], j0m), (.aload_n 0, 1, 0, 0, 0, 0, [], j0m), 
  (.getfield 18, 3, 0, 5, 0, 5, [2165], j0m), j0, j0, (.bipush 30, 2, 0, 0, 0, 0, [], j0m), j0, (.if_icmp .ge 16, 3, 0, 88, 0, 0, [], j0m), j0, j0, (.iload 4, 2, 4, 0, 0, 0, [], j0m), j0, (.ifCond .eq 20, 3, 0, 97, 0, 0, [], j0m), 
  j0, j0, (.iload_n 1, 1, 1, 0, 0, 0, [], j0m), (.iconst 1, 1, 0, 0, 0, 0, [], j0m), (.iadd, 1, 0, 0, 0, 0, [], j0m), (.bipush 7, 2, 0, 0, 0, 0, [], j0m), j0, (.if_icmp .lt 12, 3, 0, 97, 0, 0, [], j0m), 
  j0, j0, (.aload_n 0, 1, 0, 0, 0, 0, [], j0m), (.getfield 47, 3, 0, 0, 0, 0, [2160], j0m), j0, j0, (.iconst 3, 1, 0, 0, 0, 0, [], j0m), (.invokevirtual 82, 3, 9, 2, 1, 0, [4220, 3171, 3172, 1011, 3173], m_Tokens_fail), 
  j0, j0, (.ireturn, 1, 0, 0, 1, 0, [], j0m), (.aload_n 0, 1, 0, 0, 0, 0, [], j0m), (.dup, 1, 0, 0, 0, 0, [], j0m), (.getfield 18, 3, 0, 5, 0, 5, [2165], j0m), j0, j0, (.iconst 1, 1, 0, 0, 0, 0, [], j0m), 
  (.iadd, 1, 0, 0, 0, 0, [], j0m), (.putfield 18, 3, 0, 5, 0, 5, [2165], j0m), j0, j0, (.iload 4, 2, 4, 0, 0, 0, [], j0m), j0, (.ifCond .eq 10, 3, 0, 119, 0, 0, [], j0m), j0, j0, (.aload_n 0, 1, 0, 0, 0, 0, [], j0m), 
  (.iload_n 1, 1, 1, 0, 0, 0, [], j0m), (.aload_n 2, 1, 2, 0, 0, 0, [], j0m), (.invokevirtual 137, 3, 0, 3, 1, 0, [5001, 5003, 27, 1013, 5004], m_Asker_readNested), j0, j0, (.ireturn, 1, 0, 0, 1, 0, [], j0m), 
  (.aload_n 0, 1, 0, 0, 0, 0, [], j0m), (.getfield 47, 3, 0, 0, 0, 0, [2160], j0m), j0, j0, (.getfield 79, 3, 9, 4, 0, 4, [2101], j0m), j0, j0, (.bipush 34, 2, 0, 0, 0, 0, [], j0m), j0, (.if_icmp .ne 9, 3, 0, 137, 0, 0, [], j0m), 
  j0, j0, (.aload_n 0, 1, 0, 0, 0, 0, [], j0m), (.aload_n 2, 1, 2, 0, 0, 0, [], j0m), (.invokevirtual 140, 3, 0, 2, 1, 0, [5008, 5010, 28, 1013, 5011], m_Asker_readPhrase), j0, j0, (.ireturn, 1, 0, 0, 1, 0, [], j0m), 
  (.iload_n 3, 1, 3, 0, 0, 0, [], j0m), (.ifCond .eq 26, 3, 0, 164, 0, 0, [], j0m), j0, j0, (.aload_n 0, 1, 0, 0, 0, 0, [], j0m), (.getfield 47, 3, 0, 0, 0, 0, [2160], j0m), j0, j0, (.invokevirtual 102, 3, 9, 1, 1, 0, [5005, 3082, 3083, 1011, 3084], m_Tokens_advance), 
  j0, j0, (.aload_n 0, 1, 0, 0, 0, 0, [], j0m), (.invokevirtual 134, 3, 0, 1, 1, 0, [4227, 4229, 25, 1013, 4230], m_Asker_isFreeWord), j0, j0, (.ifCond .ne 12, 3, 0, 164, 0, 0, [], j0m), j0, j0, (.aload_n 0, 1, 0, 0, 0, 0, [], j0m), 
  (.getfield 47, 3, 0, 0, 0, 0, [2160], j0m), j0, j0, (.iconst 1, 1, 0, 0, 0, 0, [], j0m), (.invokevirtual 82, 3, 9, 2, 1, 0, [4220, 3171, 3172, 1011, 3173], m_Tokens_fail), j0, j0, (.ireturn, 1, 0, 0, 1, 0, [], j0m), 
  (.aload_n 0, 1, 0, 0, 0, 0, [], j0m), (.getfield 47, 3, 0, 0, 0, 0, [2160], j0m), j0, j0, (.aload_n 0, 1, 0, 0, 0, 0, [], j0m), (.getfield 12, 3, 0, 3, 0, 3, [2163], j0m), j0, j0, (.invokevirtual 144, 3, 9, 2, 1, 0, [5013, 3185, 3186, 1011, 3187], m_Tokens_readInto), 
  j0, j0, (.aload_n 0, 1, 0, 0, 0, 0, [], j0m), (.getfield 12, 3, 0, 3, 0, 3, [2163], j0m), j0, j0, (.aload_n 0, 1, 0, 0, 0, 0, [], j0m), (.getfield 51, 3, 0, 1, 0, 1, [2161], j0m), j0, j0, (.getfield 148, 3, 7, 1, 0, 1, [1083], j0m), 
  j0, j0, (.invokevirtual 153, 3, 3, 2, 1, 0, [5014, 5015, 5016, 1009, 5017], m_Key_map), j0, j0, (.aload_n 0, 1, 0, 0, 0, 0, [], j0m), (.getfield 47, 3, 0, 0, 0, 0, [2160], j0m), j0, j0, (.invokevirtual 102, 3, 9, 1, 1, 0, [5005, 3082, 3083, 1011, 3084], m_Tokens_advance), 
  j0, j0, (.aload_n 2, 1, 2, 0, 0, 0, [], j0m), (.iconst 0, 1, 0, 0, 0, 0, [], j0m), (.invokestatic 156, 3, 0, 2, 0, 0, [5012, 3212, 1006, 3213], m_Arrays_fill2), j0, j0, (.iload_n 3, 1, 3, 0, 0, 0, [], j0m), 
  (.ifCond .eq 11, 3, 0, 213, 0, 0, [], j0m), j0, j0, (.aload_n 0, 1, 0, 0, 0, 0, [], j0m), (.aload_n 2, 1, 2, 0, 0, 0, [], j0m), (.invokevirtual 162, 3, 0, 2, 1, 0, [5024, 5026, 30, 1013, 5027], m_Asker_markRoot), 
  j0, j0, (.goto 46, 3, 0, 256, 0, 0, [], j0m), j0, j0, (.aload_n 0, 1, 0, 0, 0, 0, [], j0m), (.getfield 51, 3, 0, 1, 0, 1, [2161], j0m), j0, j0, (.aload_n 0, 1, 0, 0, 0, 0, [], j0m), (.getfield 12, 3, 0, 3, 0, 3, [2163], j0m), 
  j0, j0, (.getfield 165, 3, 3, 0, 0, 0, [1194], j0m), j0, j0, (.aload_n 0, 1, 0, 0, 0, 0, [], j0m), (.getfield 12, 3, 0, 3, 0, 3, [2163], j0m), j0, j0, (.getfield 169, 3, 3, 1, 0, 1, [1200], j0m), j0, 
  j0, (.invokevirtual 172, 3, 7, 3, 1, 0, [5045, 4192, 4193, 1003, 4194], m_Rules_isStop), j0, j0, (.ifCond .ne 22, 3, 0, 256, 0, 0, [], j0m), j0, j0, (.aload_n 0, 1, 0, 0, 0, 0, [], j0m), (.aload_n 2, 1, 2, 0, 0, 0, [], j0m), 
  (.aload_n 0, 1, 0, 0, 0, 0, [], j0m), (.getfield 12, 3, 0, 3, 0, 3, [2163], j0m), j0, j0, (.getfield 165, 3, 3, 0, 0, 0, [1194], j0m), j0, j0, (.aload_n 0, 1, 0, 0, 0, 0, [], j0m), (.getfield 12, 3, 0, 3, 0, 3, [2163], j0m), 
  j0, j0, (.getfield 169, 3, 3, 1, 0, 1, [1200], j0m), j0, j0, (.invokevirtual 176, 3, 0, 4, 1, 0, [5032, 5034, 31, 1013, 5035], m_Asker_mark), j0, j0, (.iconst 1, 1, 0, 0, 0, 0, [], j0m), (.ireturn, 1, 0, 0, 1, 0, [], j0m)
  ]
set_option maxRecDepth 20000 in
theorem t_Asker_readUnit : okT m_Asker_readUnit k_Asker_readUnit = true := by decide +kernel
def k_Asker_isFreeWord : List jO := [
  (.aload_n 0, 1, 0, 0, 0, 0, [], j0m), (.getfield 47, 3, 0, 0, 0, 0, [2160], j0m), j0, j0, (.getfield 79, 3, 9, 4, 0, 4, [2101], j0m), j0, j0, (.iconst 1, 1, 0, 0, 0, 0, [], j0m), (.if_icmp .ne 26, 3, 0, 34, 0, 0, [], j0m), 
  j0, j0, (.aload_n 0, 1, 0, 0, 0, 0, [], j0m), (.invokevirtual 98, 3, 0, 1, 1, 0, [4231, 4233, 26, 1013, 4234], m_Asker_operatorHere), j0, j0, (.ifCond .ne 19, 3, 0, 34, 0, 0, [], j0m), j0, j0, (.aload_n 0, 1, 0, 0, 0, 0, [], j0m), 
  (.getfield 47, 3, 0, 0, 0, 0, [2160], j0m), j0, j0, (.ldc 132, 2, 3, 0, 1, 0, [], j0m), j0, (.invokevirtual 118, 3, 9, 2, 1, 0, [4226, 3102, 3103, 1011, 3104], m_Tokens_is), j0, j0, (.ifCond .ne 7, 3, 0, 34, 0, 0, [], j0m), 
  j0, j0, (.iconst 1, 1, 0, 0, 0, 0, [], j0m), (.goto 4, 3, 0, 35, 0, 0, [], j0m), j0, j0, (.iconst 0, 1, 0, 0, 0, 0, [], j0m), (.ireturn, 1, 0, 0, 1, 0, [], j0m)]
set_option maxRecDepth 20000 in
theorem t_Asker_isFreeWord : okT m_Asker_isFreeWord k_Asker_isFreeWord = true := by decide +kernel
def k_Asker_operatorHere : List jO := [
  (.aload_n 0, 1, 0, 0, 0, 0, [], j0m), (.getfield 47, 3, 0, 0, 0, 0, [2160], j0m), j0, j0, (.ldc 116, 2, 6, 0, 1, 0, [], j0m), j0, (.invokevirtual 118, 3, 9, 2, 1, 0, [4226, 3102, 3103, 1011, 3104], m_Tokens_is), 
  j0, j0, (.ifCond .eq 5, 3, 0, 14, 0, 0, [], j0m), j0, j0, (.iconst 1, 1, 0, 0, 0, 0, [], j0m), (.ireturn, 1, 0, 0, 0, 0, [], j0m), (.aload_n 0, 1, 0, 0, 0, 0, [], j0m), (.getfield 47, 3, 0, 0, 0, 0, [2160], j0m), 
  j0, j0, (.ldc 122, 2, 7, 0, 1, 0, [], j0m), j0, (.invokevirtual 118, 3, 9, 2, 1, 0, [4226, 3102, 3103, 1011, 3104], m_Tokens_is), j0, j0, (.ifCond .eq 5, 3, 0, 28, 0, 0, [], j0m), j0, j0, (.iconst 2, 1, 0, 0, 0, 0, [], j0m), 
  (.ireturn, 1, 0, 0, 0, 0, [], j0m), (.aload_n 0, 1, 0, 0, 0, 0, [], j0m), (.getfield 47, 3, 0, 0, 0, 0, [2160], j0m), j0, j0, (.ldc 124, 2, 8, 0, 1, 0, [], j0m), j0, (.invokevirtual 118, 3, 9, 2, 1, 0, [4226, 3102, 3103, 1011, 3104], m_Tokens_is), 
  j0, j0, (.ifCond .eq 5, 3, 0, 42, 0, 0, [], j0m), j0, j0, (.iconst 3, 1, 0, 0, 0, 0, [], j0m), (.ireturn, 1, 0, 0, 0, 0, [], j0m), (.aload_n 0, 1, 0, 0, 0, 0, [], j0m), (.getfield 47, 3, 0, 0, 0, 0, [2160], j0m), 
  j0, j0, (.ldc 126, 2, 9, 0, 1, 0, [], j0m), j0, (.invokevirtual 118, 3, 9, 2, 1, 0, [4226, 3102, 3103, 1011, 3104], m_Tokens_is), j0, j0, (.ifCond .eq 5, 3, 0, 56, 0, 0, [], j0m), j0, j0, (.iconst 4, 1, 0, 0, 0, 0, [], j0m), 
  (.ireturn, 1, 0, 0, 0, 0, [], j0m), (.aload_n 0, 1, 0, 0, 0, 0, [], j0m), (.getfield 47, 3, 0, 0, 0, 0, [2160], j0m), j0, j0, (.ldc 128, 2, 10, 0, 1, 0, [], j0m), j0, (.invokevirtual 118, 3, 9, 2, 1, 0, [4226, 3102, 3103, 1011, 3104], m_Tokens_is), 
  j0, j0, (.ifCond .eq 5, 3, 0, 70, 0, 0, [], j0m), j0, j0, (.iconst 5, 1, 0, 0, 0, 0, [], j0m), (.ireturn, 1, 0, 0, 0, 0, [], j0m), (.aload_n 0, 1, 0, 0, 0, 0, [], j0m), (.getfield 47, 3, 0, 0, 0, 0, [2160], j0m), 
  j0, j0, (.ldc 130, 2, 11, 0, 1, 0, [], j0m), j0, (.invokevirtual 118, 3, 9, 2, 1, 0, [4226, 3102, 3103, 1011, 3104], m_Tokens_is), j0, j0, (.ifCond .eq 8, 3, 0, 87, 0, 0, [], j0m), j0, j0, (.bipush 6, 2, 0, 0, 0, 0, [], j0m), 
  j0, (.goto 4, 3, 0, 88, 0, 0, [], j0m), j0, j0, (.iconst 0, 1, 0, 0, 0, 0, [], j0m), (.ireturn, 1, 0, 0, 0, 0, [], j0m)]
set_option maxRecDepth 20000 in
theorem t_Asker_operatorHere : okT m_Asker_operatorHere k_Asker_operatorHere = true := by decide +kernel
def k_Asker_readNested : List jO := [
  (.aload_n 0, 1, 0, 0, 0, 0, [], j0m), (.getfield 47, 3, 0, 0, 0, 0, [2160], j0m), j0, j0, (.invokevirtual 102, 3, 9, 1, 1, 0, [5005, 3082, 3083, 1011, 3084], m_Tokens_advance), j0, j0, (.aload_n 0, 1, 0, 0, 0, 0, [], j0m), 
  (.iload_n 1, 1, 1, 0, 0, 0, [], j0m), (.iconst 1, 1, 0, 0, 0, 0, [], j0m), (.iadd, 1, 0, 0, 0, 0, [], j0m), (.invokevirtual 75, 3, 0, 2, 1, 0, [4216, 4218, 23, 1013, 4219], m_Asker_readAsk), j0, j0, 
  (.ifCond .ne 5, 3, 0, 19, 0, 0, [], j0m), j0, j0, (.iconst 0, 1, 0, 0, 0, 0, [], j0m), (.ireturn, 1, 0, 0, 1, 0, [], j0m), (.aload_n 0, 1, 0, 0, 0, 0, [], j0m), (.getfield 47, 3, 0, 0, 0, 0, [2160], j0m), 
  j0, j0, (.getfield 79, 3, 9, 4, 0, 4, [2101], j0m), j0, j0, (.bipush 41, 2, 0, 0, 0, 0, [], j0m), j0, (.if_icmp .eq 12, 3, 0, 40, 0, 0, [], j0m), j0, j0, (.aload_n 0, 1, 0, 0, 0, 0, [], j0m), (.getfield 47, 3, 0, 0, 0, 0, [2160], j0m), 
  j0, j0, (.iconst 1, 1, 0, 0, 0, 0, [], j0m), (.invokevirtual 82, 3, 9, 2, 1, 0, [4220, 3171, 3172, 1011, 3173], m_Tokens_fail), j0, j0, (.ireturn, 1, 0, 0, 1, 0, [], j0m), (.aload_n 0, 1, 0, 0, 0, 0, [], j0m), 
  (.getfield 47, 3, 0, 0, 0, 0, [2160], j0m), j0, j0, (.invokevirtual 102, 3, 9, 1, 1, 0, [5005, 3082, 3083, 1011, 3084], m_Tokens_advance), j0, j0, (.iload_n 1, 1, 1, 0, 0, 0, [], j0m), (.ifCond .lt 35, 3, 0, 83, 0, 0, [], j0m), 
  j0, j0, (.iload_n 1, 1, 1, 0, 0, 0, [], j0m), (.iconst 1, 1, 0, 0, 0, 0, [], j0m), (.iadd, 1, 0, 0, 0, 0, [], j0m), (.bipush 7, 2, 0, 0, 0, 0, [], j0m), j0, (.if_icmp .ge 27, 3, 0, 83, 0, 0, [], j0m), 
  j0, j0, (.aload_n 0, 1, 0, 0, 0, 0, [], j0m), (.getfield 24, 3, 0, 6, 0, 6, [2166], j0m), j0, j0, (.iconst 2, 1, 0, 0, 0, 0, [], j0m), (.iload_n 1, 1, 1, 0, 0, 0, [], j0m), (.imul, 1, 0, 0, 0, 0, [], j0m), 
  (.iconst 2, 1, 0, 0, 0, 0, [], j0m), (.iadd, 1, 0, 0, 0, 0, [], j0m), (.aaload, 1, 0, 0, 1, 0, [], j0m), (.iconst 0, 1, 0, 0, 0, 0, [], j0m), (.aload_n 2, 1, 2, 0, 0, 0, [], j0m), (.iconst 0, 1, 0, 0, 0, 0, [], j0m), 
  (.sipush 300, 3, 0, 0, 0, 0, [], j0m), j0, j0, (.aload_n 2, 1, 2, 0, 0, 0, [], j0m), (.arraylength, 1, 0, 0, 0, 0, [], j0m), (.invokestatic 180, 3, 0, 2, 1, 0, [5006, 3078, 1005, 3079], j0m), j0, j0, 
  (.invokestatic 186, 3, 2, 5, 3, 0, [5007, 4007, 4006, 1020], j0m), j0, j0, (.iconst 1, 1, 0, 0, 0, 0, [], j0m), (.ireturn, 1, 0, 0, 1, 0, [], j0m)]
set_option maxRecDepth 20000 in
theorem t_Asker_readNested : okT m_Asker_readNested k_Asker_readNested = true := by decide +kernel
def k_Asker_readPhrase : List jO := [
  (.aload_n 1, 1, 1, 0, 0, 0, [], j0m), (.iconst 1, 1, 0, 0, 0, 0, [], j0m), (.invokestatic 156, 3, 0, 2, 0, 0, [5012, 3212, 1006, 3213], m_Arrays_fill2), j0, j0, (.aload_n 0, 1, 0, 0, 0, 0, [], j0m), 
  (.getfield 47, 3, 0, 0, 0, 0, [2160], j0m), j0, j0, (.invokevirtual 102, 3, 9, 1, 1, 0, [5005, 3082, 3083, 1011, 3084], m_Tokens_advance), j0, j0, (.aload_n 0, 1, 0, 0, 0, 0, [], j0m), (.getfield 47, 3, 0, 0, 0, 0, [2160], j0m), 
  j0, j0, (.getfield 79, 3, 9, 4, 0, 4, [2101], j0m), j0, j0, (.iconst 1, 1, 0, 0, 0, 0, [], j0m), (.if_icmp .eq 12, 3, 0, 32, 0, 0, [], j0m), j0, j0, (.aload_n 0, 1, 0, 0, 0, 0, [], j0m), (.getfield 47, 3, 0, 0, 0, 0, [2160], j0m), 
  j0, j0, (.iconst 1, 1, 0, 0, 0, 0, [], j0m), (.invokevirtual 82, 3, 9, 2, 1, 0, [4220, 3171, 3172, 1011, 3173], m_Tokens_fail), j0, j0, (.ireturn, 1, 0, 0, 1, 0, [], j0m), (.iconst 0, 1, 0, 0, 0, 0, [], j0m), 
  (.istore_n 2, 1, 2, 0, 0, 0, [], j0m), (.iload_n 2, 1, 2, 0, 0, 0, [], j0m), (.sipush 400, 3, 0, 0, 0, 0, [], j0m), j0, j0, (.if_icmp .ge 58, 3, 0, 96, 0, 0, [], j0m), j0, j0, (.aload_n 0, 1, 0, 0, 0, 0, [], j0m), 
  (.getfield 47, 3, 0, 0, 0, 0, [2160], j0m), j0, j0, (.getfield 79, 3, 9, 4, 0, 4, [2101], j0m), j0, j0, (.iconst 1, 1, 0, 0, 0, 0, [], j0m), (.if_icmp .ne 47, 3, 0, 96, 0, 0, [], j0m), j0, j0, (.aload_n 0, 1, 0, 0, 0, 0, [], j0m), 
  (.getfield 47, 3, 0, 0, 0, 0, [2160], j0m), j0, j0, (.aload_n 0, 1, 0, 0, 0, 0, [], j0m), (.getfield 12, 3, 0, 3, 0, 3, [2163], j0m), j0, j0, (.invokevirtual 144, 3, 9, 2, 1, 0, [5013, 3185, 3186, 1011, 3187], m_Tokens_readInto), 
  j0, j0, (.aload_n 0, 1, 0, 0, 0, 0, [], j0m), (.getfield 12, 3, 0, 3, 0, 3, [2163], j0m), j0, j0, (.aload_n 0, 1, 0, 0, 0, 0, [], j0m), (.getfield 51, 3, 0, 1, 0, 1, [2161], j0m), j0, j0, (.getfield 148, 3, 7, 1, 0, 1, [1083], j0m), 
  j0, j0, (.invokevirtual 153, 3, 3, 2, 1, 0, [5014, 5015, 5016, 1009, 5017], m_Key_map), j0, j0, (.aload_n 0, 1, 0, 0, 0, 0, [], j0m), (.aload_n 1, 1, 1, 0, 0, 0, [], j0m), (.iload_n 2, 1, 2, 0, 0, 0, [], j0m), 
  (.invokevirtual 192, 3, 0, 3, 1, 0, [5019, 5021, 29, 1013, 5022], m_Asker_keepFollowed), j0, j0, (.aload_n 0, 1, 0, 0, 0, 0, [], j0m), (.getfield 47, 3, 0, 0, 0, 0, [2160], j0m), j0, j0, (.invokevirtual 102, 3, 9, 1, 1, 0, [5005, 3082, 3083, 1011, 3084], m_Tokens_advance), 
  j0, j0, (.iinc 2 1, 3, 2, 0, 0, 0, [], j0m), j0, j0, (.goto (-59), 3, 0, 34, 0, 0, [], j0m), j0, j0, (.aload_n 0, 1, 0, 0, 0, 0, [], j0m), (.getfield 47, 3, 0, 0, 0, 0, [2160], j0m), j0, j0, (.getfield 79, 3, 9, 4, 0, 4, [2101], j0m), 
  j0, j0, (.bipush 34, 2, 0, 0, 0, 0, [], j0m), j0, (.if_icmp .eq 12, 3, 0, 117, 0, 0, [], j0m), j0, j0, (.aload_n 0, 1, 0, 0, 0, 0, [], j0m), (.getfield 47, 3, 0, 0, 0, 0, [2160], j0m), j0, j0, (.iconst 1, 1, 0, 0, 0, 0, [], j0m), 
  (.invokevirtual 82, 3, 9, 2, 1, 0, [4220, 3171, 3172, 1011, 3173], m_Tokens_fail), j0, j0, (.ireturn, 1, 0, 0, 1, 0, [], j0m), (.aload_n 0, 1, 0, 0, 0, 0, [], j0m), (.getfield 47, 3, 0, 0, 0, 0, [2160], j0m), 
  j0, j0, (.invokevirtual 102, 3, 9, 1, 1, 0, [5005, 3082, 3083, 1011, 3084], m_Tokens_advance), j0, j0, (.iconst 1, 1, 0, 0, 0, 0, [], j0m), (.ireturn, 1, 0, 0, 1, 0, [], j0m)]
set_option maxRecDepth 20000 in
theorem t_Asker_readPhrase : okT m_Asker_readPhrase k_Asker_readPhrase = true := by decide +kernel
def k_Key_map : List jO := [
  (.aload_n 0, 1, 0, 0, 0, 0, [], j0m), (.aload_n 0, 1, 0, 0, 0, 0, [], j0m), (.getfield 9, 3, 3, 0, 0, 0, [1191], j0m), j0, j0, (.aload_n 1, 1, 1, 0, 0, 0, [], j0m), (.invokestatic 22, 3, 0, 2, 0, 0, [5018, 3237, 1009, 3238], m_Key_mapped), 
  j0, j0, (.putfield 9, 3, 3, 0, 0, 0, [1191], j0m), j0, j0, (.aload_n 0, 1, 0, 0, 0, 0, [], j0m), (.aload_n 0, 1, 0, 0, 0, 0, [], j0m), (.getfield 15, 3, 3, 1, 0, 1, [1197], j0m), j0, j0, (.aload_n 1, 1, 1, 0, 0, 0, [], j0m), 
  (.invokestatic 22, 3, 0, 2, 0, 0, [5018, 3237, 1009, 3238], m_Key_mapped), j0, j0, (.putfield 15, 3, 3, 1, 0, 1, [1197], j0m), j0, j0, (.return_, 1, 0, 0, 0, 0, [], j0m)]
set_option maxRecDepth 20000 in
theorem t_Key_map : okT m_Key_map k_Key_map = true := by decide +kernel
def k_Asker_keepFollowed : List jO := [
  (.iconst 0, 1, 0, 0, 0, 0, [], j0m), (.istore_n 3, 1, 3, 0, 0, 0, [], j0m), (.iload_n 3, 1, 3, 0, 0, 0, [], j0m), (.sipush 300, 3, 0, 0, 0, 0, [], j0m), j0, j0, (.if_icmp .ge 74, 3, 0, 80, 0, 0, [], j0m), 
  j0, j0, (.iload_n 3, 1, 3, 0, 0, 0, [], j0m), (.aload_n 1, 1, 1, 0, 0, 0, [], j0m), (.arraylength, 1, 0, 0, 0, 0, [], j0m), (.if_icmp .ge 68, 3, 0, 80, 0, 0, [], j0m), j0, j0, (.iload_n 3, 1, 3, 0, 0, 0, [], j0m), 
  (.iload_n 2, 1, 2, 0, 0, 0, [], j0m), (.iadd, 1, 0, 0, 0, 0, [], j0m), (.aload_n 0, 1, 0, 0, 0, 0, [], j0m), (.getfield 65, 3, 0, 4, 0, 4, [2164], j0m), j0, j0, (.getfield 89, 3, 10, 0, 0, 0, [1215], j0m), 
  j0, j0, (.if_icmp .ge 37, 3, 0, 62, 0, 0, [], j0m), j0, j0, (.aload_n 0, 1, 0, 0, 0, 0, [], j0m), (.getfield 65, 3, 0, 4, 0, 4, [2164], j0m), j0, j0, (.getfield 196, 3, 10, 1, 0, 1, [1220], j0m), j0, 
  j0, (.iload_n 3, 1, 3, 0, 0, 0, [], j0m), (.iload_n 2, 1, 2, 0, 0, 0, [], j0m), (.iadd, 1, 0, 0, 0, 0, [], j0m), (.aload_n 0, 1, 0, 0, 0, 0, [], j0m), (.getfield 12, 3, 0, 3, 0, 3, [2163], j0m), j0, 
  j0, (.getfield 165, 3, 3, 0, 0, 0, [1194], j0m), j0, j0, (.aload_n 0, 1, 0, 0, 0, 0, [], j0m), (.getfield 12, 3, 0, 3, 0, 3, [2163], j0m), j0, j0, (.getfield 169, 3, 3, 1, 0, 1, [1200], j0m), j0, j0, 
  (.invokevirtual 200, 3, 4, 4, 1, 0, [5023, 4196, 4197, 1004, 4198], m_KeyRow_holds), j0, j0, (.ifCond .eq 7, 3, 0, 62, 0, 0, [], j0m), j0, j0, (.iconst 1, 1, 0, 0, 0, 0, [], j0m), (.goto 4, 3, 0, 63, 0, 0, [], j0m), 
  j0, j0, (.iconst 0, 1, 0, 0, 0, 0, [], j0m), (.istore 4, 2, 4, 0, 0, 0, [], j0m), j0, (.iload 4, 2, 4, 0, 0, 0, [], j0m), j0, (.ifCond .ne 7, 3, 0, 74, 0, 0, [], j0m), j0, j0, (.aload_n 1, 1, 1, 0, 0, 0, [], j0m), 
  (.iload_n 3, 1, 3, 0, 0, 0, [], j0m), (.iconst 0, 1, 0, 0, 0, 0, [], j0m), (.bastore, 1, 0, 0, 2, 0, [], j0m), (.iinc 3 1, 3, 3, 0, 0, 0, [], j0m), j0, j0, (.goto (-75), 3, 0, 2, 0, 0, [], j0m), j0, 
  j0, (.return_, 1, 0, 0, 0, 0, [], j0m)]
set_option maxRecDepth 20000 in
theorem t_Asker_keepFollowed : okT m_Asker_keepFollowed k_Asker_keepFollowed = true := by decide +kernel
def k_Asker_markRoot : List jO := [
  (.aload_n 0, 1, 0, 0, 0, 0, [], j0m), (.getfield 51, 3, 0, 1, 0, 1, [2161], j0m), j0, j0, (.aload_n 0, 1, 0, 0, 0, 0, [], j0m), (.getfield 12, 3, 0, 3, 0, 3, [2163], j0m), j0, j0, (.getfield 165, 3, 3, 0, 0, 0, [1194], j0m), 
  j0, j0, (.aload_n 0, 1, 0, 0, 0, 0, [], j0m), (.getfield 12, 3, 0, 3, 0, 3, [2163], j0m), j0, j0, (.getfield 169, 3, 3, 1, 0, 1, [1200], j0m), j0, j0, (.invokevirtual 223, 3, 7, 3, 1, 0, [5028, 5029, 5030, 1003, 5031], m_Rules_rootNamed), 
  j0, j0, (.istore_n 2, 1, 2, 0, 0, 0, [], j0m), (.iload_n 2, 1, 2, 0, 0, 0, [], j0m), (.ifCond .lt 9, 3, 0, 32, 0, 0, [], j0m), j0, j0, (.iload_n 2, 1, 2, 0, 0, 0, [], j0m), (.bipush 20, 2, 0, 0, 0, 0, [], j0m), 
  j0, (.if_icmp .lt 4, 3, 0, 33, 0, 0, [], j0m), j0, j0, (.return_, 1, 0, 0, 0, 0, [], j0m), (.aload_n 0, 1, 0, 0, 0, 0, [], j0m), (.aload_n 1, 1, 1, 0, 0, 0, [], j0m), (.aload_n 0, 1, 0, 0, 0, 0, [], j0m), 
  (.getfield 12, 3, 0, 3, 0, 3, [2163], j0m), j0, j0, (.getfield 165, 3, 3, 0, 0, 0, [1194], j0m), j0, j0, (.aload_n 0, 1, 0, 0, 0, 0, [], j0m), (.getfield 12, 3, 0, 3, 0, 3, [2163], j0m), j0, j0, (.getfield 169, 3, 3, 1, 0, 1, [1200], j0m), 
  j0, j0, (.invokevirtual 176, 3, 0, 4, 1, 0, [5032, 5034, 31, 1013, 5035], m_Asker_mark), j0, j0, (.iconst 0, 1, 0, 0, 0, 0, [], j0m), (.istore_n 3, 1, 3, 0, 0, 0, [], j0m), (.iload_n 3, 1, 3, 0, 0, 0, [], j0m), 
  (.aload_n 0, 1, 0, 0, 0, 0, [], j0m), (.getfield 51, 3, 0, 1, 0, 1, [2161], j0m), j0, j0, (.getfield 227, 3, 7, 9, 0, 9, [1106], j0m), j0, j0, (.iload_n 2, 1, 2, 0, 0, 0, [], j0m), (.iaload, 1, 0, 0, 0, 0, [], j0m), 
  (.if_icmp .ge 52, 3, 0, 116, 0, 0, [], j0m), j0, j0, (.iload_n 3, 1, 3, 0, 0, 0, [], j0m), (.iconst 4, 1, 0, 0, 0, 0, [], j0m), (.if_icmp .ge 47, 3, 0, 116, 0, 0, [], j0m), j0, j0, (.iload_n 2, 1, 2, 0, 0, 0, [], j0m), 
  (.iconst 4, 1, 0, 0, 0, 0, [], j0m), (.imul, 1, 0, 0, 0, 0, [], j0m), (.iload_n 3, 1, 3, 0, 0, 0, [], j0m), (.iadd, 1, 0, 0, 0, 0, [], j0m), (.istore 4, 2, 4, 0, 0, 0, [], j0m), j0, (.aload_n 0, 1, 0, 0, 0, 0, [], j0m), 
  (.aload_n 1, 1, 1, 0, 0, 0, [], j0m), (.aload_n 0, 1, 0, 0, 0, 0, [], j0m), (.getfield 51, 3, 0, 1, 0, 1, [2161], j0m), j0, j0, (.getfield 230, 3, 7, 8, 0, 8, [1103], j0m), j0, j0, (.getfield 233, 3, 4, 0, 0, 0, [1055], j0m), 
  j0, j0, (.iload 4, 2, 4, 0, 0, 0, [], j0m), j0, (.laload, 1, 0, 0, 0, 0, [], j0m), (.aload_n 0, 1, 0, 0, 0, 0, [], j0m), (.getfield 51, 3, 0, 1, 0, 1, [2161], j0m), j0, j0, (.getfield 230, 3, 7, 8, 0, 8, [1103], j0m), 
  j0, j0, (.getfield 236, 3, 4, 1, 0, 1, [1061], j0m), j0, j0, (.iload 4, 2, 4, 0, 0, 0, [], j0m), j0, (.laload, 1, 0, 0, 0, 0, [], j0m), (.invokevirtual 176, 3, 0, 4, 1, 0, [5032, 5034, 31, 1013, 5035], m_Asker_mark), 
  j0, j0, (.iinc 3 1, 3, 3, 0, 0, 0, [], j0m), j0, j0, (.goto (-59), 3, 0, 54, 0, 0, [], j0m), j0, j0, (.return_, 1, 0, 0, 0, 0, [], j0m)]
set_option maxRecDepth 20000 in
theorem t_Asker_markRoot : okT m_Asker_markRoot k_Asker_markRoot = true := by decide +kernel
def k_Rules_rootNamed : List jO := [
  (.iconst 0, 1, 0, 0, 0, 0, [], j0m), (.istore 5, 2, 5, 0, 0, 0, [], j0m), j0, (.iload 5, 2, 5, 0, 0, 0, [], j0m), j0, (.aload_n 0, 1, 0, 0, 0, 0, [], j0m), (.getfield 40, 3, 7, 7, 0, 7, [1098], j0m), 
  j0, j0, (.if_icmp .ge 26, 3, 0, 35, 0, 0, [], j0m), j0, j0, (.aload_n 0, 1, 0, 0, 0, 0, [], j0m), (.getfield 37, 3, 7, 6, 0, 6, [1096], j0m), j0, j0, (.iload 5, 2, 5, 0, 0, 0, [], j0m), j0, (.lload_n 1, 1, 1, 0, 0, 0, [], j0m), 
  (.lload_n 3, 1, 3, 0, 0, 0, [], j0m), (.invokevirtual 80, 3, 4, 4, 1, 0, [4195, 4196, 4197, 1004, 4198], m_KeyRow_holds), j0, j0, (.ifCond .eq 6, 3, 0, 29, 0, 0, [], j0m), j0, j0, (.iload 5, 2, 5, 0, 0, 0, [], j0m), 
  j0, (.ireturn, 1, 0, 0, 0, 0, [], j0m), (.iinc 5 1, 3, 5, 0, 0, 0, [], j0m), j0, j0, (.goto (-29), 3, 0, 3, 0, 0, [], j0m), j0, j0, (.iconst (-1), 1, 0, 0, 0, 0, [], j0m), (.ireturn, 1, 0, 0, 0, 0, [], j0m)
  ]
set_option maxRecDepth 20000 in
theorem t_Rules_rootNamed : okT m_Rules_rootNamed k_Rules_rootNamed = true := by decide +kernel
def k_Asker_mark : List jO := [
  (.aload_n 0, 1, 0, 0, 0, 0, [], j0m), (.getfield 55, 3, 0, 2, 0, 2, [2162], j0m), j0, j0, (.getfield 206, 3, 1, 2, 0, 2, [2039], j0m), j0, j0, (.aload_n 0, 1, 0, 0, 0, 0, [], j0m), (.getfield 55, 3, 0, 2, 0, 2, [2162], j0m), 
  j0, j0, (.getfield 209, 3, 1, 1, 0, 1, [2036], j0m), j0, j0, (.lload_n 2, 1, 2, 0, 0, 0, [], j0m), (.lload 4, 2, 4, 0, 0, 0, [], j0m), j0, (.invokevirtual 212, 3, 4, 4, 1, 0, [5036, 4141, 4142, 1004, 4143], m_KeyRow_find), 
  j0, j0, (.istore 6, 2, 6, 0, 0, 0, [], j0m), j0, (.iconst 0, 1, 0, 0, 0, 0, [], j0m), (.istore 7, 2, 7, 0, 0, 0, [], j0m), j0, (.iload 7, 2, 7, 0, 0, 0, [], j0m), j0, (.aload_n 0, 1, 0, 0, 0, 0, [], j0m), 
  (.getfield 65, 3, 0, 4, 0, 4, [2164], j0m), j0, j0, (.iload 6, 2, 6, 0, 0, 0, [], j0m), j0, (.invokevirtual 216, 3, 10, 2, 1, 0, [5037, 5038, 5039, 1008, 5040], m_Words_oftenOf), j0, j0, (.if_icmp .ge 39, 3, 0, 75, 0, 0, [], j0m), 
  j0, j0, (.aload_n 0, 1, 0, 0, 0, 0, [], j0m), (.getfield 65, 3, 0, 4, 0, 4, [2164], j0m), j0, j0, (.iload 6, 2, 6, 0, 0, 0, [], j0m), j0, (.iload 7, 2, 7, 0, 0, 0, [], j0m), j0, (.invokevirtual 220, 3, 10, 3, 1, 0, [5041, 5042, 5043, 1008, 5044], m_Words_placeOf), 
  j0, j0, (.istore 8, 2, 8, 0, 0, 0, [], j0m), j0, (.iload 8, 2, 8, 0, 0, 0, [], j0m), j0, (.ifCond .lt 15, 3, 0, 69, 0, 0, [], j0m), j0, j0, (.iload 8, 2, 8, 0, 0, 0, [], j0m), j0, (.aload_n 1, 1, 1, 0, 0, 0, [], j0m), 
  (.arraylength, 1, 0, 0, 0, 0, [], j0m), (.if_icmp .ge 8, 3, 0, 69, 0, 0, [], j0m), j0, j0, (.aload_n 1, 1, 1, 0, 0, 0, [], j0m), (.iload 8, 2, 8, 0, 0, 0, [], j0m), j0, (.iconst 1, 1, 0, 0, 0, 0, [], j0m), 
  (.bastore, 1, 0, 0, 2, 0, [], j0m), (.iinc 7 1, 3, 7, 0, 0, 0, [], j0m), j0, j0, (.goto (-47), 3, 0, 25, 0, 0, [], j0m), j0, j0, (.return_, 1, 0, 0, 0, 0, [], j0m)]
set_option maxRecDepth 20000 in
theorem t_Asker_mark : okT m_Asker_mark k_Asker_mark = true := by decide +kernel
def k_Words_oftenOf : List jO := [
  (.iload_n 1, 1, 1, 0, 0, 0, [], j0m), (.ifCond .lt 19, 3, 0, 20, 0, 0, [], j0m), j0, j0, (.iload_n 1, 1, 1, 0, 0, 0, [], j0m), (.sipush 600, 3, 0, 0, 0, 0, [], j0m), j0, j0, (.if_icmp .ge 12, 3, 0, 20, 0, 0, [], j0m), 
  j0, j0, (.aload_n 0, 1, 0, 0, 0, 0, [], j0m), (.getfield 37, 3, 10, 6, 0, 6, [1233], j0m), j0, j0, (.iload_n 1, 1, 1, 0, 0, 0, [], j0m), (.iaload, 1, 0, 0, 0, 0, [], j0m), (.goto 4, 3, 0, 21, 0, 0, [], j0m), 
  j0, j0, (.iconst 0, 1, 0, 0, 0, 0, [], j0m), (.ireturn, 1, 0, 0, 0, 0, [], j0m)]
set_option maxRecDepth 20000 in
theorem t_Words_oftenOf : okT m_Words_oftenOf k_Words_oftenOf = true := by decide +kernel
def k_Words_placeOf : List jO := [
  (.iload_n 1, 1, 1, 0, 0, 0, [], j0m), (.ifCond .lt 24, 3, 0, 25, 0, 0, [], j0m), j0, j0, (.iload_n 1, 1, 1, 0, 0, 0, [], j0m), (.sipush 600, 3, 0, 0, 0, 0, [], j0m), j0, j0, (.if_icmp .ge 17, 3, 0, 25, 0, 0, [], j0m), 
  j0, j0, (.iload_n 2, 1, 2, 0, 0, 0, [], j0m), (.ifCond .lt 13, 3, 0, 25, 0, 0, [], j0m), j0, j0, (.iload_n 2, 1, 2, 0, 0, 0, [], j0m), (.aload_n 0, 1, 0, 0, 0, 0, [], j0m), (.getfield 37, 3, 10, 6, 0, 6, [1233], j0m), 
  j0, j0, (.iload_n 1, 1, 1, 0, 0, 0, [], j0m), (.iaload, 1, 0, 0, 0, 0, [], j0m), (.if_icmp .lt 5, 3, 0, 27, 0, 0, [], j0m), j0, j0, (.iconst (-1), 1, 0, 0, 0, 0, [], j0m), (.ireturn, 1, 0, 0, 0, 0, [], j0m), 
  (.aload_n 0, 1, 0, 0, 0, 0, [], j0m), (.getfield 40, 3, 10, 7, 0, 7, [1235], j0m), j0, j0, (.aload_n 0, 1, 0, 0, 0, 0, [], j0m), (.getfield 43, 3, 10, 8, 0, 8, [1236], j0m), j0, j0, (.iload_n 1, 1, 1, 0, 0, 0, [], j0m), 
  (.iaload, 1, 0, 0, 0, 0, [], j0m), (.iload_n 2, 1, 2, 0, 0, 0, [], j0m), (.iadd, 1, 0, 0, 0, 0, [], j0m), (.iaload, 1, 0, 0, 0, 0, [], j0m), (.ireturn, 1, 0, 0, 0, 0, [], j0m)]
set_option maxRecDepth 20000 in
theorem t_Words_placeOf : okT m_Words_placeOf k_Words_placeOf = true := by decide +kernel
def k_Asker_isAway : List jO := [
  (.aload_n 0, 1, 0, 0, 0, 0, [], j0m), (.getfield 47, 3, 0, 0, 0, 0, [2160], j0m), j0, j0, (.getfield 79, 3, 9, 4, 0, 4, [2101], j0m), j0, j0, (.iconst 2, 1, 0, 0, 0, 0, [], j0m), (.if_icmp .eq 12, 3, 0, 20, 0, 0, [], j0m), 
  j0, j0, (.aload_n 0, 1, 0, 0, 0, 0, [], j0m), (.getfield 47, 3, 0, 0, 0, 0, [2160], j0m), j0, j0, (.iconst 1, 1, 0, 0, 0, 0, [], j0m), (.invokevirtual 82, 3, 9, 2, 1, 0, [4220, 3171, 3172, 1011, 3173], m_Tokens_fail), 
  j0, j0, (.ireturn, 1, 0, 0, 1, 0, [], j0m), (.aload_n 0, 1, 0, 0, 0, 0, [], j0m), (.getfield 47, 3, 0, 0, 0, 0, [2160], j0m), j0, j0, (.getfield 109, 3, 9, 5, 0, 5, [2103], j0m), j0, j0, (.iconst 1, 1, 0, 0, 0, 0, [], j0m), 
  (.if_icmp .lt 15, 3, 0, 43, 0, 0, [], j0m), j0, j0, (.aload_n 0, 1, 0, 0, 0, 0, [], j0m), (.getfield 47, 3, 0, 0, 0, 0, [2160], j0m), j0, j0, (.getfield 109, 3, 9, 5, 0, 5, [2103], j0m), j0, j0, (.bipush 50, 2, 0, 0, 0, 0, [], j0m), 
  j0, (.if_icmp .le 14, 3, 0, 54, 0, 0, [], j0m), j0, j0, (.aload_n 0, 1, 0, 0, 0, 0, [], j0m), (.getfield 47, 3, 0, 0, 0, 0, [2160], j0m), j0, j0, (.iconst 2, 1, 0, 0, 0, 0, [], j0m), (.invokevirtual 82, 3, 9, 2, 1, 0, [4220, 3171, 3172, 1011, 3173], m_Tokens_fail), 
  j0, j0, (.ifCond .eq 7, 3, 0, 58, 0, 0, [], j0m), j0, j0, (.iconst 1, 1, 0, 0, 0, 0, [], j0m), (.goto 4, 3, 0, 59, 0, 0, [], j0m), j0, j0, (.iconst 0, 1, 0, 0, 0, 0, [], j0m), (.ireturn, 1, 0, 0, 1, 0, [], j0m)
  ]
set_option maxRecDepth 20000 in
theorem t_Asker_isAway : okT m_Asker_isAway k_Asker_isAway = true := by decide +kernel
def k_Asker_work : List jO := [
  (.aload_n 0, 1, 0, 0, 0, 0, [], j0m), (.getfield 65, 3, 0, 4, 0, 4, [2164], j0m), j0, j0, (.getfield 89, 3, 10, 0, 0, 0, [1215], j0m), j0, j0, (.aload_n 3, 1, 3, 0, 0, 0, [], j0m), (.arraylength, 1, 0, 0, 0, 0, [], j0m), 
  (.aload 4, 2, 4, 0, 0, 0, [], j0m), j0, (.arraylength, 1, 0, 0, 0, 0, [], j0m), (.invokestatic 180, 3, 0, 2, 1, 0, [5006, 3078, 1005, 3079], j0m), j0, j0, (.invokestatic 180, 3, 0, 2, 1, 0, [5006, 3078, 1005, 3079], j0m), 
  j0, j0, (.istore 5, 2, 5, 0, 0, 0, [], j0m), j0, (.iload_n 1, 1, 1, 0, 0, 0, [], j0m), (.bipush 6, 2, 0, 0, 0, 0, [], j0m), j0, (.if_icmp .ne 33, 3, 0, 56, 0, 0, [], j0m), j0, j0, (.iconst 0, 1, 0, 0, 0, 0, [], j0m), 
  (.istore 6, 2, 6, 0, 0, 0, [], j0m), j0, (.iload 6, 2, 6, 0, 0, 0, [], j0m), j0, (.iload 5, 2, 5, 0, 0, 0, [], j0m), j0, (.if_icmp .ge 22, 3, 0, 55, 0, 0, [], j0m), j0, j0, (.aload_n 3, 1, 3, 0, 0, 0, [], j0m), 
  (.iload 6, 2, 6, 0, 0, 0, [], j0m), j0, (.dup2, 1, 0, 0, 0, 0, [], j0m), (.baload, 1, 0, 0, 2, 0, [], j0m), (.aload 4, 2, 4, 0, 0, 0, [], j0m), j0, (.iload 6, 2, 6, 0, 0, 0, [], j0m), j0, (.baload, 1, 0, 0, 2, 0, [], j0m), 
  (.ior, 1, 0, 0, 0, 0, [], j0m), (.i2b, 1, 0, 0, 0, 0, [], j0m), (.bastore, 1, 0, 0, 2, 0, [], j0m), (.iinc 6 1, 3, 6, 0, 0, 0, [], j0m), j0, j0, (.goto (-23), 3, 0, 29, 0, 0, [], j0m), j0, j0, (.return_, 1, 0, 0, 0, 0, [], j0m), 
  (.aload_n 0, 1, 0, 0, 0, 0, [], j0m), (.getfield 27, 3, 0, 7, 0, 7, [2167], j0m), j0, j0, (.iconst 0, 1, 0, 0, 0, 0, [], j0m), (.invokestatic 156, 3, 0, 2, 0, 0, [5012, 3212, 1006, 3213], m_Arrays_fill2), 
  j0, j0, (.iload_n 1, 1, 1, 0, 0, 0, [], j0m), (.iconst 4, 1, 0, 0, 0, 0, [], j0m), (.if_icmp .eq 8, 3, 0, 74, 0, 0, [], j0m), j0, j0, (.iload_n 1, 1, 1, 0, 0, 0, [], j0m), (.iconst 5, 1, 0, 0, 0, 0, [], j0m), 
  (.if_icmp .ne 14, 3, 0, 85, 0, 0, [], j0m), j0, j0, (.aload_n 0, 1, 0, 0, 0, 0, [], j0m), (.aload 4, 2, 4, 0, 0, 0, [], j0m), j0, (.iload 5, 2, 5, 0, 0, 0, [], j0m), j0, (.invokevirtual 238, 3, 0, 3, 1, 0, [5054, 5056, 34, 1013, 5057], m_Asker_markSameLine), 
  j0, j0, (.goto 12, 3, 0, 94, 0, 0, [], j0m), j0, j0, (.aload_n 0, 1, 0, 0, 0, 0, [], j0m), (.aload 4, 2, 4, 0, 0, 0, [], j0m), j0, (.iload_n 2, 1, 2, 0, 0, 0, [], j0m), (.iload 5, 2, 5, 0, 0, 0, [], j0m), 
  j0, (.invokevirtual 241, 3, 0, 4, 1, 0, [5058, 5060, 35, 1013, 5061], m_Asker_markBehind), j0, j0, (.iload_n 1, 1, 1, 0, 0, 0, [], j0m), (.iconst 1, 1, 0, 0, 0, 0, [], j0m), (.if_icmp .eq 8, 3, 0, 104, 0, 0, [], j0m), 
  j0, j0, (.iload_n 1, 1, 1, 0, 0, 0, [], j0m), (.iconst 3, 1, 0, 0, 0, 0, [], j0m), (.if_icmp .ne 12, 3, 0, 113, 0, 0, [], j0m), j0, j0, (.aload_n 0, 1, 0, 0, 0, 0, [], j0m), (.aload 4, 2, 4, 0, 0, 0, [], j0m), 
  j0, (.iload_n 2, 1, 2, 0, 0, 0, [], j0m), (.iload 5, 2, 5, 0, 0, 0, [], j0m), j0, (.invokevirtual 245, 3, 0, 4, 1, 0, [5062, 5064, 36, 1013, 5065], m_Asker_markAhead), j0, j0, (.iload_n 1, 1, 1, 0, 0, 0, [], j0m), 
  (.iconst 3, 1, 0, 0, 0, 0, [], j0m), (.if_icmp .eq 8, 3, 0, 123, 0, 0, [], j0m), j0, j0, (.iload_n 1, 1, 1, 0, 0, 0, [], j0m), (.iconst 5, 1, 0, 0, 0, 0, [], j0m), (.if_icmp .ne 7, 3, 0, 127, 0, 0, [], j0m), 
  j0, j0, (.iconst 0, 1, 0, 0, 0, 0, [], j0m), (.goto 4, 3, 0, 128, 0, 0, [], j0m), j0, j0, (.iconst 1, 1, 0, 0, 0, 0, [], j0m), (.istore 6, 2, 6, 0, 0, 0, [], j0m), j0, (.iconst 0, 1, 0, 0, 0, 0, [], j0m), 
  (.istore 7, 2, 7, 0, 0, 0, [], j0m), j0, (.iload 7, 2, 7, 0, 0, 0, [], j0m), j0, (.iload 5, 2, 5, 0, 0, 0, [], j0m), j0, (.if_icmp .ge 34, 3, 0, 171, 0, 0, [], j0m), j0, j0, (.iload 7, 2, 7, 0, 0, 0, [], j0m), 
  j0, (.sipush 300, 3, 0, 0, 0, 0, [], j0m), j0, j0, (.if_icmp .ge 26, 3, 0, 171, 0, 0, [], j0m), j0, j0, (.aload_n 0, 1, 0, 0, 0, 0, [], j0m), (.getfield 27, 3, 0, 7, 0, 7, [2167], j0m), j0, j0, (.iload 7, 2, 7, 0, 0, 0, [], j0m), 
  j0, (.baload, 1, 0, 0, 2, 0, [], j0m), (.iload 6, 2, 6, 0, 0, 0, [], j0m), j0, (.if_icmp .eq 8, 3, 0, 165, 0, 0, [], j0m), j0, j0, (.aload_n 3, 1, 3, 0, 0, 0, [], j0m), (.iload 7, 2, 7, 0, 0, 0, [], j0m), 
  j0, (.iconst 0, 1, 0, 0, 0, 0, [], j0m), (.bastore, 1, 0, 0, 2, 0, [], j0m), (.iinc 7 1, 3, 7, 0, 0, 0, [], j0m), j0, j0, (.goto (-35), 3, 0, 133, 0, 0, [], j0m), j0, j0, (.return_, 1, 0, 0, 0, 0, [], j0m)
  ]
set_option maxRecDepth 20000 in
theorem t_Asker_work : okT m_Asker_work k_Asker_work = true := by decide +kernel
def k_Asker_markSameLine : List jO := [
  (.aload_n 0, 1, 0, 0, 0, 0, [], j0m), (.getfield 31, 3, 0, 8, 0, 8, [2168], j0m), j0, j0, (.iconst 0, 1, 0, 0, 0, 0, [], j0m), (.invokestatic 156, 3, 0, 2, 0, 0, [5012, 3212, 1006, 3213], m_Arrays_fill2), 
  j0, j0, (.iconst 0, 1, 0, 0, 0, 0, [], j0m), (.istore_n 3, 1, 3, 0, 0, 0, [], j0m), (.iload_n 3, 1, 3, 0, 0, 0, [], j0m), (.iload_n 2, 1, 2, 0, 0, 0, [], j0m), (.if_icmp .ge 38, 3, 0, 50, 0, 0, [], j0m), 
  j0, j0, (.iload_n 3, 1, 3, 0, 0, 0, [], j0m), (.sipush 300, 3, 0, 0, 0, 0, [], j0m), j0, j0, (.if_icmp .ge 31, 3, 0, 50, 0, 0, [], j0m), j0, j0, (.aload_n 1, 1, 1, 0, 0, 0, [], j0m), (.iload_n 3, 1, 3, 0, 0, 0, [], j0m), 
  (.baload, 1, 0, 0, 2, 0, [], j0m), (.iconst 1, 1, 0, 0, 0, 0, [], j0m), (.if_icmp .ne 18, 3, 0, 44, 0, 0, [], j0m), j0, j0, (.aload_n 0, 1, 0, 0, 0, 0, [], j0m), (.getfield 31, 3, 0, 8, 0, 8, [2168], j0m), 
  j0, j0, (.aload_n 0, 1, 0, 0, 0, 0, [], j0m), (.getfield 65, 3, 0, 4, 0, 4, [2164], j0m), j0, j0, (.getfield 92, 3, 10, 2, 0, 2, [1223], j0m), j0, j0, (.iload_n 3, 1, 3, 0, 0, 0, [], j0m), (.iaload, 1, 0, 0, 0, 0, [], j0m), 
  (.iconst 1, 1, 0, 0, 0, 0, [], j0m), (.bastore, 1, 0, 0, 2, 0, [], j0m), (.iinc 3 1, 3, 3, 0, 0, 0, [], j0m), j0, j0, (.goto (-37), 3, 0, 10, 0, 0, [], j0m), j0, j0, (.iconst 0, 1, 0, 0, 0, 0, [], j0m), 
  (.istore_n 3, 1, 3, 0, 0, 0, [], j0m), (.iload_n 3, 1, 3, 0, 0, 0, [], j0m), (.iload_n 2, 1, 2, 0, 0, 0, [], j0m), (.if_icmp .ge 36, 3, 0, 90, 0, 0, [], j0m), j0, j0, (.iload_n 3, 1, 3, 0, 0, 0, [], j0m), 
  (.sipush 300, 3, 0, 0, 0, 0, [], j0m), j0, j0, (.if_icmp .ge 29, 3, 0, 90, 0, 0, [], j0m), j0, j0, (.aload_n 0, 1, 0, 0, 0, 0, [], j0m), (.getfield 27, 3, 0, 7, 0, 7, [2167], j0m), j0, j0, (.iload_n 3, 1, 3, 0, 0, 0, [], j0m), 
  (.aload_n 0, 1, 0, 0, 0, 0, [], j0m), (.getfield 31, 3, 0, 8, 0, 8, [2168], j0m), j0, j0, (.aload_n 0, 1, 0, 0, 0, 0, [], j0m), (.getfield 65, 3, 0, 4, 0, 4, [2164], j0m), j0, j0, (.getfield 92, 3, 10, 2, 0, 2, [1223], j0m), 
  j0, j0, (.iload_n 3, 1, 3, 0, 0, 0, [], j0m), (.iaload, 1, 0, 0, 0, 0, [], j0m), (.baload, 1, 0, 0, 2, 0, [], j0m), (.bastore, 1, 0, 0, 2, 0, [], j0m), (.iinc 3 1, 3, 3, 0, 0, 0, [], j0m), j0, j0, (.goto (-35), 3, 0, 52, 0, 0, [], j0m), 
  j0, j0, (.return_, 1, 0, 0, 0, 0, [], j0m)]
set_option maxRecDepth 20000 in
theorem t_Asker_markSameLine : okT m_Asker_markSameLine k_Asker_markSameLine = true := by decide +kernel
def k_Asker_markBehind : List jO := [
  (.iconst (-1), 1, 0, 0, 0, 0, [], j0m), (.istore 4, 2, 4, 0, 0, 0, [], j0m), j0, (.iload_n 3, 1, 3, 0, 0, 0, [], j0m), (.sipush 300, 3, 0, 0, 0, 0, [], j0m), j0, j0, (.invokestatic 180, 3, 0, 2, 1, 0, [5006, 3078, 1005, 3079], j0m), 
  j0, j0, (.iconst 1, 1, 0, 0, 0, 0, [], j0m), (.isub, 1, 0, 0, 0, 0, [], j0m), (.istore 5, 2, 5, 0, 0, 0, [], j0m), j0, (.iload 5, 2, 5, 0, 0, 0, [], j0m), j0, (.ifCond .lt 49, 3, 0, 65, 0, 0, [], j0m), 
  j0, j0, (.iload 4, 2, 4, 0, 0, 0, [], j0m), j0, (.iconst (-1), 1, 0, 0, 0, 0, [], j0m), (.if_icmp .eq 20, 3, 0, 42, 0, 0, [], j0m), j0, j0, (.iload 4, 2, 4, 0, 0, 0, [], j0m), j0, (.iload 5, 2, 5, 0, 0, 0, [], j0m), 
  j0, (.isub, 1, 0, 0, 0, 0, [], j0m), (.iload_n 2, 1, 2, 0, 0, 0, [], j0m), (.if_icmp .gt 11, 3, 0, 42, 0, 0, [], j0m), j0, j0, (.aload_n 0, 1, 0, 0, 0, 0, [], j0m), (.getfield 27, 3, 0, 7, 0, 7, [2167], j0m), 
  j0, j0, (.iload 5, 2, 5, 0, 0, 0, [], j0m), j0, (.iconst 1, 1, 0, 0, 0, 0, [], j0m), (.bastore, 1, 0, 0, 2, 0, [], j0m), (.aload_n 1, 1, 1, 0, 0, 0, [], j0m), (.iload 5, 2, 5, 0, 0, 0, [], j0m), j0, 
  (.baload, 1, 0, 0, 2, 0, [], j0m), (.iconst 1, 1, 0, 0, 0, 0, [], j0m), (.if_icmp .ne 8, 3, 0, 55, 0, 0, [], j0m), j0, j0, (.iload 5, 2, 5, 0, 0, 0, [], j0m), j0, (.goto 5, 3, 0, 57, 0, 0, [], j0m), 
  j0, j0, (.iload 4, 2, 4, 0, 0, 0, [], j0m), j0, (.istore 4, 2, 4, 0, 0, 0, [], j0m), j0, (.iinc 5 (-1), 3, 5, 0, 0, 0, [], j0m), j0, j0, (.goto (-48), 3, 0, 14, 0, 0, [], j0m), j0, j0, (.return_, 1, 0, 0, 0, 0, [], j0m)
  ]
set_option maxRecDepth 20000 in
theorem t_Asker_markBehind : okT m_Asker_markBehind k_Asker_markBehind = true := by decide +kernel
def k_Asker_markAhead : List jO := [
  (.iconst (-1), 1, 0, 0, 0, 0, [], j0m), (.istore 4, 2, 4, 0, 0, 0, [], j0m), j0, (.iconst 0, 1, 0, 0, 0, 0, [], j0m), (.istore 5, 2, 5, 0, 0, 0, [], j0m), j0, (.iload 5, 2, 5, 0, 0, 0, [], j0m), j0, 
  (.iload_n 3, 1, 3, 0, 0, 0, [], j0m), (.if_icmp .ge 57, 3, 0, 66, 0, 0, [], j0m), j0, j0, (.iload 5, 2, 5, 0, 0, 0, [], j0m), j0, (.sipush 300, 3, 0, 0, 0, 0, [], j0m), j0, j0, (.if_icmp .ge 49, 3, 0, 66, 0, 0, [], j0m), 
  j0, j0, (.iload 4, 2, 4, 0, 0, 0, [], j0m), j0, (.iconst (-1), 1, 0, 0, 0, 0, [], j0m), (.if_icmp .eq 20, 3, 0, 43, 0, 0, [], j0m), j0, j0, (.iload 5, 2, 5, 0, 0, 0, [], j0m), j0, (.iload 4, 2, 4, 0, 0, 0, [], j0m), 
  j0, (.isub, 1, 0, 0, 0, 0, [], j0m), (.iload_n 2, 1, 2, 0, 0, 0, [], j0m), (.if_icmp .gt 11, 3, 0, 43, 0, 0, [], j0m), j0, j0, (.aload_n 0, 1, 0, 0, 0, 0, [], j0m), (.getfield 27, 3, 0, 7, 0, 7, [2167], j0m), 
  j0, j0, (.iload 5, 2, 5, 0, 0, 0, [], j0m), j0, (.iconst 1, 1, 0, 0, 0, 0, [], j0m), (.bastore, 1, 0, 0, 2, 0, [], j0m), (.aload_n 1, 1, 1, 0, 0, 0, [], j0m), (.iload 5, 2, 5, 0, 0, 0, [], j0m), j0, 
  (.baload, 1, 0, 0, 2, 0, [], j0m), (.iconst 1, 1, 0, 0, 0, 0, [], j0m), (.if_icmp .ne 8, 3, 0, 56, 0, 0, [], j0m), j0, j0, (.iload 5, 2, 5, 0, 0, 0, [], j0m), j0, (.goto 5, 3, 0, 58, 0, 0, [], j0m), 
  j0, j0, (.iload 4, 2, 4, 0, 0, 0, [], j0m), j0, (.istore 4, 2, 4, 0, 0, 0, [], j0m), j0, (.iinc 5 1, 3, 5, 0, 0, 0, [], j0m), j0, j0, (.goto (-57), 3, 0, 6, 0, 0, [], j0m), j0, j0, (.return_, 1, 0, 0, 0, 0, [], j0m)
  ]
set_option maxRecDepth 20000 in
theorem t_Asker_markAhead : okT m_Asker_markAhead k_Asker_markAhead = true := by decide +kernel
def k_Asker_putDown : List jO := [
  (.aload_n 0, 1, 0, 0, 0, 0, [], j0m), (.iconst 0, 1, 0, 0, 0, 0, [], j0m), (.putfield 34, 3, 0, 9, 0, 9, [2169], j0m), j0, j0, (.iconst 0, 1, 0, 0, 0, 0, [], j0m), (.istore_n 2, 1, 2, 0, 0, 0, [], j0m), 
  (.iload_n 2, 1, 2, 0, 0, 0, [], j0m), (.aload_n 0, 1, 0, 0, 0, 0, [], j0m), (.getfield 65, 3, 0, 4, 0, 4, [2164], j0m), j0, j0, (.getfield 89, 3, 10, 0, 0, 0, [1215], j0m), j0, j0, (.if_icmp .ge 79, 3, 0, 94, 0, 0, [], j0m), 
  j0, j0, (.iload_n 2, 1, 2, 0, 0, 0, [], j0m), (.sipush 300, 3, 0, 0, 0, 0, [], j0m), j0, j0, (.if_icmp .ge 72, 3, 0, 94, 0, 0, [], j0m), j0, j0, (.aload_n 1, 1, 1, 0, 0, 0, [], j0m), (.iload_n 2, 1, 2, 0, 0, 0, [], j0m), 
  (.baload, 1, 0, 0, 2, 0, [], j0m), (.iconst 1, 1, 0, 0, 0, 0, [], j0m), (.if_icmp .ne 59, 3, 0, 88, 0, 0, [], j0m), j0, j0, (.aload_n 0, 1, 0, 0, 0, 0, [], j0m), (.getfield 37, 3, 0, 10, 0, 10, [2171], j0m), 
  j0, j0, (.aload_n 0, 1, 0, 0, 0, 0, [], j0m), (.getfield 34, 3, 0, 9, 0, 9, [2169], j0m), j0, j0, (.iload_n 2, 1, 2, 0, 0, 0, [], j0m), (.iastore, 1, 0, 0, 0, 0, [], j0m), (.aload_n 0, 1, 0, 0, 0, 0, [], j0m), 
  (.getfield 41, 3, 0, 11, 0, 11, [2173], j0m), j0, j0, (.aload_n 0, 1, 0, 0, 0, 0, [], j0m), (.getfield 34, 3, 0, 9, 0, 9, [2169], j0m), j0, j0, (.aload_n 0, 1, 0, 0, 0, 0, [], j0m), (.getfield 65, 3, 0, 4, 0, 4, [2164], j0m), 
  j0, j0, (.getfield 92, 3, 10, 2, 0, 2, [1223], j0m), j0, j0, (.iload_n 2, 1, 2, 0, 0, 0, [], j0m), (.iaload, 1, 0, 0, 0, 0, [], j0m), (.iastore, 1, 0, 0, 0, 0, [], j0m), (.aload_n 0, 1, 0, 0, 0, 0, [], j0m), 
  (.getfield 44, 3, 0, 12, 0, 12, [2175], j0m), j0, j0, (.aload_n 0, 1, 0, 0, 0, 0, [], j0m), (.getfield 34, 3, 0, 9, 0, 9, [2169], j0m), j0, j0, (.aload_n 0, 1, 0, 0, 0, 0, [], j0m), (.getfield 65, 3, 0, 4, 0, 4, [2164], j0m), 
  j0, j0, (.getfield 93, 3, 10, 3, 0, 3, [1226], j0m), j0, j0, (.iload_n 2, 1, 2, 0, 0, 0, [], j0m), (.iaload, 1, 0, 0, 0, 0, [], j0m), (.iastore, 1, 0, 0, 0, 0, [], j0m), (.aload_n 0, 1, 0, 0, 0, 0, [], j0m), 
  (.dup, 1, 0, 0, 0, 0, [], j0m), (.getfield 34, 3, 0, 9, 0, 9, [2169], j0m), j0, j0, (.iconst 1, 1, 0, 0, 0, 0, [], j0m), (.iadd, 1, 0, 0, 0, 0, [], j0m), (.putfield 34, 3, 0, 9, 0, 9, [2169], j0m), j0, 
  j0, (.iinc 2 1, 3, 2, 0, 0, 0, [], j0m), j0, j0, (.goto (-84), 3, 0, 7, 0, 0, [], j0m), j0, j0, (.return_, 1, 0, 0, 0, 0, [], j0m)]
set_option maxRecDepth 20000 in
theorem t_Asker_putDown : okT m_Asker_putDown k_Asker_putDown = true := by decide +kernel
def k_Words_leastBits : List jO := [
  (.aload_n 0, 1, 0, 0, 0, 0, [], j0m), (.iload_n 1, 1, 1, 0, 0, 0, [], j0m), (.iconst 0, 1, 0, 0, 0, 0, [], j0m), (.invokevirtual 157, 3, 10, 3, 1, 0, [5091, 5092, 5093, 1008, 5094], m_Words_bits), j0, 
  j0, (.istore_n 2, 1, 2, 0, 0, 0, [], j0m), (.iconst 1, 1, 0, 0, 0, 0, [], j0m), (.istore_n 3, 1, 3, 0, 0, 0, [], j0m), (.iload_n 3, 1, 3, 0, 0, 0, [], j0m), (.bipush 10, 2, 0, 0, 0, 0, [], j0m), j0, 
  (.if_icmp .gt 20, 3, 0, 32, 0, 0, [], j0m), j0, j0, (.iload_n 2, 1, 2, 0, 0, 0, [], j0m), (.aload_n 0, 1, 0, 0, 0, 0, [], j0m), (.iload_n 1, 1, 1, 0, 0, 0, [], j0m), (.iload_n 3, 1, 3, 0, 0, 0, [], j0m), 
  (.invokevirtual 157, 3, 10, 3, 1, 0, [5091, 5092, 5093, 1008, 5094], m_Words_bits), j0, j0, (.invokestatic 145, 3, 0, 2, 1, 0, [4160, 3078, 1005, 3079], j0m), j0, j0, (.istore_n 2, 1, 2, 0, 0, 0, [], j0m), 
  (.iinc 3 1, 3, 3, 0, 0, 0, [], j0m), j0, j0, (.goto (-20), 3, 0, 9, 0, 0, [], j0m), j0, j0, (.iload_n 2, 1, 2, 0, 0, 0, [], j0m), (.ireturn, 1, 0, 0, 0, 0, [], j0m)]
set_option maxRecDepth 20000 in
theorem t_Words_leastBits : okT m_Words_leastBits k_Words_leastBits = true := by decide +kernel
def k_Words_bits : List jO := [
  (.iconst 0, 1, 0, 0, 0, 0, [], j0m), (.istore_n 3, 1, 3, 0, 0, 0, [], j0m), (.iconst (-1), 1, 0, 0, 0, 0, [], j0m), (.istore 4, 2, 4, 0, 0, 0, [], j0m), j0, (.iconst 0, 1, 0, 0, 0, 0, [], j0m), (.istore 5, 2, 5, 0, 0, 0, [], j0m), 
  j0, (.iload 5, 2, 5, 0, 0, 0, [], j0m), j0, (.aload_n 0, 1, 0, 0, 0, 0, [], j0m), (.iload_n 1, 1, 1, 0, 0, 0, [], j0m), (.invokevirtual 151, 3, 10, 2, 1, 0, [5095, 5038, 5039, 1008, 5040], m_Words_oftenOf), 
  j0, j0, (.if_icmp .ge 38, 3, 0, 53, 0, 0, [], j0m), j0, j0, (.aload_n 0, 1, 0, 0, 0, 0, [], j0m), (.iload_n 1, 1, 1, 0, 0, 0, [], j0m), (.iload 5, 2, 5, 0, 0, 0, [], j0m), j0, (.invokevirtual 154, 3, 10, 3, 1, 0, [5096, 5042, 5043, 1008, 5044], m_Words_placeOf), 
  j0, j0, (.istore 6, 2, 6, 0, 0, 0, [], j0m), j0, (.iload_n 3, 1, 3, 0, 0, 0, [], j0m), (.iload 6, 2, 6, 0, 0, 0, [], j0m), j0, (.iload 4, 2, 4, 0, 0, 0, [], j0m), j0, (.isub, 1, 0, 0, 0, 0, [], j0m), 
  (.iconst 1, 1, 0, 0, 0, 0, [], j0m), (.isub, 1, 0, 0, 0, 0, [], j0m), (.iload_n 2, 1, 2, 0, 0, 0, [], j0m), (.ishr, 1, 0, 0, 0, 0, [], j0m), (.iconst 1, 1, 0, 0, 0, 0, [], j0m), (.iadd, 1, 0, 0, 0, 0, [], j0m), 
  (.iload_n 2, 1, 2, 0, 0, 0, [], j0m), (.iadd, 1, 0, 0, 0, 0, [], j0m), (.iadd, 1, 0, 0, 0, 0, [], j0m), (.istore_n 3, 1, 3, 0, 0, 0, [], j0m), (.iload 6, 2, 6, 0, 0, 0, [], j0m), j0, (.istore 4, 2, 4, 0, 0, 0, [], j0m), 
  j0, (.iinc 5 1, 3, 5, 0, 0, 0, [], j0m), j0, j0, (.goto (-42), 3, 0, 8, 0, 0, [], j0m), j0, j0, (.iload_n 3, 1, 3, 0, 0, 0, [], j0m), (.ireturn, 1, 0, 0, 0, 0, [], j0m)]
set_option maxRecDepth 20000 in
theorem t_Words_bits : okT m_Words_bits k_Words_bits = true := by decide +kernel
def k_Words_divide : List jO := [
  (.iload_n 2, 1, 2, 0, 0, 0, [], j0m), (.bipush 40, 2, 0, 0, 0, 0, [], j0m), j0, (.invokestatic 145, 3, 0, 2, 1, 0, [4160, 3078, 1005, 3079], j0m), j0, j0, (.istore 4, 2, 4, 0, 0, 0, [], j0m), j0, (.iconst 0, 1, 0, 0, 0, 0, [], j0m), 
  (.istore 5, 2, 5, 0, 0, 0, [], j0m), j0, (.iload 5, 2, 5, 0, 0, 0, [], j0m), j0, (.sipush 300, 3, 0, 0, 0, 0, [], j0m), j0, j0, (.if_icmp .ge 22, 3, 0, 38, 0, 0, [], j0m), j0, j0, (.aload_n 0, 1, 0, 0, 0, 0, [], j0m), 
  (.iconst 0, 1, 0, 0, 0, 0, [], j0m), (.iload 4, 2, 4, 0, 0, 0, [], j0m), j0, (.iload 5, 2, 5, 0, 0, 0, [], j0m), j0, (.invokevirtual 160, 3, 10, 4, 1, 0, [5110, 5112, 39, 1008, 5113], m_Words_handsNeeded), 
  j0, j0, (.iload_n 1, 1, 1, 0, 0, 0, [], j0m), (.if_icmp .le 9, 3, 0, 38, 0, 0, [], j0m), j0, j0, (.iinc 5 1, 3, 5, 0, 0, 0, [], j0m), j0, j0, (.goto (-24), 3, 0, 11, 0, 0, [], j0m), j0, j0, (.iconst 0, 1, 0, 0, 0, 0, [], j0m), 
  (.istore 6, 2, 6, 0, 0, 0, [], j0m), j0, (.iconst 0, 1, 0, 0, 0, 0, [], j0m), (.istore 7, 2, 7, 0, 0, 0, [], j0m), j0, (.iload 7, 2, 7, 0, 0, 0, [], j0m), j0, (.iload_n 1, 1, 1, 0, 0, 0, [], j0m), (.if_icmp .ge 54, 3, 0, 101, 0, 0, [], j0m), 
  j0, j0, (.iload 7, 2, 7, 0, 0, 0, [], j0m), j0, (.aload_n 3, 1, 3, 0, 0, 0, [], j0m), (.arraylength, 1, 0, 0, 0, 0, [], j0m), (.if_icmp .ge 47, 3, 0, 101, 0, 0, [], j0m), j0, j0, (.aload_n 3, 1, 3, 0, 0, 0, [], j0m), 
  (.iload 7, 2, 7, 0, 0, 0, [], j0m), j0, (.iload 6, 2, 6, 0, 0, 0, [], j0m), j0, (.iastore, 1, 0, 0, 0, 0, [], j0m), (.iload 6, 2, 6, 0, 0, 0, [], j0m), j0, (.iload 4, 2, 4, 0, 0, 0, [], j0m), j0, (.if_icmp .ge 28, 3, 0, 95, 0, 0, [], j0m), 
  j0, j0, (.aload_n 0, 1, 0, 0, 0, 0, [], j0m), (.iload 6, 2, 6, 0, 0, 0, [], j0m), j0, (.iload 4, 2, 4, 0, 0, 0, [], j0m), j0, (.iload 5, 2, 5, 0, 0, 0, [], j0m), j0, (.invokevirtual 160, 3, 10, 4, 1, 0, [5110, 5112, 39, 1008, 5113], m_Words_handsNeeded), 
  j0, j0, (.iload_n 1, 1, 1, 0, 0, 0, [], j0m), (.iload 7, 2, 7, 0, 0, 0, [], j0m), j0, (.isub, 1, 0, 0, 0, 0, [], j0m), (.iconst 1, 1, 0, 0, 0, 0, [], j0m), (.isub, 1, 0, 0, 0, 0, [], j0m), (.if_icmp .le 9, 3, 0, 95, 0, 0, [], j0m), 
  j0, j0, (.iinc 6 1, 3, 6, 0, 0, 0, [], j0m), j0, j0, (.goto (-29), 3, 0, 63, 0, 0, [], j0m), j0, j0, (.iinc 7 1, 3, 7, 0, 0, 0, [], j0m), j0, j0, (.goto (-54), 3, 0, 44, 0, 0, [], j0m), j0, j0, (.iload 5, 2, 5, 0, 0, 0, [], j0m), 
  j0, (.ireturn, 1, 0, 0, 0, 0, [], j0m)]
set_option maxRecDepth 20000 in
theorem t_Words_divide : okT m_Words_divide k_Words_divide = true := by decide +kernel
def k_Words_handsNeeded : List jO := [
  (.iload_n 1, 1, 1, 0, 0, 0, [], j0m), (.iload_n 2, 1, 2, 0, 0, 0, [], j0m), (.if_icmp .ge 7, 3, 0, 9, 0, 0, [], j0m), j0, j0, (.iconst 1, 1, 0, 0, 0, 0, [], j0m), (.goto 4, 3, 0, 10, 0, 0, [], j0m), 
  j0, j0, (.iconst 0, 1, 0, 0, 0, 0, [], j0m), (.istore 4, 2, 4, 0, 0, 0, [], j0m), j0, (.iconst 0, 1, 0, 0, 0, 0, [], j0m), (.istore 5, 2, 5, 0, 0, 0, [], j0m), j0, (.iload_n 1, 1, 1, 0, 0, 0, [], j0m), 
  (.istore 6, 2, 6, 0, 0, 0, [], j0m), j0, (.iload 6, 2, 6, 0, 0, 0, [], j0m), j0, (.iload_n 2, 1, 2, 0, 0, 0, [], j0m), (.if_icmp .ge 53, 3, 0, 74, 0, 0, [], j0m), j0, j0, (.aload_n 0, 1, 0, 0, 0, 0, [], j0m), 
  (.getfield 49, 3, 10, 10, 0, 10, [1239], j0m), j0, j0, (.iload 6, 2, 6, 0, 0, 0, [], j0m), j0, (.iaload, 1, 0, 0, 0, 0, [], j0m), (.iload_n 3, 1, 3, 0, 0, 0, [], j0m), (.if_icmp .le 6, 3, 0, 38, 0, 0, [], j0m), 
  j0, j0, (.bipush 41, 2, 0, 0, 0, 0, [], j0m), j0, (.ireturn, 1, 0, 0, 0, 0, [], j0m), (.iload 5, 2, 5, 0, 0, 0, [], j0m), j0, (.aload_n 0, 1, 0, 0, 0, 0, [], j0m), (.getfield 49, 3, 10, 10, 0, 10, [1239], j0m), 
  j0, j0, (.iload 6, 2, 6, 0, 0, 0, [], j0m), j0, (.iaload, 1, 0, 0, 0, 0, [], j0m), (.iadd, 1, 0, 0, 0, 0, [], j0m), (.istore 5, 2, 5, 0, 0, 0, [], j0m), j0, (.iload 5, 2, 5, 0, 0, 0, [], j0m), j0, (.iload_n 3, 1, 3, 0, 0, 0, [], j0m), 
  (.if_icmp .le 15, 3, 0, 68, 0, 0, [], j0m), j0, j0, (.iinc 4 1, 3, 4, 0, 0, 0, [], j0m), j0, j0, (.aload_n 0, 1, 0, 0, 0, 0, [], j0m), (.getfield 49, 3, 10, 10, 0, 10, [1239], j0m), j0, j0, (.iload 6, 2, 6, 0, 0, 0, [], j0m), 
  j0, (.iaload, 1, 0, 0, 0, 0, [], j0m), (.istore 5, 2, 5, 0, 0, 0, [], j0m), j0, (.iinc 6 1, 3, 6, 0, 0, 0, [], j0m), j0, j0, (.goto (-53), 3, 0, 18, 0, 0, [], j0m), j0, j0, (.iload 4, 2, 4, 0, 0, 0, [], j0m), 
  j0, (.ireturn, 1, 0, 0, 0, 0, [], j0m)]
set_option maxRecDepth 20000 in
theorem t_Words_handsNeeded : okT m_Words_handsNeeded k_Words_handsNeeded = true := by decide +kernel
def k_Likeness_refresh : List jO := [
  (.aload_n 0, 1, 0, 0, 0, 0, [], j0m), (.getfield 9, 3, 5, 0, 0, 0, [2067], j0m), j0, j0, (.ifCond .eq 4, 3, 0, 8, 0, 0, [], j0m), j0, j0, (.return_, 1, 0, 0, 0, 0, [], j0m), (.aload_n 0, 1, 0, 0, 0, 0, [], j0m), 
  (.getfield 23, 3, 5, 3, 0, 3, [2073], j0m), j0, j0, (.lconst 0, 1, 0, 0, 0, 0, [], j0m), (.invokestatic 33, 3, 0, 2, 0, 0, [5130, 5131, 1006, 5132], m_Arrays_fill3), j0, j0, (.aload_n 0, 1, 0, 0, 0, 0, [], j0m), 
  (.getfield 30, 3, 5, 5, 0, 5, [2075], j0m), j0, j0, (.iconst 0, 1, 0, 0, 0, 0, [], j0m), (.invokestatic 39, 3, 0, 2, 0, 0, [5133, 1075, 1006, 1076], m_Arrays_fill), j0, j0, (.aload_n 1, 1, 1, 0, 0, 0, [], j0m), 
  (.getfield 42, 3, 10, 0, 0, 0, [1214], j0m), j0, j0, (.sipush 300, 3, 0, 0, 0, 0, [], j0m), j0, j0, (.invokestatic 47, 3, 0, 2, 1, 0, [5134, 3078, 1005, 3079], j0m), j0, j0, (.iconst 1, 1, 0, 0, 0, 0, [], j0m), 
  (.isub, 1, 0, 0, 0, 0, [], j0m), (.istore_n 3, 1, 3, 0, 0, 0, [], j0m), (.iload_n 3, 1, 3, 0, 0, 0, [], j0m), (.ifCond .lt 21, 3, 0, 59, 0, 0, [], j0m), j0, j0, (.aload_n 0, 1, 0, 0, 0, 0, [], j0m), 
  (.iload_n 3, 1, 3, 0, 0, 0, [], j0m), (.aload_n 1, 1, 1, 0, 0, 0, [], j0m), (.getfield 53, 3, 10, 5, 0, 5, [1231], j0m), j0, j0, (.iload_n 3, 1, 3, 0, 0, 0, [], j0m), (.iaload, 1, 0, 0, 0, 0, [], j0m), 
  (.aload_n 2, 1, 2, 0, 0, 0, [], j0m), (.invokevirtual 56, 3, 5, 4, 1, 0, [5135, 5137, 41, 1010, 5138], m_Likeness_fillRow), j0, j0, (.iinc 3 (-1), 3, 3, 0, 0, 0, [], j0m), j0, j0, (.goto (-19), 3, 0, 37, 0, 0, [], j0m), 
  j0, j0, (.aload_n 0, 1, 0, 0, 0, 0, [], j0m), (.aload_n 0, 1, 0, 0, 0, 0, [], j0m), (.getfield 30, 3, 5, 5, 0, 5, [2075], j0m), j0, j0, (.iconst 0, 1, 0, 0, 0, 0, [], j0m), (.iaload, 1, 0, 0, 0, 0, [], j0m), 
  (.putfield 15, 3, 5, 1, 0, 1, [2069], j0m), j0, j0, (.aload_n 0, 1, 0, 0, 0, 0, [], j0m), (.aload_n 1, 1, 1, 0, 0, 0, [], j0m), (.aload_n 2, 1, 2, 0, 0, 0, [], j0m), (.invokevirtual 60, 3, 5, 3, 1, 0, [5139, 5141, 42, 1010, 5142], m_Likeness_pairUp), 
  j0, j0, (.aload_n 0, 1, 0, 0, 0, 0, [], j0m), (.iconst 1, 1, 0, 0, 0, 0, [], j0m), (.putfield 9, 3, 5, 0, 0, 0, [2067], j0m), j0, j0, (.return_, 1, 0, 0, 0, 0, [], j0m)]
set_option maxRecDepth 20000 in
theorem t_Likeness_refresh : okT m_Likeness_refresh k_Likeness_refresh = true := by decide +kernel
def k_Likeness_fillRow : List jO := [
  (.aload_n 3, 1, 3, 0, 0, 0, [], j0m), (.getfield 42, 3, 10, 0, 0, 0, [1214], j0m), j0, j0, (.sipush 300, 3, 0, 0, 0, 0, [], j0m), j0, j0, (.invokestatic 47, 3, 0, 2, 1, 0, [5134, 3078, 1005, 3079], j0m), 
  j0, j0, (.istore 4, 2, 4, 0, 0, 0, [], j0m), j0, (.aload_n 0, 1, 0, 0, 0, 0, [], j0m), (.getfield 27, 3, 5, 4, 0, 4, [2074], j0m), j0, j0, (.iload 4, 2, 4, 0, 0, 0, [], j0m), j0, (.iconst 0, 1, 0, 0, 0, 0, [], j0m), 
  (.iastore, 1, 0, 0, 0, 0, [], j0m), (.iload 4, 2, 4, 0, 0, 0, [], j0m), j0, (.iconst 1, 1, 0, 0, 0, 0, [], j0m), (.isub, 1, 0, 0, 0, 0, [], j0m), (.istore 5, 2, 5, 0, 0, 0, [], j0m), j0, (.iload 5, 2, 5, 0, 0, 0, [], j0m), 
  j0, (.ifCond .lt 117, 3, 0, 145, 0, 0, [], j0m), j0, j0, (.aload_n 3, 1, 3, 0, 0, 0, [], j0m), (.getfield 53, 3, 10, 5, 0, 5, [1231], j0m), j0, j0, (.iload 5, 2, 5, 0, 0, 0, [], j0m), j0, (.iaload, 1, 0, 0, 0, 0, [], j0m), 
  (.iload_n 2, 1, 2, 0, 0, 0, [], j0m), (.if_icmp .ne 24, 3, 0, 63, 0, 0, [], j0m), j0, j0, (.aload_n 0, 1, 0, 0, 0, 0, [], j0m), (.getfield 27, 3, 5, 4, 0, 4, [2074], j0m), j0, j0, (.iload 5, 2, 5, 0, 0, 0, [], j0m), 
  j0, (.aload_n 0, 1, 0, 0, 0, 0, [], j0m), (.getfield 30, 3, 5, 5, 0, 5, [2075], j0m), j0, j0, (.iload 5, 2, 5, 0, 0, 0, [], j0m), j0, (.iconst 1, 1, 0, 0, 0, 0, [], j0m), (.iadd, 1, 0, 0, 0, 0, [], j0m), 
  (.iaload, 1, 0, 0, 0, 0, [], j0m), (.iconst 1, 1, 0, 0, 0, 0, [], j0m), (.iadd, 1, 0, 0, 0, 0, [], j0m), (.iastore, 1, 0, 0, 0, 0, [], j0m), (.goto 79, 3, 0, 139, 0, 0, [], j0m), j0, j0, (.aload_n 0, 1, 0, 0, 0, 0, [], j0m), 
  (.getfield 30, 3, 5, 5, 0, 5, [2075], j0m), j0, j0, (.iload 5, 2, 5, 0, 0, 0, [], j0m), j0, (.iaload, 1, 0, 0, 0, 0, [], j0m), (.aload_n 0, 1, 0, 0, 0, 0, [], j0m), (.getfield 27, 3, 5, 4, 0, 4, [2074], j0m), 
  j0, j0, (.iload 5, 2, 5, 0, 0, 0, [], j0m), j0, (.iconst 1, 1, 0, 0, 0, 0, [], j0m), (.iadd, 1, 0, 0, 0, 0, [], j0m), (.iaload, 1, 0, 0, 0, 0, [], j0m), (.if_icmp .lt 44, 3, 0, 123, 0, 0, [], j0m), j0, 
  j0, (.aload_n 0, 1, 0, 0, 0, 0, [], j0m), (.getfield 27, 3, 5, 4, 0, 4, [2074], j0m), j0, j0, (.iload 5, 2, 5, 0, 0, 0, [], j0m), j0, (.aload_n 0, 1, 0, 0, 0, 0, [], j0m), (.getfield 30, 3, 5, 5, 0, 5, [2075], j0m), 
  j0, j0, (.iload 5, 2, 5, 0, 0, 0, [], j0m), j0, (.iaload, 1, 0, 0, 0, 0, [], j0m), (.iastore, 1, 0, 0, 0, 0, [], j0m), (.aload_n 0, 1, 0, 0, 0, 0, [], j0m), (.getfield 23, 3, 5, 3, 0, 3, [2073], j0m), 
  j0, j0, (.iload_n 1, 1, 1, 0, 0, 0, [], j0m), (.iconst 5, 1, 0, 0, 0, 0, [], j0m), (.imul, 1, 0, 0, 0, 0, [], j0m), (.iload 5, 2, 5, 0, 0, 0, [], j0m), j0, (.bipush 64, 2, 0, 0, 0, 0, [], j0m), j0, (.idiv, 1, 0, 0, 0, 0, [], j0m), 
  (.iadd, 1, 0, 0, 0, 0, [], j0m), (.dup2, 1, 0, 0, 0, 0, [], j0m), (.laload, 1, 0, 0, 0, 0, [], j0m), (.lconst 1, 1, 0, 0, 0, 1, [], j0m), (.iload 5, 2, 5, 0, 0, 0, [], j0m), j0, (.bipush 64, 2, 0, 0, 0, 0, [], j0m), 
  j0, (.irem, 1, 0, 0, 0, 0, [], j0m), (.lshl, 1, 0, 0, 0, 0, [], j0m), (.lor, 1, 0, 0, 0, 0, [], j0m), (.lastore, 1, 0, 0, 0, 0, [], j0m), (.goto 19, 3, 0, 139, 0, 0, [], j0m), j0, j0, (.aload_n 0, 1, 0, 0, 0, 0, [], j0m), 
  (.getfield 27, 3, 5, 4, 0, 4, [2074], j0m), j0, j0, (.iload 5, 2, 5, 0, 0, 0, [], j0m), j0, (.aload_n 0, 1, 0, 0, 0, 0, [], j0m), (.getfield 27, 3, 5, 4, 0, 4, [2074], j0m), j0, j0, (.iload 5, 2, 5, 0, 0, 0, [], j0m), 
  j0, (.iconst 1, 1, 0, 0, 0, 0, [], j0m), (.iadd, 1, 0, 0, 0, 0, [], j0m), (.iaload, 1, 0, 0, 0, 0, [], j0m), (.iastore, 1, 0, 0, 0, 0, [], j0m), (.iinc 5 (-1), 3, 5, 0, 0, 0, [], j0m), j0, j0, (.goto (-116), 3, 0, 26, 0, 0, [], j0m), 
  j0, j0, (.aload_n 0, 1, 0, 0, 0, 0, [], j0m), (.getfield 27, 3, 5, 4, 0, 4, [2074], j0m), j0, j0, (.astore 5, 2, 5, 0, 0, 0, [], j0m), j0, (.aload_n 0, 1, 0, 0, 0, 0, [], j0m), (.aload_n 0, 1, 0, 0, 0, 0, [], j0m), 
  (.getfield 30, 3, 5, 5, 0, 5, [2075], j0m), j0, j0, (.putfield 27, 3, 5, 4, 0, 4, [2074], j0m), j0, j0, (.aload_n 0, 1, 0, 0, 0, 0, [], j0m), (.aload 5, 2, 5, 0, 0, 0, [], j0m), j0, (.putfield 30, 3, 5, 5, 0, 5, [2075], j0m), 
  j0, j0, (.return_, 1, 0, 0, 0, 0, [], j0m)]
set_option maxRecDepth 20000 in
theorem t_Likeness_fillRow : okT m_Likeness_fillRow k_Likeness_fillRow = true := by decide +kernel
def k_Likeness_pairUp : List jO := [
  (.aload_n 0, 1, 0, 0, 0, 0, [], j0m), (.getfield 19, 3, 5, 2, 0, 2, [2071], j0m), j0, j0, (.iconst (-1), 1, 0, 0, 0, 0, [], j0m), (.invokestatic 39, 3, 0, 2, 0, 0, [5133, 1075, 1006, 1076], m_Arrays_fill), 
  j0, j0, (.iconst 0, 1, 0, 0, 0, 0, [], j0m), (.istore_n 3, 1, 3, 0, 0, 0, [], j0m), (.iconst 0, 1, 0, 0, 0, 0, [], j0m), (.istore 4, 2, 4, 0, 0, 0, [], j0m), j0, (.iload_n 3, 1, 3, 0, 0, 0, [], j0m), 
  (.aload_n 1, 1, 1, 0, 0, 0, [], j0m), (.getfield 42, 3, 10, 0, 0, 0, [1214], j0m), j0, j0, (.if_icmp .ge 99, 3, 0, 117, 0, 0, [], j0m), j0, j0, (.iload 4, 2, 4, 0, 0, 0, [], j0m), j0, (.aload_n 2, 1, 2, 0, 0, 0, [], j0m), 
  (.getfield 42, 3, 10, 0, 0, 0, [1214], j0m), j0, j0, (.if_icmp .ge 90, 3, 0, 117, 0, 0, [], j0m), j0, j0, (.iload_n 3, 1, 3, 0, 0, 0, [], j0m), (.sipush 300, 3, 0, 0, 0, 0, [], j0m), j0, j0, (.if_icmp .ge 83, 3, 0, 117, 0, 0, [], j0m), 
  j0, j0, (.iload 4, 2, 4, 0, 0, 0, [], j0m), j0, (.sipush 300, 3, 0, 0, 0, 0, [], j0m), j0, j0, (.if_icmp .ge 75, 3, 0, 117, 0, 0, [], j0m), j0, j0, (.aload_n 1, 1, 1, 0, 0, 0, [], j0m), (.getfield 53, 3, 10, 5, 0, 5, [1231], j0m), 
  j0, j0, (.iload_n 3, 1, 3, 0, 0, 0, [], j0m), (.iaload, 1, 0, 0, 0, 0, [], j0m), (.aload_n 2, 1, 2, 0, 0, 0, [], j0m), (.getfield 53, 3, 10, 5, 0, 5, [1231], j0m), j0, j0, (.iload 4, 2, 4, 0, 0, 0, [], j0m), 
  j0, (.iaload, 1, 0, 0, 0, 0, [], j0m), (.if_icmp .ne 20, 3, 0, 78, 0, 0, [], j0m), j0, j0, (.aload_n 0, 1, 0, 0, 0, 0, [], j0m), (.getfield 19, 3, 5, 2, 0, 2, [2071], j0m), j0, j0, (.iload_n 3, 1, 3, 0, 0, 0, [], j0m), 
  (.iload 4, 2, 4, 0, 0, 0, [], j0m), j0, (.iastore, 1, 0, 0, 0, 0, [], j0m), (.iinc 3 1, 3, 3, 0, 0, 0, [], j0m), j0, j0, (.iinc 4 1, 3, 4, 0, 0, 0, [], j0m), j0, j0, (.goto (-62), 3, 0, 13, 0, 0, [], j0m), 
  j0, j0, (.aload_n 0, 1, 0, 0, 0, 0, [], j0m), (.getfield 23, 3, 5, 3, 0, 3, [2073], j0m), j0, j0, (.iload_n 3, 1, 3, 0, 0, 0, [], j0m), (.iconst 5, 1, 0, 0, 0, 0, [], j0m), (.imul, 1, 0, 0, 0, 0, [], j0m), 
  (.iload 4, 2, 4, 0, 0, 0, [], j0m), j0, (.bipush 64, 2, 0, 0, 0, 0, [], j0m), j0, (.idiv, 1, 0, 0, 0, 0, [], j0m), (.iadd, 1, 0, 0, 0, 0, [], j0m), (.laload, 1, 0, 0, 0, 0, [], j0m), (.iload 4, 2, 4, 0, 0, 0, [], j0m), 
  j0, (.bipush 64, 2, 0, 0, 0, 0, [], j0m), j0, (.irem, 1, 0, 0, 0, 0, [], j0m), (.lshr, 1, 0, 0, 0, 0, [], j0m), (.lconst 1, 1, 0, 0, 0, 1, [], j0m), (.land, 1, 0, 0, 0, 0, [], j0m), (.lconst 1, 1, 0, 0, 0, 1, [], j0m), 
  (.lcmp, 1, 0, 0, 0, 0, [], j0m), (.ifCond .ne 9, 3, 0, 111, 0, 0, [], j0m), j0, j0, (.iinc 3 1, 3, 3, 0, 0, 0, [], j0m), j0, j0, (.goto (-95), 3, 0, 13, 0, 0, [], j0m), j0, j0, (.iinc 4 1, 3, 4, 0, 0, 0, [], j0m), 
  j0, j0, (.goto (-101), 3, 0, 13, 0, 0, [], j0m), j0, j0, (.return_, 1, 0, 0, 0, 0, [], j0m)]
set_option maxRecDepth 20000 in
theorem t_Likeness_pairUp : okT m_Likeness_pairUp k_Likeness_pairUp = true := by decide +kernel
def k_Image_slipAt : List jO := [
  (.iload_n 0, 1, 0, 0, 0, 0, [], j0m), (.sipush 300, 3, 0, 0, 0, 0, [], j0m), j0, j0, (.imul, 1, 0, 0, 0, 0, [], j0m), (.iload_n 1, 1, 1, 0, 0, 0, [], j0m), (.iadd, 1, 0, 0, 0, 0, [], j0m), (.ireturn, 1, 0, 0, 0, 0, [], j0m)
  ]
set_option maxRecDepth 20000 in
theorem t_Image_slipAt : okT m_Image_slipAt k_Image_slipAt = true := by decide +kernel
def k_Image_slipHigh : List jO := [
  (.iload_n 1, 1, 1, 0, 0, 0, [], j0m), (.ifCond .lt 37, 3, 0, 38, 0, 0, [], j0m), j0, j0, (.iload_n 1, 1, 1, 0, 0, 0, [], j0m), (.aload_n 0, 1, 0, 0, 0, 0, [], j0m), (.getfield 40, 3, 2, 6, 0, 6, [1151], j0m), 
  j0, j0, (.getfield 96, 3, 4, 0, 0, 0, [1054], j0m), j0, j0, (.arraylength, 1, 0, 0, 0, 0, [], j0m), (.if_icmp .ge 25, 3, 0, 38, 0, 0, [], j0m), j0, j0, (.aload_n 0, 1, 0, 0, 0, 0, [], j0m), (.getfield 40, 3, 2, 6, 0, 6, [1151], j0m), 
  j0, j0, (.getfield 96, 3, 4, 0, 0, 0, [1054], j0m), j0, j0, (.iload_n 1, 1, 1, 0, 0, 0, [], j0m), (.laload, 1, 0, 0, 0, 0, [], j0m), (.aload_n 0, 1, 0, 0, 0, 0, [], j0m), (.getfield 12, 3, 2, 0, 0, 0, [1140], j0m), 
  j0, j0, (.getfield 100, 3, 7, 1, 0, 1, [1084], j0m), j0, j0, (.invokestatic 103, 3, 0, 2, 0, 0, [5176, 3237, 1009, 3238], m_Key_mapped), j0, j0, (.goto 4, 3, 0, 39, 0, 0, [], j0m), j0, j0, (.lconst 0, 1, 0, 0, 0, 0, [], j0m), 
  (.lreturn, 1, 0, 0, 0, 0, [], j0m)]
set_option maxRecDepth 20000 in
theorem t_Image_slipHigh : okT m_Image_slipHigh k_Image_slipHigh = true := by decide +kernel
def k_Image_slipLow : List jO := [
  (.iload_n 1, 1, 1, 0, 0, 0, [], j0m), (.ifCond .lt 37, 3, 0, 38, 0, 0, [], j0m), j0, j0, (.iload_n 1, 1, 1, 0, 0, 0, [], j0m), (.aload_n 0, 1, 0, 0, 0, 0, [], j0m), (.getfield 40, 3, 2, 6, 0, 6, [1151], j0m), 
  j0, j0, (.getfield 109, 3, 4, 1, 0, 1, [1060], j0m), j0, j0, (.arraylength, 1, 0, 0, 0, 0, [], j0m), (.if_icmp .ge 25, 3, 0, 38, 0, 0, [], j0m), j0, j0, (.aload_n 0, 1, 0, 0, 0, 0, [], j0m), (.getfield 40, 3, 2, 6, 0, 6, [1151], j0m), 
  j0, j0, (.getfield 109, 3, 4, 1, 0, 1, [1060], j0m), j0, j0, (.iload_n 1, 1, 1, 0, 0, 0, [], j0m), (.laload, 1, 0, 0, 0, 0, [], j0m), (.aload_n 0, 1, 0, 0, 0, 0, [], j0m), (.getfield 12, 3, 2, 0, 0, 0, [1140], j0m), 
  j0, j0, (.getfield 100, 3, 7, 1, 0, 1, [1084], j0m), j0, j0, (.invokestatic 103, 3, 0, 2, 0, 0, [5176, 3237, 1009, 3238], m_Key_mapped), j0, j0, (.goto 4, 3, 0, 39, 0, 0, [], j0m), j0, j0, (.lconst 0, 1, 0, 0, 0, 0, [], j0m), 
  (.lreturn, 1, 0, 0, 0, 0, [], j0m)]
set_option maxRecDepth 20000 in
theorem t_Image_slipLow : okT m_Image_slipLow k_Image_slipLow = true := by decide +kernel
def k_Image_hasSlip : List jO := [
  (.aload_n 0, 1, 0, 0, 0, 0, [], j0m), (.getfield 40, 3, 2, 6, 0, 6, [1151], j0m), j0, j0, (.iload_n 1, 1, 1, 0, 0, 0, [], j0m), (.iload_n 2, 1, 2, 0, 0, 0, [], j0m), (.invokestatic 89, 3, 0, 2, 0, 0, [5190, 5165, 1002, 5166], m_Image_slipAt), 
  j0, j0, (.lconst 0, 1, 0, 0, 0, 0, [], j0m), (.lconst 0, 1, 0, 0, 0, 0, [], j0m), (.invokevirtual 92, 3, 4, 4, 1, 0, [5191, 4196, 4197, 1004, 4198], m_KeyRow_holds), j0, j0, (.ifCond .ne 7, 3, 0, 21, 0, 0, [], j0m), 
  j0, j0, (.iconst 1, 1, 0, 0, 0, 0, [], j0m), (.goto 4, 3, 0, 22, 0, 0, [], j0m), j0, j0, (.iconst 0, 1, 0, 0, 0, 0, [], j0m), (.ireturn, 1, 0, 0, 1, 0, [], j0m)]
set_option maxRecDepth 20000 in
theorem t_Image_hasSlip : okT m_Image_hasSlip k_Image_hasSlip = true := by decide +kernel
def k_Words_clearWorths : List jO := [
  (.aload_n 0, 1, 0, 0, 0, 0, [], j0m), (.getfield 52, 3, 10, 11, 0, 11, [2000], j0m), j0, j0, (.iconst 0, 1, 0, 0, 0, 0, [], j0m), (.invokestatic 66, 3, 0, 2, 0, 0, [4116, 1075, 1006, 1076], m_Arrays_fill), 
  j0, j0, (.aload_n 0, 1, 0, 0, 0, 0, [], j0m), (.getfield 55, 3, 10, 12, 0, 12, [2002], j0m), j0, j0, (.iconst 0, 1, 0, 0, 0, 0, [], j0m), (.invokestatic 164, 3, 0, 2, 0, 0, [5208, 3212, 1006, 3213], m_Arrays_fill2), 
  j0, j0, (.return_, 1, 0, 0, 0, 0, [], j0m)]
set_option maxRecDepth 20000 in
theorem t_Words_clearWorths : okT m_Words_clearWorths k_Words_clearWorths = true := by decide +kernel
def k_Words_addWorths : List jO := [
  (.iload_n 1, 1, 1, 0, 0, 0, [], j0m), (.ifCond .lt 19, 3, 0, 20, 0, 0, [], j0m), j0, j0, (.iload_n 1, 1, 1, 0, 0, 0, [], j0m), (.sipush 600, 3, 0, 0, 0, 0, [], j0m), j0, j0, (.if_icmp .ge 12, 3, 0, 20, 0, 0, [], j0m), 
  j0, j0, (.aload_n 0, 1, 0, 0, 0, 0, [], j0m), (.getfield 55, 3, 10, 12, 0, 12, [2002], j0m), j0, j0, (.iload_n 1, 1, 1, 0, 0, 0, [], j0m), (.baload, 1, 0, 0, 2, 0, [], j0m), (.ifCond .eq 4, 3, 0, 21, 0, 0, [], j0m), 
  j0, j0, (.return_, 1, 0, 0, 0, 0, [], j0m), (.aload_n 0, 1, 0, 0, 0, 0, [], j0m), (.getfield 55, 3, 10, 12, 0, 12, [2002], j0m), j0, j0, (.iload_n 1, 1, 1, 0, 0, 0, [], j0m), (.iconst 1, 1, 0, 0, 0, 0, [], j0m), 
  (.bastore, 1, 0, 0, 2, 0, [], j0m), (.aload_n 0, 1, 0, 0, 0, 0, [], j0m), (.iload_n 1, 1, 1, 0, 0, 0, [], j0m), (.invokevirtual 167, 3, 10, 2, 1, 0, [5219, 5221, 48, 1008, 5222], m_Words_linesWith), 
  j0, j0, (.istore_n 2, 1, 2, 0, 0, 0, [], j0m), (.iconst (-1), 1, 0, 0, 0, 0, [], j0m), (.istore_n 3, 1, 3, 0, 0, 0, [], j0m), (.iconst 0, 1, 0, 0, 0, 0, [], j0m), (.istore 4, 2, 4, 0, 0, 0, [], j0m), 
  j0, (.iload 4, 2, 4, 0, 0, 0, [], j0m), j0, (.aload_n 0, 1, 0, 0, 0, 0, [], j0m), (.iload_n 1, 1, 1, 0, 0, 0, [], j0m), (.invokevirtual 151, 3, 10, 2, 1, 0, [5095, 5038, 5039, 1008, 5040], m_Words_oftenOf), 
  j0, j0, (.if_icmp .ge 62, 3, 0, 108, 0, 0, [], j0m), j0, j0, (.iload_n 2, 1, 2, 0, 0, 0, [], j0m), (.ifCond .le 58, 3, 0, 108, 0, 0, [], j0m), j0, j0, (.aload_n 0, 1, 0, 0, 0, 0, [], j0m), (.aload_n 0, 1, 0, 0, 0, 0, [], j0m), 
  (.iload_n 1, 1, 1, 0, 0, 0, [], j0m), (.iload 4, 2, 4, 0, 0, 0, [], j0m), j0, (.invokevirtual 154, 3, 10, 3, 1, 0, [5096, 5042, 5043, 1008, 5044], m_Words_placeOf), j0, j0, (.invokevirtual 170, 3, 10, 2, 1, 0, [5223, 5225, 49, 1008, 5226], m_Words_lineOfPlace), 
  j0, j0, (.istore 5, 2, 5, 0, 0, 0, [], j0m), j0, (.iload 5, 2, 5, 0, 0, 0, [], j0m), j0, (.iload_n 3, 1, 3, 0, 0, 0, [], j0m), (.if_icmp .eq 30, 3, 0, 99, 0, 0, [], j0m), j0, j0, (.iload 5, 2, 5, 0, 0, 0, [], j0m), 
  j0, (.ifCond .lt 25, 3, 0, 99, 0, 0, [], j0m), j0, j0, (.iload 5, 2, 5, 0, 0, 0, [], j0m), j0, (.bipush 40, 2, 0, 0, 0, 0, [], j0m), j0, (.if_icmp .ge 18, 3, 0, 99, 0, 0, [], j0m), j0, j0, (.aload_n 0, 1, 0, 0, 0, 0, [], j0m), 
  (.getfield 52, 3, 10, 11, 0, 11, [2000], j0m), j0, j0, (.iload 5, 2, 5, 0, 0, 0, [], j0m), j0, (.dup2, 1, 0, 0, 0, 0, [], j0m), (.iaload, 1, 0, 0, 0, 0, [], j0m), (.sipush 1000, 3, 0, 0, 0, 0, [], j0m), 
  j0, j0, (.iload_n 2, 1, 2, 0, 0, 0, [], j0m), (.idiv, 1, 0, 0, 0, 0, [], j0m), (.iadd, 1, 0, 0, 0, 0, [], j0m), (.iastore, 1, 0, 0, 0, 0, [], j0m), (.iload 5, 2, 5, 0, 0, 0, [], j0m), j0, (.istore_n 3, 1, 3, 0, 0, 0, [], j0m), 
  (.iinc 4 1, 3, 4, 0, 0, 0, [], j0m), j0, j0, (.goto (-66), 3, 0, 39, 0, 0, [], j0m), j0, j0, (.return_, 1, 0, 0, 0, 0, [], j0m)]
set_option maxRecDepth 20000 in
theorem t_Words_addWorths : okT m_Words_addWorths k_Words_addWorths = true := by decide +kernel
def k_Words_linesWith : List jO := [
  (.iconst 0, 1, 0, 0, 0, 0, [], j0m), (.istore_n 2, 1, 2, 0, 0, 0, [], j0m), (.iconst (-1), 1, 0, 0, 0, 0, [], j0m), (.istore_n 3, 1, 3, 0, 0, 0, [], j0m), (.iconst 0, 1, 0, 0, 0, 0, [], j0m), (.istore 4, 2, 4, 0, 0, 0, [], j0m), 
  j0, (.iload 4, 2, 4, 0, 0, 0, [], j0m), j0, (.aload_n 0, 1, 0, 0, 0, 0, [], j0m), (.iload_n 1, 1, 1, 0, 0, 0, [], j0m), (.invokevirtual 151, 3, 10, 2, 1, 0, [5095, 5038, 5039, 1008, 5040], m_Words_oftenOf), 
  j0, j0, (.if_icmp .ge 39, 3, 0, 53, 0, 0, [], j0m), j0, j0, (.aload_n 0, 1, 0, 0, 0, 0, [], j0m), (.aload_n 0, 1, 0, 0, 0, 0, [], j0m), (.iload_n 1, 1, 1, 0, 0, 0, [], j0m), (.iload 4, 2, 4, 0, 0, 0, [], j0m), 
  j0, (.invokevirtual 154, 3, 10, 3, 1, 0, [5096, 5042, 5043, 1008, 5044], m_Words_placeOf), j0, j0, (.invokevirtual 170, 3, 10, 2, 1, 0, [5223, 5225, 49, 1008, 5226], m_Words_lineOfPlace), j0, j0, (.istore 5, 2, 5, 0, 0, 0, [], j0m), 
  j0, (.iload_n 2, 1, 2, 0, 0, 0, [], j0m), (.iload 5, 2, 5, 0, 0, 0, [], j0m), j0, (.iload_n 3, 1, 3, 0, 0, 0, [], j0m), (.if_icmp .eq 7, 3, 0, 41, 0, 0, [], j0m), j0, j0, (.iconst 1, 1, 0, 0, 0, 0, [], j0m), 
  (.goto 4, 3, 0, 42, 0, 0, [], j0m), j0, j0, (.iconst 0, 1, 0, 0, 0, 0, [], j0m), (.iadd, 1, 0, 0, 0, 0, [], j0m), (.istore_n 2, 1, 2, 0, 0, 0, [], j0m), (.iload 5, 2, 5, 0, 0, 0, [], j0m), j0, (.istore_n 3, 1, 3, 0, 0, 0, [], j0m), 
  (.iinc 4 1, 3, 4, 0, 0, 0, [], j0m), j0, j0, (.goto (-43), 3, 0, 7, 0, 0, [], j0m), j0, j0, (.iload_n 2, 1, 2, 0, 0, 0, [], j0m), (.ireturn, 1, 0, 0, 0, 0, [], j0m)]
set_option maxRecDepth 20000 in
theorem t_Words_linesWith : okT m_Words_linesWith k_Words_linesWith = true := by decide +kernel
def k_Words_lineOfPlace : List jO := [
  (.iload_n 1, 1, 1, 0, 0, 0, [], j0m), (.ifCond .lt 19, 3, 0, 20, 0, 0, [], j0m), j0, j0, (.iload_n 1, 1, 1, 0, 0, 0, [], j0m), (.sipush 300, 3, 0, 0, 0, 0, [], j0m), j0, j0, (.if_icmp .ge 12, 3, 0, 20, 0, 0, [], j0m), 
  j0, j0, (.aload_n 0, 1, 0, 0, 0, 0, [], j0m), (.getfield 24, 3, 10, 2, 0, 2, [1222], j0m), j0, j0, (.iload_n 1, 1, 1, 0, 0, 0, [], j0m), (.iaload, 1, 0, 0, 0, 0, [], j0m), (.goto 4, 3, 0, 21, 0, 0, [], j0m), 
  j0, j0, (.iconst (-1), 1, 0, 0, 0, 0, [], j0m), (.ireturn, 1, 0, 0, 0, 0, [], j0m)]
set_option maxRecDepth 20000 in
theorem t_Words_lineOfPlace : okT m_Words_lineOfPlace k_Words_lineOfPlace = true := by decide +kernel
def k_Book_beginsWith : List jO := [
  (.iload_n 1, 1, 1, 0, 0, 0, [], j0m), (.ifCond .lt 10, 3, 0, 11, 0, 0, [], j0m), j0, j0, (.iload_n 1, 1, 1, 0, 0, 0, [], j0m), (.sipush 600, 3, 0, 0, 0, 0, [], j0m), j0, j0, (.if_icmp .lt 5, 3, 0, 13, 0, 0, [], j0m), 
  j0, j0, (.iconst 0, 1, 0, 0, 0, 0, [], j0m), (.ireturn, 1, 0, 0, 1, 0, [], j0m), (.aload_n 2, 1, 2, 0, 0, 0, [], j0m), (.getfield 106, 3, 3, 2, 0, 2, [1204], j0m), j0, j0, (.invokestatic 109, 3, 0, 1, 0, 0, [6007, 6008, 1009, 6009], m_Key_firstBits), 
  j0, j0, (.lstore_n 3, 1, 3, 0, 0, 0, [], j0m), (.aload_n 2, 1, 2, 0, 0, 0, [], j0m), (.getfield 106, 3, 3, 2, 0, 2, [1204], j0m), j0, j0, (.bipush 10, 2, 0, 0, 0, 0, [], j0m), j0, (.isub, 1, 0, 0, 0, 0, [], j0m), 
  (.invokestatic 109, 3, 0, 1, 0, 0, [6007, 6008, 1009, 6009], m_Key_firstBits), j0, j0, (.lstore 5, 2, 5, 0, 0, 0, [], j0m), j0, (.aload_n 0, 1, 0, 0, 0, 0, [], j0m), (.getfield 24, 3, 1, 2, 0, 2, [2038], j0m), 
  j0, j0, (.getfield 79, 3, 4, 0, 0, 0, [1052], j0m), j0, j0, (.iload_n 1, 1, 1, 0, 0, 0, [], j0m), (.laload, 1, 0, 0, 0, 0, [], j0m), (.lload_n 3, 1, 3, 0, 0, 0, [], j0m), (.land, 1, 0, 0, 0, 0, [], j0m), 
  (.aload_n 2, 1, 2, 0, 0, 0, [], j0m), (.getfield 113, 3, 3, 0, 0, 0, [1193], j0m), j0, j0, (.lcmp, 1, 0, 0, 0, 0, [], j0m), (.ifCond .ne 27, 3, 0, 76, 0, 0, [], j0m), j0, j0, (.aload_n 0, 1, 0, 0, 0, 0, [], j0m), 
  (.getfield 24, 3, 1, 2, 0, 2, [2038], j0m), j0, j0, (.getfield 83, 3, 4, 1, 0, 1, [1058], j0m), j0, j0, (.iload_n 1, 1, 1, 0, 0, 0, [], j0m), (.laload, 1, 0, 0, 0, 0, [], j0m), (.lload 5, 2, 5, 0, 0, 0, [], j0m), 
  j0, (.land, 1, 0, 0, 0, 0, [], j0m), (.aload_n 2, 1, 2, 0, 0, 0, [], j0m), (.getfield 116, 3, 3, 1, 0, 1, [1199], j0m), j0, j0, (.lcmp, 1, 0, 0, 0, 0, [], j0m), (.ifCond .ne 7, 3, 0, 76, 0, 0, [], j0m), 
  j0, j0, (.iconst 1, 1, 0, 0, 0, 0, [], j0m), (.goto 4, 3, 0, 77, 0, 0, [], j0m), j0, j0, (.iconst 0, 1, 0, 0, 0, 0, [], j0m), (.ireturn, 1, 0, 0, 1, 0, [], j0m)]
set_option maxRecDepth 20000 in
theorem t_Book_beginsWith : okT m_Book_beginsWith k_Book_beginsWith = true := by decide +kernel
def k_Key_firstBits : List jO := [
  (.iconst 0, 1, 0, 0, 0, 0, [], j0m), (.bipush 10, 2, 0, 0, 0, 0, [], j0m), j0, (.iload_n 0, 1, 0, 0, 0, 0, [], j0m), (.invokestatic 32, 3, 0, 2, 1, 0, [6010, 3078, 1005, 3079], j0m), j0, j0, (.invokestatic 38, 3, 0, 2, 2, 0, [6011, 1049, 1005, 1050], j0m), 
  j0, j0, (.istore_n 1, 1, 1, 0, 0, 0, [], j0m), (.ldc2_w 41, 3, 0, 0, 0, 1125899906842623, [6012], j0m), j0, j0, (.lconst 1, 1, 0, 0, 0, 1, [], j0m), (.bipush 50, 2, 0, 0, 0, 0, [], j0m), j0, (.iconst 5, 1, 0, 0, 0, 0, [], j0m), 
  (.iload_n 1, 1, 1, 0, 0, 0, [], j0m), (.imul, 1, 0, 0, 0, 0, [], j0m), (.isub, 1, 0, 0, 0, 0, [], j0m), (.lshl, 1, 0, 0, 0, 0, [], j0m), (.lconst 1, 1, 0, 0, 0, 1, [], j0m), (.lsub, 1, 0, 0, 0, 0, [], j0m), 
  (.ldc2_w 43, 3, 0, 0, 0, (-1), [6013], j0m), j0, j0, (.lxor, 1, 0, 0, 0, 0, [], j0m), (.land, 1, 0, 0, 0, 0, [], j0m), (.lreturn, 1, 0, 0, 0, 0, [], j0m)]
set_option maxRecDepth 20000 in
theorem t_Key_firstBits : okT m_Key_firstBits k_Key_firstBits = true := by decide +kernel
def k_Image_slipCount : List jO := [
  (.iconst 0, 1, 0, 0, 0, 0, [], j0m), (.istore_n 1, 1, 1, 0, 0, 0, [], j0m), (.iconst 0, 1, 0, 0, 0, 0, [], j0m), (.istore_n 2, 1, 2, 0, 0, 0, [], j0m), (.iload_n 2, 1, 2, 0, 0, 0, [], j0m), (.iconst 4, 1, 0, 0, 0, 0, [], j0m), 
  (.if_icmp .ge 41, 3, 0, 47, 0, 0, [], j0m), j0, j0, (.iconst 0, 1, 0, 0, 0, 0, [], j0m), (.istore_n 3, 1, 3, 0, 0, 0, [], j0m), (.iload_n 3, 1, 3, 0, 0, 0, [], j0m), (.sipush 300, 3, 0, 0, 0, 0, [], j0m), 
  j0, j0, (.if_icmp .ge 26, 3, 0, 41, 0, 0, [], j0m), j0, j0, (.iload_n 1, 1, 1, 0, 0, 0, [], j0m), (.aload_n 0, 1, 0, 0, 0, 0, [], j0m), (.iload_n 2, 1, 2, 0, 0, 0, [], j0m), (.iload_n 3, 1, 3, 0, 0, 0, [], j0m), 
  (.invokevirtual 112, 3, 2, 3, 1, 0, [6034, 5187, 5188, 1002, 5189], m_Image_hasSlip), j0, j0, (.ifCond .eq 7, 3, 0, 32, 0, 0, [], j0m), j0, j0, (.iconst 1, 1, 0, 0, 0, 0, [], j0m), (.goto 4, 3, 0, 33, 0, 0, [], j0m), 
  j0, j0, (.iconst 0, 1, 0, 0, 0, 0, [], j0m), (.iadd, 1, 0, 0, 0, 0, [], j0m), (.istore_n 1, 1, 1, 0, 0, 0, [], j0m), (.iinc 3 1, 3, 3, 0, 0, 0, [], j0m), j0, j0, (.goto (-27), 3, 0, 11, 0, 0, [], j0m), 
  j0, j0, (.iinc 2 1, 3, 2, 0, 0, 0, [], j0m), j0, j0, (.goto (-40), 3, 0, 4, 0, 0, [], j0m), j0, j0, (.iload_n 1, 1, 1, 0, 0, 0, [], j0m), (.ireturn, 1, 0, 0, 0, 0, [], j0m)]
set_option maxRecDepth 20000 in
theorem t_Image_slipCount : okT m_Image_slipCount k_Image_slipCount = true := by decide +kernel
def k_Slots_filled : List jO := [
  (.iconst 0, 1, 0, 0, 0, 0, [], j0m), (.istore_n 1, 1, 1, 0, 0, 0, [], j0m), (.iconst 0, 1, 0, 0, 0, 0, [], j0m), (.istore_n 2, 1, 2, 0, 0, 0, [], j0m), (.iload_n 2, 1, 2, 0, 0, 0, [], j0m), (.iconst 4, 1, 0, 0, 0, 0, [], j0m), 
  (.if_icmp .ge 25, 3, 0, 31, 0, 0, [], j0m), j0, j0, (.iload_n 1, 1, 1, 0, 0, 0, [], j0m), (.aload_n 0, 1, 0, 0, 0, 0, [], j0m), (.iload_n 2, 1, 2, 0, 0, 0, [], j0m), (.invokevirtual 36, 3, 8, 2, 1, 0, [4098, 4086, 4087, 1014, 4088], m_Slots_isEmpty), 
  j0, j0, (.ifCond .eq 7, 3, 0, 22, 0, 0, [], j0m), j0, j0, (.iconst 0, 1, 0, 0, 0, 0, [], j0m), (.goto 4, 3, 0, 23, 0, 0, [], j0m), j0, j0, (.iconst 1, 1, 0, 0, 0, 0, [], j0m), (.iadd, 1, 0, 0, 0, 0, [], j0m), 
  (.istore_n 1, 1, 1, 0, 0, 0, [], j0m), (.iinc 2 1, 3, 2, 0, 0, 0, [], j0m), j0, j0, (.goto (-24), 3, 0, 4, 0, 0, [], j0m), j0, j0, (.iload_n 1, 1, 1, 0, 0, 0, [], j0m), (.ireturn, 1, 0, 0, 0, 0, [], j0m)
  ]
set_option maxRecDepth 20000 in
theorem t_Slots_filled : okT m_Slots_filled k_Slots_filled = true := by decide +kernel
def k_Image_copyFrom : List jO := [
  (.aload_n 0, 1, 0, 0, 0, 0, [], j0m), (.getfield 12, 3, 2, 0, 0, 0, [1140], j0m), j0, j0, (.aload_n 1, 1, 1, 0, 0, 0, [], j0m), (.getfield 12, 3, 2, 0, 0, 0, [1140], j0m), j0, j0, (.invokevirtual 44, 3, 7, 2, 1, 0, [6047, 4002, 4003, 1003, 4004], m_Rules_copyFrom), 
  j0, j0, (.aload_n 1, 1, 1, 0, 0, 0, [], j0m), (.getfield 18, 3, 2, 1, 0, 1, [1144], j0m), j0, j0, (.iconst 0, 1, 0, 0, 0, 0, [], j0m), (.aload_n 0, 1, 0, 0, 0, 0, [], j0m), (.getfield 18, 3, 2, 1, 0, 1, [1144], j0m), 
  j0, j0, (.iconst 0, 1, 0, 0, 0, 0, [], j0m), (.sipush 4800, 3, 0, 0, 0, 0, [], j0m), j0, j0, (.invokestatic 48, 3, 2, 5, 3, 0, [4064, 4007, 4006, 1020], j0m), j0, j0, (.aload_n 1, 1, 1, 0, 0, 0, [], j0m), 
  (.getfield 22, 3, 2, 2, 0, 2, [1146], j0m), j0, j0, (.iconst 0, 1, 0, 0, 0, 0, [], j0m), (.aload_n 0, 1, 0, 0, 0, 0, [], j0m), (.getfield 22, 3, 2, 2, 0, 2, [1146], j0m), j0, j0, (.iconst 0, 1, 0, 0, 0, 0, [], j0m), 
  (.bipush 80, 2, 0, 0, 0, 0, [], j0m), j0, (.invokestatic 48, 3, 1, 5, 3, 0, [4064, 4007, 4006, 1020], j0m), j0, j0, (.aload_n 1, 1, 1, 0, 0, 0, [], j0m), (.getfield 26, 3, 2, 3, 0, 3, [1148], j0m), j0, 
  j0, (.iconst 0, 1, 0, 0, 0, 0, [], j0m), (.aload_n 0, 1, 0, 0, 0, 0, [], j0m), (.getfield 26, 3, 2, 3, 0, 3, [1148], j0m), j0, j0, (.iconst 0, 1, 0, 0, 0, 0, [], j0m), (.bipush 80, 2, 0, 0, 0, 0, [], j0m), 
  j0, (.invokestatic 48, 3, 1, 5, 3, 0, [4064, 4007, 4006, 1020], j0m), j0, j0, (.aload_n 1, 1, 1, 0, 0, 0, [], j0m), (.getfield 29, 3, 2, 4, 0, 4, [1149], j0m), j0, j0, (.iconst 0, 1, 0, 0, 0, 0, [], j0m), 
  (.aload_n 0, 1, 0, 0, 0, 0, [], j0m), (.getfield 29, 3, 2, 4, 0, 4, [1149], j0m), j0, j0, (.iconst 0, 1, 0, 0, 0, 0, [], j0m), (.bipush 80, 2, 0, 0, 0, 0, [], j0m), j0, (.invokestatic 48, 3, 2, 5, 3, 0, [4064, 4007, 4006, 1020], j0m), 
  j0, j0, (.aload_n 1, 1, 1, 0, 0, 0, [], j0m), (.getfield 32, 3, 2, 5, 0, 5, [1150], j0m), j0, j0, (.iconst 0, 1, 0, 0, 0, 0, [], j0m), (.aload_n 0, 1, 0, 0, 0, 0, [], j0m), (.getfield 32, 3, 2, 5, 0, 5, [1150], j0m), 
  j0, j0, (.iconst 0, 1, 0, 0, 0, 0, [], j0m), (.iconst 2, 1, 0, 0, 0, 0, [], j0m), (.invokestatic 48, 3, 1, 5, 3, 0, [4064, 4007, 4006, 1020], j0m), j0, j0, (.aload_n 0, 1, 0, 0, 0, 0, [], j0m), (.getfield 40, 3, 2, 6, 0, 6, [1151], j0m), 
  j0, j0, (.aload_n 1, 1, 1, 0, 0, 0, [], j0m), (.getfield 40, 3, 2, 6, 0, 6, [1151], j0m), j0, j0, (.invokevirtual 54, 3, 4, 2, 1, 0, [6048, 4009, 4010, 1004, 4011], m_KeyRow_copyFrom), j0, j0, (.return_, 1, 0, 0, 0, 0, [], j0m)
  ]
set_option maxRecDepth 20000 in
theorem t_Image_copyFrom : okT m_Image_copyFrom k_Image_copyFrom = true := by decide +kernel
def k_Slots_make : List jO := [
  (.aload_n 0, 1, 0, 0, 0, 0, [], j0m), (.iload_n 1, 1, 1, 0, 0, 0, [], j0m), (.invokevirtual 32, 3, 8, 2, 1, 0, [4089, 4082, 4083, 1014, 4084], m_Slots_isSlot), j0, j0, (.ifCond .eq 13, 3, 0, 18, 0, 0, [], j0m), 
  j0, j0, (.iload_n 3, 1, 3, 0, 0, 0, [], j0m), (.ifCond .lt 9, 3, 0, 18, 0, 0, [], j0m), j0, j0, (.iload_n 3, 1, 3, 0, 0, 0, [], j0m), (.bipush 60, 2, 0, 0, 0, 0, [], j0m), j0, (.if_icmp .le 4, 3, 0, 19, 0, 0, [], j0m), 
  j0, j0, (.return_, 1, 0, 0, 0, 0, [], j0m), (.aload_n 0, 1, 0, 0, 0, 0, [], j0m), (.getfield 15, 3, 8, 1, 0, 1, [2214], j0m), j0, j0, (.iload_n 1, 1, 1, 0, 0, 0, [], j0m), (.iload_n 2, 1, 2, 0, 0, 0, [], j0m), 
  (.iastore, 1, 0, 0, 0, 0, [], j0m), (.aload_n 0, 1, 0, 0, 0, 0, [], j0m), (.getfield 19, 3, 8, 2, 0, 2, [2215], j0m), j0, j0, (.iload_n 1, 1, 1, 0, 0, 0, [], j0m), (.iload_n 3, 1, 3, 0, 0, 0, [], j0m), 
  (.iastore, 1, 0, 0, 0, 0, [], j0m), (.aload_n 0, 1, 0, 0, 0, 0, [], j0m), (.getfield 9, 3, 8, 0, 0, 0, [2213], j0m), j0, j0, (.iload_n 1, 1, 1, 0, 0, 0, [], j0m), (.bipush 60, 2, 0, 0, 0, 0, [], j0m), 
  j0, (.imul, 1, 0, 0, 0, 0, [], j0m), (.iload_n 1, 1, 1, 0, 0, 0, [], j0m), (.bipush 60, 2, 0, 0, 0, 0, [], j0m), j0, (.imul, 1, 0, 0, 0, 0, [], j0m), (.iload_n 3, 1, 3, 0, 0, 0, [], j0m), (.iadd, 1, 0, 0, 0, 0, [], j0m), 
  (.lconst 0, 1, 0, 0, 0, 0, [], j0m), (.invokestatic 39, 3, 0, 4, 0, 0, [6061, 6062, 1006, 6063], m_Arrays_fill4), j0, j0, (.return_, 1, 0, 0, 0, 0, [], j0m)]
set_option maxRecDepth 20000 in
theorem t_Slots_make : okT m_Slots_make k_Slots_make = true := by decide +kernel
def k_Slots_put : List jO := [
  (.aload_n 0, 1, 0, 0, 0, 0, [], j0m), (.iload_n 1, 1, 1, 0, 0, 0, [], j0m), (.invokevirtual 36, 3, 8, 2, 1, 0, [4098, 4086, 4087, 1014, 4088], m_Slots_isEmpty), j0, j0, (.ifCond .ne 17, 3, 0, 22, 0, 0, [], j0m), 
  j0, j0, (.iload_n 2, 1, 2, 0, 0, 0, [], j0m), (.ifCond .lt 13, 3, 0, 22, 0, 0, [], j0m), j0, j0, (.iload_n 2, 1, 2, 0, 0, 0, [], j0m), (.aload_n 0, 1, 0, 0, 0, 0, [], j0m), (.getfield 19, 3, 8, 2, 0, 2, [2215], j0m), 
  j0, j0, (.iload_n 1, 1, 1, 0, 0, 0, [], j0m), (.iaload, 1, 0, 0, 0, 0, [], j0m), (.if_icmp .lt 5, 3, 0, 24, 0, 0, [], j0m), j0, j0, (.iconst 0, 1, 0, 0, 0, 0, [], j0m), (.ireturn, 1, 0, 0, 1, 0, [], j0m), 
  (.aload_n 0, 1, 0, 0, 0, 0, [], j0m), (.getfield 9, 3, 8, 0, 0, 0, [2213], j0m), j0, j0, (.iload_n 1, 1, 1, 0, 0, 0, [], j0m), (.bipush 60, 2, 0, 0, 0, 0, [], j0m), j0, (.imul, 1, 0, 0, 0, 0, [], j0m), 
  (.iload_n 2, 1, 2, 0, 0, 0, [], j0m), (.iadd, 1, 0, 0, 0, 0, [], j0m), (.lload_n 3, 1, 3, 0, 0, 0, [], j0m), (.aload_n 0, 1, 0, 0, 0, 0, [], j0m), (.getfield 15, 3, 8, 1, 0, 1, [2214], j0m), j0, j0, 
  (.iload_n 1, 1, 1, 0, 0, 0, [], j0m), (.iaload, 1, 0, 0, 0, 0, [], j0m), (.invokestatic 42, 3, 0, 2, 0, 0, [6075, 6076, 1014, 6077], m_Slots_cut), j0, j0, (.lastore, 1, 0, 0, 0, 0, [], j0m), (.iconst 1, 1, 0, 0, 0, 0, [], j0m), 
  (.ireturn, 1, 0, 0, 1, 0, [], j0m)]
set_option maxRecDepth 20000 in
theorem t_Slots_put : okT m_Slots_put k_Slots_put = true := by decide +kernel
def k_Slots_cut : List jO := [
  (.iload_n 2, 1, 2, 0, 0, 0, [], j0m), (.tableswitch 41 0 2 #[27, 32, 37], 27, 0, 0, 0, 0, [], j0m), j0, j0, j0, j0, j0, j0, j0, j0, j0, j0, j0, j0, j0, j0, j0, j0, j0, j0, j0, j0, j0, j0, j0, j0, j0, 
  j0, (.lload_n 0, 1, 0, 0, 0, 0, [], j0m), (.l2i, 1, 0, 0, 0, 0, [], j0m), (.i2b, 1, 0, 0, 0, 0, [], j0m), (.i2l, 1, 0, 0, 0, 0, [], j0m), (.lreturn, 1, 0, 0, 0, 0, [], j0m), (.lload_n 0, 1, 0, 0, 0, 0, [], j0m), 
  (.l2i, 1, 0, 0, 0, 0, [], j0m), (.i2s, 1, 0, 0, 0, 0, [], j0m), (.i2l, 1, 0, 0, 0, 0, [], j0m), (.lreturn, 1, 0, 0, 0, 0, [], j0m), (.lload_n 0, 1, 0, 0, 0, 0, [], j0m), (.l2i, 1, 0, 0, 0, 0, [], j0m), 
  (.i2l, 1, 0, 0, 0, 0, [], j0m), (.lreturn, 1, 0, 0, 0, 0, [], j0m), (.lload_n 0, 1, 0, 0, 0, 0, [], j0m), (.lreturn, 1, 0, 0, 0, 0, [], j0m)]
set_option maxRecDepth 20000 in
theorem t_Slots_cut : okT m_Slots_cut k_Slots_cut = true := by decide +kernel
def k_Slots_move : List jO := [
  (.aload_n 0, 1, 0, 0, 0, 0, [], j0m), (.iload_n 1, 1, 1, 0, 0, 0, [], j0m), (.iload_n 2, 1, 2, 0, 0, 0, [], j0m), (.iload 5, 2, 5, 0, 0, 0, [], j0m), j0, (.invokevirtual 46, 3, 8, 4, 1, 0, [6086, 6088, 52, 1014, 6089], m_Slots_hasAll), 
  j0, j0, (.ifCond .eq 15, 3, 0, 23, 0, 0, [], j0m), j0, j0, (.aload_n 0, 1, 0, 0, 0, 0, [], j0m), (.iload_n 3, 1, 3, 0, 0, 0, [], j0m), (.iload 4, 2, 4, 0, 0, 0, [], j0m), j0, (.iload 5, 2, 5, 0, 0, 0, [], j0m), 
  j0, (.invokevirtual 46, 3, 8, 4, 1, 0, [6086, 6088, 52, 1014, 6089], m_Slots_hasAll), j0, j0, (.ifCond .ne 5, 3, 0, 25, 0, 0, [], j0m), j0, j0, (.iconst 0, 1, 0, 0, 0, 0, [], j0m), (.ireturn, 1, 0, 0, 1, 0, [], j0m), 
  (.aload_n 0, 1, 0, 0, 0, 0, [], j0m), (.getfield 9, 3, 8, 0, 0, 0, [2213], j0m), j0, j0, (.iload_n 1, 1, 1, 0, 0, 0, [], j0m), (.bipush 60, 2, 0, 0, 0, 0, [], j0m), j0, (.imul, 1, 0, 0, 0, 0, [], j0m), 
  (.iload_n 2, 1, 2, 0, 0, 0, [], j0m), (.iadd, 1, 0, 0, 0, 0, [], j0m), (.aload_n 0, 1, 0, 0, 0, 0, [], j0m), (.getfield 9, 3, 8, 0, 0, 0, [2213], j0m), j0, j0, (.iload_n 3, 1, 3, 0, 0, 0, [], j0m), (.bipush 60, 2, 0, 0, 0, 0, [], j0m), 
  j0, (.imul, 1, 0, 0, 0, 0, [], j0m), (.iload 4, 2, 4, 0, 0, 0, [], j0m), j0, (.iadd, 1, 0, 0, 0, 0, [], j0m), (.iload 5, 2, 5, 0, 0, 0, [], j0m), j0, (.invokestatic 50, 3, 4, 5, 3, 0, [6090, 4007, 4006, 1020], j0m), 
  j0, j0, (.iconst 1, 1, 0, 0, 0, 0, [], j0m), (.ireturn, 1, 0, 0, 1, 0, [], j0m)]
set_option maxRecDepth 20000 in
theorem t_Slots_move : okT m_Slots_move k_Slots_move = true := by decide +kernel
def k_Slots_hasAll : List jO := [
  (.aload_n 0, 1, 0, 0, 0, 0, [], j0m), (.iload_n 1, 1, 1, 0, 0, 0, [], j0m), (.invokevirtual 36, 3, 8, 2, 1, 0, [4098, 4086, 4087, 1014, 4088], m_Slots_isEmpty), j0, j0, (.ifCond .ne 37, 3, 0, 42, 0, 0, [], j0m), 
  j0, j0, (.iload_n 2, 1, 2, 0, 0, 0, [], j0m), (.ifCond .lt 33, 3, 0, 42, 0, 0, [], j0m), j0, j0, (.iload_n 3, 1, 3, 0, 0, 0, [], j0m), (.ifCond .lt 29, 3, 0, 42, 0, 0, [], j0m), j0, j0, (.iload_n 2, 1, 2, 0, 0, 0, [], j0m), 
  (.aload_n 0, 1, 0, 0, 0, 0, [], j0m), (.getfield 19, 3, 8, 2, 0, 2, [2215], j0m), j0, j0, (.iload_n 1, 1, 1, 0, 0, 0, [], j0m), (.iaload, 1, 0, 0, 0, 0, [], j0m), (.if_icmp .gt 19, 3, 0, 42, 0, 0, [], j0m), 
  j0, j0, (.iload_n 3, 1, 3, 0, 0, 0, [], j0m), (.aload_n 0, 1, 0, 0, 0, 0, [], j0m), (.getfield 19, 3, 8, 2, 0, 2, [2215], j0m), j0, j0, (.iload_n 1, 1, 1, 0, 0, 0, [], j0m), (.iaload, 1, 0, 0, 0, 0, [], j0m), 
  (.iload_n 2, 1, 2, 0, 0, 0, [], j0m), (.isub, 1, 0, 0, 0, 0, [], j0m), (.if_icmp .gt 7, 3, 0, 42, 0, 0, [], j0m), j0, j0, (.iconst 1, 1, 0, 0, 0, 0, [], j0m), (.goto 4, 3, 0, 43, 0, 0, [], j0m), j0, 
  j0, (.iconst 0, 1, 0, 0, 0, 0, [], j0m), (.ireturn, 1, 0, 0, 1, 0, [], j0m)]
set_option maxRecDepth 20000 in
theorem t_Slots_hasAll : okT m_Slots_hasAll k_Slots_hasAll = true := by decide +kernel

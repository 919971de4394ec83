/-! Code tables -/
def k_Image_init : List jO := [
  (.aload_n 0, 1, 0, 0, 0, 0, [], j0m), (.invokespecial 3, 3, 0, 1, 0, 0, [1035, 1028, 1029], j0m), j0, j0, (.aload_n 0, 1, 0, 0, 0, 0, [], j0m), (.new 9, 3, 7, 12, 0, 0, [1036, 1037, 1003], j0m), j0, 
  j0, (.dup, 1, 0, 0, 0, 0, [], j0m), (.invokespecial 11, 3, 13, 1, 1, 344, [1038, 1003, 1039, 1040], m_Rules_init), j0, j0, (.putfield 12, 3, 2, 0, 0, 0, [1140], j0m), j0, j0, (.aload_n 0, 1, 0, 0, 0, 0, [], j0m), 
  (.sipush 4800, 3, 0, 0, 0, 0, [], j0m), j0, j0, (.newarray .byte, 2, 0, 0, 2, 0, [1068], j0m), j0, (.putfield 18, 3, 2, 1, 0, 1, [1144], j0m), j0, j0, (.aload_n 0, 1, 0, 0, 0, 0, [], j0m), (.bipush 80, 2, 0, 0, 0, 0, [], j0m), 
  j0, (.newarray .int, 2, 0, 0, 1, 0, [1137], j0m), j0, (.putfield 22, 3, 2, 2, 0, 2, [1145], j0m), j0, j0, (.aload_n 0, 1, 0, 0, 0, 0, [], j0m), (.bipush 80, 2, 0, 0, 0, 0, [], j0m), j0, (.newarray .int, 2, 0, 0, 1, 0, [1137], j0m), 
  j0, (.putfield 26, 3, 2, 3, 0, 3, [1146], j0m), j0, j0, (.aload_n 0, 1, 0, 0, 0, 0, [], j0m), (.bipush 80, 2, 0, 0, 0, 0, [], j0m), j0, (.newarray .byte, 2, 0, 0, 2, 0, [1068], j0m), j0, (.putfield 29, 3, 2, 4, 0, 4, [1147], j0m), 
  j0, j0, (.aload_n 0, 1, 0, 0, 0, 0, [], j0m), (.iconst 2, 1, 0, 0, 0, 0, [], j0m), (.newarray .int, 2, 0, 0, 1, 0, [1137], j0m), j0, (.putfield 32, 3, 2, 5, 0, 5, [1148], j0m), j0, j0, (.aload_n 0, 1, 0, 0, 0, 0, [], j0m), 
  (.new 35, 3, 4, 2, 0, 0, [1138, 1043, 1004], j0m), j0, j0, (.dup, 1, 0, 0, 0, 0, [], j0m), (.sipush 1200, 3, 0, 0, 0, 0, [], j0m), j0, j0, (.invokespecial 37, 3, 2, 2, 1, 2400, [1139, 1004, 1045, 1046], m_KeyRow_init), 
  j0, j0, (.putfield 40, 3, 2, 6, 0, 6, [1149], j0m), j0, j0, (.return_, 1, 0, 0, 0, 0, [], j0m)]
set_option maxRecDepth 20000 in
theorem t_Image_init : okT m_Image_init k_Image_init = true := by decide +kernel
def k_Rules_init : List jO := [
  (.aload_n 0, 1, 0, 0, 0, 0, [], j0m), (.invokespecial 3, 3, 0, 1, 0, 0, [1041, 1028, 1029], j0m), j0, j0, (.aload_n 0, 1, 0, 0, 0, 0, [], j0m), (.iconst 0, 1, 0, 0, 0, 0, [], j0m), (.putfield 9, 3, 7, 0, 0, 0, [1077], j0m), 
  j0, j0, (.aload_n 0, 1, 0, 0, 0, 0, [], j0m), (.bipush 26, 2, 0, 0, 0, 0, [], j0m), j0, (.newarray .byte, 2, 0, 0, 2, 0, [1068], j0m), j0, (.putfield 15, 3, 7, 1, 0, 1, [1080], j0m), j0, j0, (.aload_n 0, 1, 0, 0, 0, 0, [], j0m), 
  (.bipush 26, 2, 0, 0, 0, 0, [], j0m), j0, (.newarray .byte, 2, 0, 0, 2, 0, [1068], j0m), j0, (.putfield 19, 3, 7, 2, 0, 2, [1086], j0m), j0, j0, (.aload_n 0, 1, 0, 0, 0, 0, [], j0m), (.iconst 0, 1, 0, 0, 0, 0, [], j0m), 
  (.putfield 22, 3, 7, 3, 0, 3, [1088], j0m), j0, j0, (.aload_n 0, 1, 0, 0, 0, 0, [], j0m), (.new 25, 3, 4, 2, 0, 0, [1042, 1043, 1004], j0m), j0, j0, (.dup, 1, 0, 0, 0, 0, [], j0m), (.bipush 20, 2, 0, 0, 0, 0, [], j0m), 
  j0, (.invokespecial 27, 3, 2, 2, 1, 40, [1044, 1004, 1045, 1046], m_KeyRow_init), j0, j0, (.putfield 30, 3, 7, 4, 0, 4, [1091], j0m), j0, j0, (.aload_n 0, 1, 0, 0, 0, 0, [], j0m), (.iconst 0, 1, 0, 0, 0, 0, [], j0m), 
  (.putfield 34, 3, 7, 5, 0, 5, [1093], j0m), j0, j0, (.aload_n 0, 1, 0, 0, 0, 0, [], j0m), (.new 25, 3, 4, 2, 0, 0, [1042, 1043, 1004], j0m), j0, j0, (.dup, 1, 0, 0, 0, 0, [], j0m), (.bipush 20, 2, 0, 0, 0, 0, [], j0m), 
  j0, (.invokespecial 27, 3, 2, 2, 1, 40, [1044, 1004, 1045, 1046], m_KeyRow_init), j0, j0, (.putfield 37, 3, 7, 6, 0, 6, [1096], j0m), j0, j0, (.aload_n 0, 1, 0, 0, 0, 0, [], j0m), (.iconst 0, 1, 0, 0, 0, 0, [], j0m), 
  (.putfield 40, 3, 7, 7, 0, 7, [1098], j0m), j0, j0, (.aload_n 0, 1, 0, 0, 0, 0, [], j0m), (.new 25, 3, 4, 2, 0, 0, [1042, 1043, 1004], j0m), j0, j0, (.dup, 1, 0, 0, 0, 0, [], j0m), (.bipush 80, 2, 0, 0, 0, 0, [], j0m), 
  j0, (.invokespecial 27, 3, 2, 2, 1, 160, [1044, 1004, 1045, 1046], m_KeyRow_init), j0, j0, (.putfield 43, 3, 7, 8, 0, 8, [1101], j0m), j0, j0, (.aload_n 0, 1, 0, 0, 0, 0, [], j0m), (.bipush 20, 2, 0, 0, 0, 0, [], j0m), 
  j0, (.newarray .int, 2, 0, 0, 1, 0, [1137], j0m), j0, (.putfield 46, 3, 7, 9, 0, 9, [1104], j0m), j0, j0, (.aload_n 0, 1, 0, 0, 0, 0, [], j0m), (.bipush 26, 2, 0, 0, 0, 0, [], j0m), j0, (.newarray .byte, 2, 0, 0, 2, 0, [1068], j0m), 
  j0, (.putfield 50, 3, 7, 10, 0, 10, [1107], j0m), j0, j0, (.aload_n 0, 1, 0, 0, 0, 0, [], j0m), (.iconst 0, 1, 0, 0, 0, 0, [], j0m), (.putfield 53, 3, 7, 11, 0, 11, [1110], j0m), j0, j0, (.aload_n 0, 1, 0, 0, 0, 0, [], j0m), 
  (.invokevirtual 57, 3, 7, 1, 1, 0, [1070, 1071, 1072, 1003, 1073], m_Rules_clear), j0, j0, (.return_, 1, 0, 0, 0, 0, [], j0m)]
set_option maxRecDepth 20000 in
theorem t_Rules_init : okT m_Rules_init k_Rules_init = true := by decide +kernel
def k_KeyRow_init : List jO := [
  (.aload_n 0, 1, 0, 0, 0, 0, [], j0m), (.invokespecial 1, 3, 0, 1, 0, 0, [1047, 1028, 1029], j0m), j0, j0, (.iconst 0, 1, 0, 0, 0, 0, [], j0m), (.iload_n 1, 1, 1, 0, 0, 0, [], j0m), (.invokestatic 7, 3, 0, 2, 2, 0, [1048, 1049, 1005, 1050], j0m), 
  j0, j0, (.istore_n 2, 1, 2, 0, 0, 0, [], j0m), (.aload_n 0, 1, 0, 0, 0, 0, [], j0m), (.iload_n 2, 1, 2, 0, 0, 0, [], j0m), (.newarray .long, 2, 0, 0, 4, 0, [1069], j0m), j0, (.putfield 13, 3, 4, 0, 0, 0, [1051], j0m), 
  j0, j0, (.aload_n 0, 1, 0, 0, 0, 0, [], j0m), (.iload_n 2, 1, 2, 0, 0, 0, [], j0m), (.newarray .long, 2, 0, 0, 4, 0, [1069], j0m), j0, (.putfield 19, 3, 4, 1, 0, 1, [1057], j0m), j0, j0, (.return_, 1, 0, 0, 0, 0, [], j0m)
  ]
set_option maxRecDepth 20000 in
theorem t_KeyRow_init : okT m_KeyRow_init k_KeyRow_init = true := by decide +kernel
def k_Rules_clear : List jO := [
  (.aload_n 0, 1, 0, 0, 0, 0, [], j0m), (.iconst 0, 1, 0, 0, 0, 0, [], j0m), (.putfield 9, 3, 7, 0, 0, 0, [1077], j0m), j0, j0, (.aload_n 0, 1, 0, 0, 0, 0, [], j0m), (.iconst 0, 1, 0, 0, 0, 0, [], j0m), 
  (.putfield 22, 3, 7, 3, 0, 3, [1088], j0m), j0, j0, (.aload_n 0, 1, 0, 0, 0, 0, [], j0m), (.iconst 0, 1, 0, 0, 0, 0, [], j0m), (.putfield 34, 3, 7, 5, 0, 5, [1093], j0m), j0, j0, (.aload_n 0, 1, 0, 0, 0, 0, [], j0m), 
  (.iconst 0, 1, 0, 0, 0, 0, [], j0m), (.putfield 40, 3, 7, 7, 0, 7, [1098], j0m), j0, j0, (.aload_n 0, 1, 0, 0, 0, 0, [], j0m), (.iconst 0, 1, 0, 0, 0, 0, [], j0m), (.putfield 53, 3, 7, 11, 0, 11, [1110], j0m), 
  j0, j0, (.iconst 0, 1, 0, 0, 0, 0, [], j0m), (.istore_n 1, 1, 1, 0, 0, 0, [], j0m), (.iload_n 1, 1, 1, 0, 0, 0, [], j0m), (.bipush 26, 2, 0, 0, 0, 0, [], j0m), j0, (.if_icmp .ge 32, 3, 0, 62, 0, 0, [], j0m), 
  j0, j0, (.aload_n 0, 1, 0, 0, 0, 0, [], j0m), (.getfield 15, 3, 7, 1, 0, 1, [1080], j0m), j0, j0, (.iload_n 1, 1, 1, 0, 0, 0, [], j0m), (.iload_n 1, 1, 1, 0, 0, 0, [], j0m), (.i2b, 1, 0, 0, 0, 0, [], j0m), 
  (.bastore, 1, 0, 0, 2, 0, [], j0m), (.aload_n 0, 1, 0, 0, 0, 0, [], j0m), (.getfield 50, 3, 7, 10, 0, 10, [1107], j0m), j0, j0, (.iload_n 1, 1, 1, 0, 0, 0, [], j0m), (.iload_n 1, 1, 1, 0, 0, 0, [], j0m), 
  (.i2b, 1, 0, 0, 0, 0, [], j0m), (.bastore, 1, 0, 0, 2, 0, [], j0m), (.aload_n 0, 1, 0, 0, 0, 0, [], j0m), (.getfield 19, 3, 7, 2, 0, 2, [1086], j0m), j0, j0, (.iload_n 1, 1, 1, 0, 0, 0, [], j0m), (.iconst 0, 1, 0, 0, 0, 0, [], j0m), 
  (.bastore, 1, 0, 0, 2, 0, [], j0m), (.iinc 1 1, 3, 1, 0, 0, 0, [], j0m), j0, j0, (.goto (-32), 3, 0, 27, 0, 0, [], j0m), j0, j0, (.aload_n 0, 1, 0, 0, 0, 0, [], j0m), (.getfield 46, 3, 7, 9, 0, 9, [1104], j0m), 
  j0, j0, (.iconst 0, 1, 0, 0, 0, 0, [], j0m), (.invokestatic 60, 3, 0, 2, 0, 0, [1074, 1075, 1006, 1076], m_Arrays_fill), j0, j0, (.return_, 1, 0, 0, 0, 0, [], j0m)]
set_option maxRecDepth 20000 in
theorem t_Rules_clear : okT m_Rules_clear k_Rules_clear = true := by decide +kernel
def k_Book_init : List jO := [
  (.aload_n 0, 1, 0, 0, 0, 0, [], j0m), (.invokespecial 3, 3, 0, 1, 0, 0, [1172, 1028, 1029], j0m), j0, j0, (.aload_n 0, 1, 0, 0, 0, 0, [], j0m), (.iconst 0, 1, 0, 0, 0, 0, [], j0m), (.putfield 9, 3, 1, 0, 0, 0, [2031], j0m), 
  j0, j0, (.aload_n 0, 1, 0, 0, 0, 0, [], j0m), (.iconst 0, 1, 0, 0, 0, 0, [], j0m), (.putfield 15, 3, 1, 1, 0, 1, [2033], j0m), j0, j0, (.aload_n 0, 1, 0, 0, 0, 0, [], j0m), (.new 19, 3, 4, 2, 0, 0, [1173, 1043, 1004], j0m), 
  j0, j0, (.dup, 1, 0, 0, 0, 0, [], j0m), (.sipush 600, 3, 0, 0, 0, 0, [], j0m), j0, j0, (.invokespecial 21, 3, 2, 2, 1, 1200, [1174, 1004, 1045, 1046], m_KeyRow_init), j0, j0, (.putfield 24, 3, 1, 2, 0, 2, [2036], j0m), 
  j0, j0, (.aload_n 0, 1, 0, 0, 0, 0, [], j0m), (.sipush 600, 3, 0, 0, 0, 0, [], j0m), j0, j0, (.newarray .int, 2, 0, 0, 1, 0, [1137], j0m), j0, (.putfield 28, 3, 1, 3, 0, 3, [2039], j0m), j0, j0, (.aload_n 0, 1, 0, 0, 0, 0, [], j0m), 
  (.new 19, 3, 4, 2, 0, 0, [1173, 1043, 1004], j0m), j0, j0, (.dup, 1, 0, 0, 0, 0, [], j0m), (.sipush 600, 3, 0, 0, 0, 0, [], j0m), j0, j0, (.invokespecial 21, 3, 2, 2, 1, 1200, [1174, 1004, 1045, 1046], m_KeyRow_init), 
  j0, j0, (.putfield 32, 3, 1, 4, 0, 4, [2041], j0m), j0, j0, (.aload_n 0, 1, 0, 0, 0, 0, [], j0m), (.new 35, 3, 10, 14, 0, 0, [1175, 1176, 1008], j0m), j0, j0, (.dup, 1, 0, 0, 0, 0, [], j0m), (.invokespecial 37, 3, 14, 1, 2, 3985, [1008, 1178, 1179], m_Words_init), 
  j0, j0, (.putfield 38, 3, 1, 5, 0, 5, [2042], j0m), j0, j0, (.aload_n 0, 1, 0, 0, 0, 0, [], j0m), (.new 35, 3, 10, 14, 0, 0, [1175, 1176, 1008], j0m), j0, j0, (.dup, 1, 0, 0, 0, 0, [], j0m), (.invokespecial 37, 3, 14, 1, 2, 3985, [1008, 1178, 1179], m_Words_init), 
  j0, j0, (.putfield 42, 3, 1, 6, 0, 6, [2043], j0m), j0, j0, (.return_, 1, 0, 0, 0, 0, [], j0m)]
set_option maxRecDepth 20000 in
theorem t_Book_init : okT m_Book_init k_Book_init = true := by decide +kernel
def k_Words_init : List jO := [
  (.aload_n 0, 1, 0, 0, 0, 0, [], j0m), (.invokespecial 3, 3, 0, 1, 0, 0, [1180, 1028, 1029], j0m), j0, j0, (.aload_n 0, 1, 0, 0, 0, 0, [], j0m), (.iconst 0, 1, 0, 0, 0, 0, [], j0m), (.putfield 9, 3, 10, 0, 0, 0, [1211], j0m), 
  j0, j0, (.aload_n 0, 1, 0, 0, 0, 0, [], j0m), (.new 15, 3, 4, 2, 0, 0, [1181, 1043, 1004], j0m), j0, j0, (.dup, 1, 0, 0, 0, 0, [], j0m), (.sipush 300, 3, 0, 0, 0, 0, [], j0m), j0, j0, (.invokespecial 17, 3, 2, 2, 1, 600, [1182, 1004, 1045, 1046], m_KeyRow_init), 
  j0, j0, (.putfield 20, 3, 10, 1, 0, 1, [1216], j0m), j0, j0, (.aload_n 0, 1, 0, 0, 0, 0, [], j0m), (.sipush 300, 3, 0, 0, 0, 0, [], j0m), j0, j0, (.newarray .int, 2, 0, 0, 1, 0, [1137], j0m), j0, (.putfield 24, 3, 10, 2, 0, 2, [1220], j0m), 
  j0, j0, (.aload_n 0, 1, 0, 0, 0, 0, [], j0m), (.sipush 300, 3, 0, 0, 0, 0, [], j0m), j0, j0, (.newarray .int, 2, 0, 0, 1, 0, [1137], j0m), j0, (.putfield 28, 3, 10, 3, 0, 3, [1223], j0m), j0, j0, (.aload_n 0, 1, 0, 0, 0, 0, [], j0m), 
  (.sipush 300, 3, 0, 0, 0, 0, [], j0m), j0, j0, (.newarray .int, 2, 0, 0, 1, 0, [1137], j0m), j0, (.putfield 31, 3, 10, 4, 0, 4, [1226], j0m), j0, j0, (.aload_n 0, 1, 0, 0, 0, 0, [], j0m), (.sipush 300, 3, 0, 0, 0, 0, [], j0m), 
  j0, j0, (.newarray .int, 2, 0, 0, 1, 0, [1137], j0m), j0, (.putfield 34, 3, 10, 5, 0, 5, [1228], j0m), j0, j0, (.aload_n 0, 1, 0, 0, 0, 0, [], j0m), (.sipush 600, 3, 0, 0, 0, 0, [], j0m), j0, j0, (.newarray .int, 2, 0, 0, 1, 0, [1137], j0m), 
  j0, (.putfield 37, 3, 10, 6, 0, 6, [1231], j0m), j0, j0, (.aload_n 0, 1, 0, 0, 0, 0, [], j0m), (.sipush 300, 3, 0, 0, 0, 0, [], j0m), j0, j0, (.newarray .int, 2, 0, 0, 1, 0, [1137], j0m), j0, (.putfield 40, 3, 10, 7, 0, 7, [1233], j0m), 
  j0, j0, (.aload_n 0, 1, 0, 0, 0, 0, [], j0m), (.sipush 600, 3, 0, 0, 0, 0, [], j0m), j0, j0, (.newarray .int, 2, 0, 0, 1, 0, [1137], j0m), j0, (.putfield 43, 3, 10, 8, 0, 8, [1234], j0m), j0, j0, (.aload_n 0, 1, 0, 0, 0, 0, [], j0m), 
  (.iconst 0, 1, 0, 0, 0, 0, [], j0m), (.putfield 46, 3, 10, 9, 0, 9, [1235], j0m), j0, j0, (.aload_n 0, 1, 0, 0, 0, 0, [], j0m), (.bipush 40, 2, 0, 0, 0, 0, [], j0m), j0, (.newarray .int, 2, 0, 0, 1, 0, [1137], j0m), 
  j0, (.putfield 49, 3, 10, 10, 0, 10, [1237], j0m), j0, j0, (.aload_n 0, 1, 0, 0, 0, 0, [], j0m), (.bipush 40, 2, 0, 0, 0, 0, [], j0m), j0, (.newarray .int, 2, 0, 0, 1, 0, [1137], j0m), j0, (.putfield 52, 3, 10, 11, 0, 11, [1238], j0m), 
  j0, j0, (.aload_n 0, 1, 0, 0, 0, 0, [], j0m), (.sipush 600, 3, 0, 0, 0, 0, [], j0m), j0, j0, (.newarray .byte, 2, 0, 0, 2, 0, [1068], j0m), j0, (.putfield 55, 3, 10, 12, 0, 12, [2000], j0m), j0, j0, 
  (.aload_n 0, 1, 0, 0, 0, 0, [], j0m), (.new 59, 3, 3, 3, 0, 0, [1183, 1184, 1009], j0m), j0, j0, (.dup, 1, 0, 0, 0, 0, [], j0m), (.invokespecial 61, 3, 0, 1, 2, 0, [1009, 1186, 1187], m_Key_init), j0, 
  j0, (.putfield 62, 3, 10, 13, 0, 13, [2001], j0m), j0, j0, (.return_, 1, 0, 0, 0, 0, [], j0m)]
set_option maxRecDepth 20000 in
theorem t_Words_init : okT m_Words_init k_Words_init = true := by decide +kernel
def k_Key_init : List jO := [
  (.aload_n 0, 1, 0, 0, 0, 0, [], j0m), (.invokespecial 3, 3, 0, 1, 0, 0, [1188, 1028, 1029], j0m), j0, j0, (.aload_n 0, 1, 0, 0, 0, 0, [], j0m), (.lconst 0, 1, 0, 0, 0, 0, [], j0m), (.putfield 9, 3, 3, 0, 0, 0, [1189], j0m), 
  j0, j0, (.aload_n 0, 1, 0, 0, 0, 0, [], j0m), (.lconst 0, 1, 0, 0, 0, 0, [], j0m), (.putfield 15, 3, 3, 1, 0, 1, [1195], j0m), j0, j0, (.aload_n 0, 1, 0, 0, 0, 0, [], j0m), (.iconst 0, 1, 0, 0, 0, 0, [], j0m), 
  (.putfield 18, 3, 3, 2, 0, 2, [1201], j0m), j0, j0, (.return_, 1, 0, 0, 0, 0, [], j0m)]
set_option maxRecDepth 20000 in
theorem t_Key_init : okT m_Key_init k_Key_init = true := by decide +kernel
def k_Likeness_init : List jO := [
  (.aload_n 0, 1, 0, 0, 0, 0, [], j0m), (.invokespecial 3, 3, 0, 1, 0, 0, [2064, 1028, 1029], j0m), j0, j0, (.aload_n 0, 1, 0, 0, 0, 0, [], j0m), (.iconst 0, 1, 0, 0, 0, 0, [], j0m), (.putfield 9, 3, 5, 0, 0, 0, [2065], j0m), 
  j0, j0, (.aload_n 0, 1, 0, 0, 0, 0, [], j0m), (.iconst 0, 1, 0, 0, 0, 0, [], j0m), (.putfield 15, 3, 5, 1, 0, 1, [2067], j0m), j0, j0, (.aload_n 0, 1, 0, 0, 0, 0, [], j0m), (.sipush 300, 3, 0, 0, 0, 0, [], j0m), 
  j0, j0, (.newarray .int, 2, 0, 0, 1, 0, [1137], j0m), j0, (.putfield 19, 3, 5, 2, 0, 2, [2069], j0m), j0, j0, (.aload_n 0, 1, 0, 0, 0, 0, [], j0m), (.sipush 1500, 3, 0, 0, 0, 0, [], j0m), j0, j0, (.newarray .long, 2, 0, 0, 4, 0, [1069], j0m), 
  j0, (.putfield 23, 3, 5, 3, 0, 3, [2071], j0m), j0, j0, (.aload_n 0, 1, 0, 0, 0, 0, [], j0m), (.sipush 301, 3, 0, 0, 0, 0, [], j0m), j0, j0, (.newarray .int, 2, 0, 0, 1, 0, [1137], j0m), j0, (.putfield 27, 3, 5, 4, 0, 4, [2072], j0m), 
  j0, j0, (.aload_n 0, 1, 0, 0, 0, 0, [], j0m), (.sipush 301, 3, 0, 0, 0, 0, [], j0m), j0, j0, (.newarray .int, 2, 0, 0, 1, 0, [1137], j0m), j0, (.putfield 30, 3, 5, 5, 0, 5, [2073], j0m), j0, j0, (.return_, 1, 0, 0, 0, 0, [], j0m)
  ]
set_option maxRecDepth 20000 in
theorem t_Likeness_init : okT m_Likeness_init k_Likeness_init = true := by decide +kernel
def k_Tokens_init : List jO := [
  (.aload_n 0, 1, 0, 0, 0, 0, [], j0m), (.invokespecial 3, 3, 0, 1, 0, 0, [2092, 1028, 1029], j0m), j0, j0, (.aload_n 0, 1, 0, 0, 0, 0, [], j0m), (.iconst 0, 1, 0, 0, 0, 0, [], j0m), (.putfield 9, 3, 9, 1, 0, 1, [2094], j0m), 
  j0, j0, (.aload_n 0, 1, 0, 0, 0, 0, [], j0m), (.iconst 0, 1, 0, 0, 0, 0, [], j0m), (.putfield 15, 3, 9, 2, 0, 2, [2095], j0m), j0, j0, (.aload_n 0, 1, 0, 0, 0, 0, [], j0m), (.iconst 0, 1, 0, 0, 0, 0, [], j0m), 
  (.putfield 18, 3, 9, 3, 0, 3, [2096], j0m), j0, j0, (.aload_n 0, 1, 0, 0, 0, 0, [], j0m), (.iconst 0, 1, 0, 0, 0, 0, [], j0m), (.putfield 21, 3, 9, 4, 0, 4, [2097], j0m), j0, j0, (.aload_n 0, 1, 0, 0, 0, 0, [], j0m), 
  (.iconst 0, 1, 0, 0, 0, 0, [], j0m), (.putfield 24, 3, 9, 5, 0, 5, [2100], j0m), j0, j0, (.aload_n 0, 1, 0, 0, 0, 0, [], j0m), (.iconst 0, 1, 0, 0, 0, 0, [], j0m), (.putfield 27, 3, 9, 6, 0, 6, [2102], j0m), 
  j0, j0, (.aload_n 0, 1, 0, 0, 0, 0, [], j0m), (.iconst (-1), 1, 0, 0, 0, 0, [], j0m), (.putfield 30, 3, 9, 7, 0, 7, [2104], j0m), j0, j0, (.aload_n 0, 1, 0, 0, 0, 0, [], j0m), (.aload_n 1, 1, 1, 0, 0, 0, [], j0m), 
  (.putfield 33, 3, 9, 0, 0, 0, [2093], j0m), j0, j0, (.return_, 1, 0, 0, 0, 0, [], j0m)]
set_option maxRecDepth 20000 in
theorem t_Tokens_init : okT m_Tokens_init k_Tokens_init = true := by decide +kernel
def k_RuleReader_init : List jO := [
  (.aload_n 0, 1, 0, 0, 0, 0, [], j0m), (.invokespecial 3, 3, 0, 1, 0, 0, [2128, 1028, 1029], j0m), j0, j0, (.aload_n 0, 1, 0, 0, 0, 0, [], j0m), (.new 9, 3, 7, 12, 0, 0, [2129, 1037, 1003], j0m), j0, 
  j0, (.dup, 1, 0, 0, 0, 0, [], j0m), (.invokespecial 11, 3, 13, 1, 1, 344, [2130, 1003, 1039, 1040], m_Rules_init), j0, j0, (.putfield 12, 3, 6, 0, 0, 0, [2133], j0m), j0, j0, (.aload_n 0, 1, 0, 0, 0, 0, [], j0m), 
  (.new 18, 3, 3, 3, 0, 0, [2131, 1184, 1009], j0m), j0, j0, (.dup, 1, 0, 0, 0, 0, [], j0m), (.invokespecial 20, 3, 0, 1, 2, 0, [1009, 1186, 1187], m_Key_init), j0, j0, (.putfield 21, 3, 6, 2, 0, 2, [2136], j0m), 
  j0, j0, (.aload_n 0, 1, 0, 0, 0, 0, [], j0m), (.aload_n 1, 1, 1, 0, 0, 0, [], j0m), (.putfield 25, 3, 6, 1, 0, 1, [2135], j0m), j0, j0, (.return_, 1, 0, 0, 0, 0, [], j0m)]
set_option maxRecDepth 20000 in
theorem t_RuleReader_init : okT m_RuleReader_init k_RuleReader_init = true := by decide +kernel
def k_Asker_init : List jO := [
  (.aload_n 0, 1, 0, 0, 0, 0, [], j0m), (.invokespecial 3, 3, 0, 1, 0, 0, [2149, 1028, 1029], j0m), j0, j0, (.aload_n 0, 1, 0, 0, 0, 0, [], j0m), (.new 9, 3, 3, 3, 0, 0, [2150, 1184, 1009], j0m), j0, j0, 
  (.dup, 1, 0, 0, 0, 0, [], j0m), (.invokespecial 11, 3, 0, 1, 2, 0, [1009, 1186, 1187], m_Key_init), j0, j0, (.putfield 12, 3, 0, 3, 0, 3, [2161], j0m), j0, j0, (.aload_n 0, 1, 0, 0, 0, 0, [], j0m), (.iconst 0, 1, 0, 0, 0, 0, [], j0m), 
  (.putfield 18, 3, 0, 5, 0, 5, [2163], j0m), j0, j0, (.aload_n 0, 1, 0, 0, 0, 0, [], j0m), (.bipush 14, 2, 0, 0, 0, 0, [], j0m), j0, (.sipush 300, 3, 0, 0, 0, 0, [], j0m), j0, j0, (.multianewarray 22 2, 4, 0, 0, 2, 0, [2152, 1068], j0m), 
  j0, j0, j0, (.putfield 24, 3, 0, 6, 0, 6, [2164], j0m), j0, j0, (.aload_n 0, 1, 0, 0, 0, 0, [], j0m), (.sipush 300, 3, 0, 0, 0, 0, [], j0m), j0, j0, (.newarray .byte, 2, 0, 0, 2, 0, [1068], j0m), j0, 
  (.putfield 27, 3, 0, 7, 0, 7, [2165], j0m), j0, j0, (.aload_n 0, 1, 0, 0, 0, 0, [], j0m), (.bipush 40, 2, 0, 0, 0, 0, [], j0m), j0, (.newarray .byte, 2, 0, 0, 2, 0, [1068], j0m), j0, (.putfield 31, 3, 0, 8, 0, 8, [2166], j0m), 
  j0, j0, (.aload_n 0, 1, 0, 0, 0, 0, [], j0m), (.iconst 0, 1, 0, 0, 0, 0, [], j0m), (.putfield 34, 3, 0, 9, 0, 9, [2167], j0m), j0, j0, (.aload_n 0, 1, 0, 0, 0, 0, [], j0m), (.sipush 300, 3, 0, 0, 0, 0, [], j0m), 
  j0, j0, (.newarray .int, 2, 0, 0, 1, 0, [1137], j0m), j0, (.putfield 37, 3, 0, 10, 0, 10, [2169], j0m), j0, j0, (.aload_n 0, 1, 0, 0, 0, 0, [], j0m), (.sipush 300, 3, 0, 0, 0, 0, [], j0m), j0, j0, (.newarray .int, 2, 0, 0, 1, 0, [1137], j0m), 
  j0, (.putfield 41, 3, 0, 11, 0, 11, [2171], j0m), j0, j0, (.aload_n 0, 1, 0, 0, 0, 0, [], j0m), (.sipush 300, 3, 0, 0, 0, 0, [], j0m), j0, j0, (.newarray .int, 2, 0, 0, 1, 0, [1137], j0m), j0, (.putfield 44, 3, 0, 12, 0, 12, [2173], j0m), 
  j0, j0, (.aload_n 0, 1, 0, 0, 0, 0, [], j0m), (.aload_n 1, 1, 1, 0, 0, 0, [], j0m), (.putfield 47, 3, 0, 0, 0, 0, [2158], j0m), j0, j0, (.aload_n 0, 1, 0, 0, 0, 0, [], j0m), (.aload_n 2, 1, 2, 0, 0, 0, [], j0m), 
  (.putfield 51, 3, 0, 1, 0, 1, [2159], j0m), j0, j0, (.aload_n 0, 1, 0, 0, 0, 0, [], j0m), (.aload_n 3, 1, 3, 0, 0, 0, [], j0m), (.putfield 55, 3, 0, 2, 0, 2, [2160], j0m), j0, j0, (.aload_n 0, 1, 0, 0, 0, 0, [], j0m), 
  (.aload_n 3, 1, 3, 0, 0, 0, [], j0m), (.iconst 0, 1, 0, 0, 0, 0, [], j0m), (.invokevirtual 59, 3, 1, 2, 1, 0, [2154, 2155, 2156, 1007, 2157], m_Book_wordsOf), j0, j0, (.putfield 65, 3, 0, 4, 0, 4, [2162], j0m), 
  j0, j0, (.return_, 1, 0, 0, 0, 0, [], j0m)]
set_option maxRecDepth 20000 in
theorem t_Asker_init : okT m_Asker_init k_Asker_init = true := by decide +kernel
def k_Book_wordsOf : List jO := [
  (.iload_n 1, 1, 1, 0, 0, 0, [], j0m), (.ifCond .ne 10, 3, 0, 11, 0, 0, [], j0m), j0, j0, (.aload_n 0, 1, 0, 0, 0, 0, [], j0m), (.getfield 38, 3, 1, 5, 0, 5, [2042], j0m), j0, j0, (.goto 7, 3, 0, 15, 0, 0, [], j0m), 
  j0, j0, (.aload_n 0, 1, 0, 0, 0, 0, [], j0m), (.getfield 42, 3, 1, 6, 0, 6, [2043], j0m), j0, j0, (.areturn, 1, 0, 0, 0, 0, [], j0m)]
set_option maxRecDepth 20000 in
theorem t_Book_wordsOf : okT m_Book_wordsOf k_Book_wordsOf = true := by decide +kernel
def k_Slots_init : List jO := [
  (.aload_n 0, 1, 0, 0, 0, 0, [], j0m), (.invokespecial 3, 3, 0, 1, 0, 0, [2209, 1028, 1029], j0m), j0, j0, (.aload_n 0, 1, 0, 0, 0, 0, [], j0m), (.sipush 240, 3, 0, 0, 0, 0, [], j0m), j0, j0, (.newarray .long, 2, 0, 0, 4, 0, [1069], j0m), 
  j0, (.putfield 9, 3, 8, 0, 0, 0, [2211], j0m), j0, j0, (.aload_n 0, 1, 0, 0, 0, 0, [], j0m), (.iconst 4, 1, 0, 0, 0, 0, [], j0m), (.newarray .int, 2, 0, 0, 1, 0, [1137], j0m), j0, (.putfield 15, 3, 8, 1, 0, 1, [2212], j0m), 
  j0, j0, (.aload_n 0, 1, 0, 0, 0, 0, [], j0m), (.iconst 4, 1, 0, 0, 0, 0, [], j0m), (.newarray .int, 2, 0, 0, 1, 0, [1137], j0m), j0, (.putfield 19, 3, 8, 2, 0, 2, [2213], j0m), j0, j0, (.aload_n 0, 1, 0, 0, 0, 0, [], j0m), 
  (.bipush 60, 2, 0, 0, 0, 0, [], j0m), j0, (.newarray .byte, 2, 0, 0, 2, 0, [1068], j0m), j0, (.putfield 22, 3, 8, 3, 0, 3, [2214], j0m), j0, j0, (.aload_n 0, 1, 0, 0, 0, 0, [], j0m), (.getfield 19, 3, 8, 2, 0, 2, [2213], j0m), 
  j0, j0, (.iconst (-1), 1, 0, 0, 0, 0, [], j0m), (.invokestatic 26, 3, 0, 2, 0, 0, [2210, 1075, 1006, 1076], m_Arrays_fill), j0, j0, (.return_, 1, 0, 0, 0, 0, [], j0m)]
set_option maxRecDepth 20000 in
theorem t_Slots_init : okT m_Slots_init k_Slots_init = true := by decide +kernel
def k_RuleReader_read : List jO := [
  (.aload_n 0, 1, 0, 0, 0, 0, [], j0m), (.getfield 25, 3, 6, 1, 0, 1, [2135], j0m), j0, j0, (.iload_n 1, 1, 1, 0, 0, 0, [], j0m), (.invokevirtual 29, 3, 9, 2, 1, 0, [3071, 3072, 3073, 1011, 3074], m_Tokens_open), 
  j0, j0, (.aload_n 0, 1, 0, 0, 0, 0, [], j0m), (.getfield 12, 3, 6, 0, 0, 0, [2133], j0m), j0, j0, (.invokevirtual 35, 3, 7, 1, 1, 0, [3097, 1071, 1072, 1003, 1073], m_Rules_clear), j0, j0, (.iconst 0, 1, 0, 0, 0, 0, [], j0m), 
  (.istore_n 2, 1, 2, 0, 0, 0, [], j0m), (.iload_n 2, 1, 2, 0, 0, 0, [], j0m), (.bipush 20, 2, 0, 0, 0, 0, [], j0m), j0, (.if_icmp .ge 28, 3, 0, 48, 0, 0, [], j0m), j0, j0, (.aload_n 0, 1, 0, 0, 0, 0, [], j0m), 
  (.getfield 25, 3, 6, 1, 0, 1, [2135], j0m), j0, j0, (.getfield 38, 3, 9, 4, 0, 4, [2098], j0m), j0, j0, (.ifCond .eq 18, 3, 0, 48, 0, 0, [], j0m), j0, j0, (.aload_n 0, 1, 0, 0, 0, 0, [], j0m), (.invokevirtual 42, 3, 6, 1, 1, 0, [3098, 3100, 4, 1012, 3101], m_RuleReader_readRule), 
  j0, j0, (.ifCond .ne 5, 3, 0, 42, 0, 0, [], j0m), j0, j0, (.iconst 0, 1, 0, 0, 0, 0, [], j0m), (.ireturn, 1, 0, 0, 1, 0, [], j0m), (.iinc 2 1, 3, 2, 0, 0, 0, [], j0m), j0, j0, (.goto (-28), 3, 0, 17, 0, 0, [], j0m), 
  j0, j0, (.aload_n 0, 1, 0, 0, 0, 0, [], j0m), (.getfield 25, 3, 6, 1, 0, 1, [2135], j0m), j0, j0, (.getfield 38, 3, 9, 4, 0, 4, [2098], j0m), j0, j0, (.ifCond .eq 8, 3, 0, 63, 0, 0, [], j0m), j0, j0, 
  (.aload_n 0, 1, 0, 0, 0, 0, [], j0m), (.invokevirtual 46, 3, 6, 1, 1, 0, [3222, 3224, 11, 1012, 3225], m_RuleReader_refuseFurther), j0, j0, (.ireturn, 1, 0, 0, 1, 0, [], j0m), (.aload_n 0, 1, 0, 0, 0, 0, [], j0m), 
  (.getfield 12, 3, 6, 0, 0, 0, [2133], j0m), j0, j0, (.invokevirtual 49, 3, 7, 1, 1, 0, [3230, 3231, 3232, 1003, 3233], m_Rules_foldAll), j0, j0, (.iconst 1, 1, 0, 0, 0, 0, [], j0m), (.ireturn, 1, 0, 0, 1, 0, [], j0m)
  ]
set_option maxRecDepth 20000 in
theorem t_RuleReader_read : okT m_RuleReader_read k_RuleReader_read = true := by decide +kernel
def k_Tokens_open : List jO := [
  (.aload_n 0, 1, 0, 0, 0, 0, [], j0m), (.iconst 0, 1, 0, 0, 0, 0, [], j0m), (.iload_n 1, 1, 1, 0, 0, 0, [], j0m), (.aload_n 0, 1, 0, 0, 0, 0, [], j0m), (.getfield 33, 3, 9, 0, 0, 0, [2093], j0m), j0, 
  j0, (.arraylength, 1, 0, 0, 0, 0, [], j0m), (.invokestatic 37, 3, 0, 2, 1, 0, [3075, 3076, 1005, 3077], j0m), j0, j0, (.invokestatic 43, 3, 0, 2, 2, 0, [3078, 1049, 1005, 1050], j0m), j0, j0, (.putfield 9, 3, 9, 1, 0, 1, [2094], j0m), 
  j0, j0, (.aload_n 0, 1, 0, 0, 0, 0, [], j0m), (.iconst 0, 1, 0, 0, 0, 0, [], j0m), (.putfield 18, 3, 9, 3, 0, 3, [2096], j0m), j0, j0, (.aload_n 0, 1, 0, 0, 0, 0, [], j0m), (.iconst 0, 1, 0, 0, 0, 0, [], j0m), 
  (.putfield 27, 3, 9, 6, 0, 6, [2102], j0m), j0, j0, (.aload_n 0, 1, 0, 0, 0, 0, [], j0m), (.iconst (-1), 1, 0, 0, 0, 0, [], j0m), (.putfield 30, 3, 9, 7, 0, 7, [2104], j0m), j0, j0, (.aload_n 0, 1, 0, 0, 0, 0, [], j0m), 
  (.invokevirtual 46, 3, 9, 1, 1, 0, [3079, 3080, 3081, 1011, 3082], m_Tokens_advance), j0, j0, (.return_, 1, 0, 0, 0, 0, [], j0m)]
set_option maxRecDepth 20000 in
theorem t_Tokens_open : okT m_Tokens_open k_Tokens_open = true := by decide +kernel
def k_Tokens_advance : List jO := [
  (.aload_n 0, 1, 0, 0, 0, 0, [], j0m), (.getfield 18, 3, 9, 3, 0, 3, [2096], j0m), j0, j0, (.aload_n 0, 1, 0, 0, 0, 0, [], j0m), (.getfield 9, 3, 9, 1, 0, 1, [2094], j0m), j0, j0, (.if_icmp .ge 34, 3, 0, 42, 0, 0, [], j0m), 
  j0, j0, (.aload_n 0, 1, 0, 0, 0, 0, [], j0m), (.invokevirtual 49, 3, 9, 1, 1, 0, [3083, 3085, 2, 1011, 3086], m_Tokens_byteAhead), j0, j0, (.bipush 32, 2, 0, 0, 0, 0, [], j0m), j0, (.if_icmp .eq 12, 3, 0, 29, 0, 0, [], j0m), 
  j0, j0, (.aload_n 0, 1, 0, 0, 0, 0, [], j0m), (.invokevirtual 49, 3, 9, 1, 1, 0, [3083, 3085, 2, 1011, 3086], m_Tokens_byteAhead), j0, j0, (.bipush 10, 2, 0, 0, 0, 0, [], j0m), j0, (.if_icmp .ne 16, 3, 0, 42, 0, 0, [], j0m), 
  j0, j0, (.aload_n 0, 1, 0, 0, 0, 0, [], j0m), (.dup, 1, 0, 0, 0, 0, [], j0m), (.getfield 18, 3, 9, 3, 0, 3, [2096], j0m), j0, j0, (.iconst 1, 1, 0, 0, 0, 0, [], j0m), (.iadd, 1, 0, 0, 0, 0, [], j0m), 
  (.putfield 18, 3, 9, 3, 0, 3, [2096], j0m), j0, j0, (.goto (-39), 3, 0, 0, 0, 0, [], j0m), j0, j0, (.aload_n 0, 1, 0, 0, 0, 0, [], j0m), (.aload_n 0, 1, 0, 0, 0, 0, [], j0m), (.getfield 18, 3, 9, 3, 0, 3, [2096], j0m), 
  j0, j0, (.putfield 15, 3, 9, 2, 0, 2, [2095], j0m), j0, j0, (.aload_n 0, 1, 0, 0, 0, 0, [], j0m), (.invokevirtual 49, 3, 9, 1, 1, 0, [3083, 3085, 2, 1011, 3086], m_Tokens_byteAhead), j0, j0, (.istore_n 1, 1, 1, 0, 0, 0, [], j0m), 
  (.aload_n 0, 1, 0, 0, 0, 0, [], j0m), (.getfield 18, 3, 9, 3, 0, 3, [2096], j0m), j0, j0, (.aload_n 0, 1, 0, 0, 0, 0, [], j0m), (.getfield 9, 3, 9, 1, 0, 1, [2094], j0m), j0, j0, (.if_icmp .lt 11, 3, 0, 74, 0, 0, [], j0m), 
  j0, j0, (.aload_n 0, 1, 0, 0, 0, 0, [], j0m), (.iconst 0, 1, 0, 0, 0, 0, [], j0m), (.putfield 21, 3, 9, 4, 0, 4, [2097], j0m), j0, j0, (.goto 106, 3, 0, 177, 0, 0, [], j0m), j0, j0, (.iload_n 1, 1, 1, 0, 0, 0, [], j0m), 
  (.invokestatic 53, 3, 0, 1, 4, 0, [3088, 1001, 3089], m_WordPlaces_isLetter), j0, j0, (.ifCond .eq 42, 3, 0, 120, 0, 0, [], j0m), j0, j0, (.aload_n 0, 1, 0, 0, 0, 0, [], j0m), (.iconst 1, 1, 0, 0, 0, 0, [], j0m), 
  (.putfield 21, 3, 9, 4, 0, 4, [2097], j0m), j0, j0, (.aload_n 0, 1, 0, 0, 0, 0, [], j0m), (.getfield 18, 3, 9, 3, 0, 3, [2096], j0m), j0, j0, (.aload_n 0, 1, 0, 0, 0, 0, [], j0m), (.getfield 9, 3, 9, 1, 0, 1, [2094], j0m), 
  j0, j0, (.if_icmp .ge 83, 3, 0, 177, 0, 0, [], j0m), j0, j0, (.aload_n 0, 1, 0, 0, 0, 0, [], j0m), (.invokevirtual 49, 3, 9, 1, 1, 0, [3083, 3085, 2, 1011, 3086], m_Tokens_byteAhead), j0, j0, (.invokestatic 53, 3, 0, 1, 4, 0, [3088, 1001, 3089], m_WordPlaces_isLetter), 
  j0, j0, (.ifCond .eq 73, 3, 0, 177, 0, 0, [], j0m), j0, j0, (.aload_n 0, 1, 0, 0, 0, 0, [], j0m), (.dup, 1, 0, 0, 0, 0, [], j0m), (.getfield 18, 3, 9, 3, 0, 3, [2096], j0m), j0, j0, (.iconst 1, 1, 0, 0, 0, 0, [], j0m), 
  (.iadd, 1, 0, 0, 0, 0, [], j0m), (.putfield 18, 3, 9, 3, 0, 3, [2096], j0m), j0, j0, (.goto (-31), 3, 0, 86, 0, 0, [], j0m), j0, j0, (.iload_n 1, 1, 1, 0, 0, 0, [], j0m), (.invokestatic 57, 3, 0, 1, 0, 0, [3090, 3091, 1011, 3092], m_Tokens_isDigit), 
  j0, j0, (.ifCond .eq 10, 3, 0, 134, 0, 0, [], j0m), j0, j0, (.aload_n 0, 1, 0, 0, 0, 0, [], j0m), (.invokevirtual 60, 3, 9, 1, 1, 0, [3093, 3095, 3, 1011, 3096], m_Tokens_readNumber), j0, j0, (.goto 46, 3, 0, 177, 0, 0, [], j0m), 
  j0, j0, (.aload_n 0, 1, 0, 0, 0, 0, [], j0m), (.iload_n 1, 1, 1, 0, 0, 0, [], j0m), (.bipush 59, 2, 0, 0, 0, 0, [], j0m), j0, (.if_icmp .eq 21, 3, 0, 159, 0, 0, [], j0m), j0, j0, (.iload_n 1, 1, 1, 0, 0, 0, [], j0m), 
  (.bipush 40, 2, 0, 0, 0, 0, [], j0m), j0, (.if_icmp .eq 15, 3, 0, 159, 0, 0, [], j0m), j0, j0, (.iload_n 1, 1, 1, 0, 0, 0, [], j0m), (.bipush 41, 2, 0, 0, 0, 0, [], j0m), j0, (.if_icmp .eq 9, 3, 0, 159, 0, 0, [], j0m), 
  j0, j0, (.iload_n 1, 1, 1, 0, 0, 0, [], j0m), (.bipush 34, 2, 0, 0, 0, 0, [], j0m), j0, (.if_icmp .ne 7, 3, 0, 163, 0, 0, [], j0m), j0, j0, (.iload_n 1, 1, 1, 0, 0, 0, [], j0m), (.goto 4, 3, 0, 164, 0, 0, [], j0m), 
  j0, j0, (.iconst 3, 1, 0, 0, 0, 0, [], j0m), (.putfield 21, 3, 9, 4, 0, 4, [2097], j0m), j0, j0, (.aload_n 0, 1, 0, 0, 0, 0, [], j0m), (.dup, 1, 0, 0, 0, 0, [], j0m), (.getfield 18, 3, 9, 3, 0, 3, [2096], j0m), 
  j0, j0, (.iconst 1, 1, 0, 0, 0, 0, [], j0m), (.iadd, 1, 0, 0, 0, 0, [], j0m), (.putfield 18, 3, 9, 3, 0, 3, [2096], j0m), j0, j0, (.return_, 1, 0, 0, 0, 0, [], j0m)]
set_option maxRecDepth 20000 in
theorem t_Tokens_advance : okT m_Tokens_advance k_Tokens_advance = true := by decide +kernel
def k_Tokens_byteAhead : List jO := [
  (.aload_n 0, 1, 0, 0, 0, 0, [], j0m), (.getfield 18, 3, 9, 3, 0, 3, [2096], j0m), j0, j0, (.ifCond .lt 38, 3, 0, 42, 0, 0, [], j0m), j0, j0, (.aload_n 0, 1, 0, 0, 0, 0, [], j0m), (.getfield 18, 3, 9, 3, 0, 3, [2096], j0m), 
  j0, j0, (.aload_n 0, 1, 0, 0, 0, 0, [], j0m), (.getfield 9, 3, 9, 1, 0, 1, [2094], j0m), j0, j0, (.if_icmp .ge 27, 3, 0, 42, 0, 0, [], j0m), j0, j0, (.aload_n 0, 1, 0, 0, 0, 0, [], j0m), (.getfield 18, 3, 9, 3, 0, 3, [2096], j0m), 
  j0, j0, (.aload_n 0, 1, 0, 0, 0, 0, [], j0m), (.getfield 33, 3, 9, 0, 0, 0, [2093], j0m), j0, j0, (.arraylength, 1, 0, 0, 0, 0, [], j0m), (.if_icmp .ge 15, 3, 0, 42, 0, 0, [], j0m), j0, j0, (.aload_n 0, 1, 0, 0, 0, 0, [], j0m), 
  (.getfield 33, 3, 9, 0, 0, 0, [2093], j0m), j0, j0, (.aload_n 0, 1, 0, 0, 0, 0, [], j0m), (.getfield 18, 3, 9, 3, 0, 3, [2096], j0m), j0, j0, (.baload, 1, 0, 0, 2, 0, [], j0m), (.goto 4, 3, 0, 43, 0, 0, [], j0m), 
  j0, j0, (.iconst (-1), 1, 0, 0, 0, 0, [], j0m), (.ireturn, 1, 0, 0, 0, 0, [], j0m)]
set_option maxRecDepth 20000 in
theorem t_Tokens_byteAhead : okT m_Tokens_byteAhead k_Tokens_byteAhead = true := by decide +kernel
def k_Tokens_isDigit : List jO := [
  (.iload_n 0, 1, 0, 0, 0, 0, [], j0m), (.bipush 48, 2, 0, 0, 0, 0, [], j0m), j0, (.if_icmp .lt 13, 3, 0, 16, 0, 0, [], j0m), j0, j0, (.iload_n 0, 1, 0, 0, 0, 0, [], j0m), (.bipush 57, 2, 0, 0, 0, 0, [], j0m), 
  j0, (.if_icmp .gt 7, 3, 0, 16, 0, 0, [], j0m), j0, j0, (.iconst 1, 1, 0, 0, 0, 0, [], j0m), (.goto 4, 3, 0, 17, 0, 0, [], j0m), j0, j0, (.iconst 0, 1, 0, 0, 0, 0, [], j0m), (.ireturn, 1, 0, 0, 1, 0, [], j0m)
  ]
set_option maxRecDepth 20000 in
theorem t_Tokens_isDigit : okT m_Tokens_isDigit k_Tokens_isDigit = true := by decide +kernel
def k_Tokens_readNumber : List jO := [
  (.aload_n 0, 1, 0, 0, 0, 0, [], j0m), (.iconst 2, 1, 0, 0, 0, 0, [], j0m), (.putfield 21, 3, 9, 4, 0, 4, [2097], j0m), j0, j0, (.aload_n 0, 1, 0, 0, 0, 0, [], j0m), (.iconst 0, 1, 0, 0, 0, 0, [], j0m), 
  (.putfield 24, 3, 9, 5, 0, 5, [2100], j0m), j0, j0, (.aload_n 0, 1, 0, 0, 0, 0, [], j0m), (.getfield 18, 3, 9, 3, 0, 3, [2096], j0m), j0, j0, (.aload_n 0, 1, 0, 0, 0, 0, [], j0m), (.getfield 9, 3, 9, 1, 0, 1, [2094], j0m), 
  j0, j0, (.if_icmp .ge 51, 3, 0, 69, 0, 0, [], j0m), j0, j0, (.aload_n 0, 1, 0, 0, 0, 0, [], j0m), (.invokevirtual 49, 3, 9, 1, 1, 0, [3083, 3085, 2, 1011, 3086], m_Tokens_byteAhead), j0, j0, (.invokestatic 57, 3, 0, 1, 0, 0, [3090, 3091, 1011, 3092], m_Tokens_isDigit), 
  j0, j0, (.ifCond .eq 41, 3, 0, 69, 0, 0, [], j0m), j0, j0, (.aload_n 0, 1, 0, 0, 0, 0, [], j0m), (.sipush 1000, 3, 0, 0, 0, 0, [], j0m), j0, j0, (.aload_n 0, 1, 0, 0, 0, 0, [], j0m), (.getfield 24, 3, 9, 5, 0, 5, [2100], j0m), 
  j0, j0, (.bipush 10, 2, 0, 0, 0, 0, [], j0m), j0, (.imul, 1, 0, 0, 0, 0, [], j0m), (.aload_n 0, 1, 0, 0, 0, 0, [], j0m), (.invokevirtual 49, 3, 9, 1, 1, 0, [3083, 3085, 2, 1011, 3086], m_Tokens_byteAhead), 
  j0, j0, (.iadd, 1, 0, 0, 0, 0, [], j0m), (.bipush 48, 2, 0, 0, 0, 0, [], j0m), j0, (.isub, 1, 0, 0, 0, 0, [], j0m), (.invokestatic 37, 3, 0, 2, 1, 0, [3075, 3076, 1005, 3077], j0m), j0, j0, (.putfield 24, 3, 9, 5, 0, 5, [2100], j0m), 
  j0, j0, (.aload_n 0, 1, 0, 0, 0, 0, [], j0m), (.dup, 1, 0, 0, 0, 0, [], j0m), (.getfield 18, 3, 9, 3, 0, 3, [2096], j0m), j0, j0, (.iconst 1, 1, 0, 0, 0, 0, [], j0m), (.iadd, 1, 0, 0, 0, 0, [], j0m), 
  (.putfield 18, 3, 9, 3, 0, 3, [2096], j0m), j0, j0, (.goto (-56), 3, 0, 10, 0, 0, [], j0m), j0, j0, (.return_, 1, 0, 0, 0, 0, [], j0m)]
set_option maxRecDepth 20000 in
theorem t_Tokens_readNumber : okT m_Tokens_readNumber k_Tokens_readNumber = true := by decide +kernel
def k_RuleReader_readRule : List jO := [
  (.aload_n 0, 1, 0, 0, 0, 0, [], j0m), (.getfield 25, 3, 6, 1, 0, 1, [2135], j0m), j0, j0, (.ldc 69, 2, 0, 0, 1, 0, [], j0m), j0, (.invokevirtual 61, 3, 9, 2, 1, 0, [3103, 3104, 3105, 1011, 3106], m_Tokens_is), 
  j0, j0, (.ifCond .eq 11, 3, 0, 20, 0, 0, [], j0m), j0, j0, (.aload_n 0, 1, 0, 0, 0, 0, [], j0m), (.invokevirtual 75, 3, 6, 1, 1, 0, [3159, 3161, 5, 1012, 3162], m_RuleReader_readFold), j0, j0, (.istore_n 1, 1, 1, 0, 0, 0, [], j0m), 
  (.goto 72, 3, 0, 89, 0, 0, [], j0m), j0, j0, (.aload_n 0, 1, 0, 0, 0, 0, [], j0m), (.getfield 25, 3, 6, 1, 0, 1, [2135], j0m), j0, j0, (.ldc 71, 2, 2, 0, 1, 0, [], j0m), j0, (.invokevirtual 61, 3, 9, 2, 1, 0, [3103, 3104, 3105, 1011, 3106], m_Tokens_is), 
  j0, j0, (.ifCond .eq 11, 3, 0, 40, 0, 0, [], j0m), j0, j0, (.aload_n 0, 1, 0, 0, 0, 0, [], j0m), (.invokevirtual 78, 3, 6, 1, 1, 0, [3178, 3180, 6, 1012, 3181], m_RuleReader_readStop), j0, j0, (.istore_n 1, 1, 1, 0, 0, 0, [], j0m), 
  (.goto 52, 3, 0, 89, 0, 0, [], j0m), j0, j0, (.aload_n 0, 1, 0, 0, 0, 0, [], j0m), (.getfield 25, 3, 6, 1, 0, 1, [2135], j0m), j0, j0, (.ldc 73, 2, 3, 0, 1, 0, [], j0m), j0, (.invokevirtual 61, 3, 9, 2, 1, 0, [3103, 3104, 3105, 1011, 3106], m_Tokens_is), 
  j0, j0, (.ifCond .eq 11, 3, 0, 60, 0, 0, [], j0m), j0, j0, (.aload_n 0, 1, 0, 0, 0, 0, [], j0m), (.invokevirtual 81, 3, 6, 1, 1, 0, [3203, 3205, 8, 1012, 3206], m_RuleReader_readRoot), j0, j0, (.istore_n 1, 1, 1, 0, 0, 0, [], j0m), 
  (.goto 32, 3, 0, 89, 0, 0, [], j0m), j0, j0, (.aload_n 0, 1, 0, 0, 0, 0, [], j0m), (.getfield 25, 3, 6, 1, 0, 1, [2135], j0m), j0, j0, (.ldc 59, 2, 5, 0, 1, 0, [], j0m), j0, (.invokevirtual 61, 3, 9, 2, 1, 0, [3103, 3104, 3105, 1011, 3106], m_Tokens_is), 
  j0, j0, (.ifCond .eq 11, 3, 0, 80, 0, 0, [], j0m), j0, j0, (.aload_n 0, 1, 0, 0, 0, 0, [], j0m), (.invokevirtual 84, 3, 6, 1, 1, 0, [3209, 3211, 9, 1012, 3212], m_RuleReader_readOrder), j0, j0, (.istore_n 1, 1, 1, 0, 0, 0, [], j0m), 
  (.goto 12, 3, 0, 89, 0, 0, [], j0m), j0, j0, (.aload_n 0, 1, 0, 0, 0, 0, [], j0m), (.getfield 25, 3, 6, 1, 0, 1, [2135], j0m), j0, j0, (.iconst 1, 1, 0, 0, 0, 0, [], j0m), (.invokevirtual 55, 3, 9, 2, 1, 0, [3172, 3173, 3174, 1011, 3175], m_Tokens_fail), 
  j0, j0, (.istore_n 1, 1, 1, 0, 0, 0, [], j0m), (.iload_n 1, 1, 1, 0, 0, 0, [], j0m), (.ifCond .ne 5, 3, 0, 95, 0, 0, [], j0m), j0, j0, (.iconst 0, 1, 0, 0, 0, 0, [], j0m), (.ireturn, 1, 0, 0, 1, 0, [], j0m), 
  (.aload_n 0, 1, 0, 0, 0, 0, [], j0m), (.getfield 25, 3, 6, 1, 0, 1, [2135], j0m), j0, j0, (.getfield 38, 3, 9, 4, 0, 4, [2098], j0m), j0, j0, (.bipush 59, 2, 0, 0, 0, 0, [], j0m), j0, (.if_icmp .eq 12, 3, 0, 116, 0, 0, [], j0m), 
  j0, j0, (.aload_n 0, 1, 0, 0, 0, 0, [], j0m), (.getfield 25, 3, 6, 1, 0, 1, [2135], j0m), j0, j0, (.iconst 1, 1, 0, 0, 0, 0, [], j0m), (.invokevirtual 55, 3, 9, 2, 1, 0, [3172, 3173, 3174, 1011, 3175], m_Tokens_fail), 
  j0, j0, (.ireturn, 1, 0, 0, 1, 0, [], j0m), (.aload_n 0, 1, 0, 0, 0, 0, [], j0m), (.getfield 25, 3, 6, 1, 0, 1, [2135], j0m), j0, j0, (.invokevirtual 87, 3, 9, 1, 1, 0, [3163, 3080, 3081, 1011, 3082], m_Tokens_advance), 
  j0, j0, (.aload_n 0, 1, 0, 0, 0, 0, [], j0m), (.getfield 12, 3, 6, 0, 0, 0, [2133], j0m), j0, j0, (.dup, 1, 0, 0, 0, 0, [], j0m), (.getfield 90, 3, 7, 0, 0, 0, [1078], j0m), j0, j0, (.iconst 1, 1, 0, 0, 0, 0, [], j0m), 
  (.iadd, 1, 0, 0, 0, 0, [], j0m), (.putfield 90, 3, 7, 0, 0, 0, [1078], j0m), j0, j0, (.iconst 1, 1, 0, 0, 0, 0, [], j0m), (.ireturn, 1, 0, 0, 1, 0, [], j0m)]
set_option maxRecDepth 20000 in
theorem t_RuleReader_readRule : okT m_RuleReader_readRule k_RuleReader_readRule = true := by decide +kernel
def k_Tokens_is : List jO := [
  (.aload_n 0, 1, 0, 0, 0, 0, [], j0m), (.getfield 21, 3, 9, 4, 0, 4, [2097], j0m), j0, j0, (.iconst 1, 1, 0, 0, 0, 0, [], j0m), (.if_icmp .ne 19, 3, 0, 24, 0, 0, [], j0m), j0, j0, (.aload_n 0, 1, 0, 0, 0, 0, [], j0m), 
  (.getfield 18, 3, 9, 3, 0, 3, [2096], j0m), j0, j0, (.aload_n 0, 1, 0, 0, 0, 0, [], j0m), (.getfield 15, 3, 9, 2, 0, 2, [2095], j0m), j0, j0, (.isub, 1, 0, 0, 0, 0, [], j0m), (.aload_n 1, 1, 1, 0, 0, 0, [], j0m), 
  (.invokevirtual 63, 3, 0, 1, 2, 0, [3107, 3108, 3109, 1016, 3110], m_String_length), j0, j0, (.if_icmp .eq 5, 3, 0, 26, 0, 0, [], j0m), j0, j0, (.iconst 0, 1, 0, 0, 0, 0, [], j0m), (.ireturn, 1, 0, 0, 1, 0, [], j0m), 
  (.iconst 0, 1, 0, 0, 0, 0, [], j0m), (.istore_n 2, 1, 2, 0, 0, 0, [], j0m), (.iload_n 2, 1, 2, 0, 0, 0, [], j0m), (.aload_n 1, 1, 1, 0, 0, 0, [], j0m), (.invokevirtual 63, 3, 0, 1, 2, 0, [3107, 3108, 3109, 1016, 3110], m_String_length), 
  j0, j0, (.if_icmp .ge 27, 3, 0, 60, 0, 0, [], j0m), j0, j0, (.aload_n 0, 1, 0, 0, 0, 0, [], j0m), (.iload_n 2, 1, 2, 0, 0, 0, [], j0m), (.invokevirtual 67, 3, 9, 2, 1, 0, [3117, 3118, 3119, 1011, 3120], m_Tokens_letterAt), 
  j0, j0, (.aload_n 1, 1, 1, 0, 0, 0, [], j0m), (.iload_n 2, 1, 2, 0, 0, 0, [], j0m), (.invokevirtual 71, 3, 0, 2, 3, 0, [3121, 3122, 3123, 1016, 3124], m_String_charAt), j0, j0, (.bipush 97, 2, 0, 0, 0, 0, [], j0m), 
  j0, (.isub, 1, 0, 0, 0, 0, [], j0m), (.if_icmp .eq 5, 3, 0, 54, 0, 0, [], j0m), j0, j0, (.iconst 0, 1, 0, 0, 0, 0, [], j0m), (.ireturn, 1, 0, 0, 1, 0, [], j0m), (.iinc 2 1, 3, 2, 0, 0, 0, [], j0m), j0, 
  j0, (.goto (-29), 3, 0, 28, 0, 0, [], j0m), j0, j0, (.iconst 1, 1, 0, 0, 0, 0, [], j0m), (.ireturn, 1, 0, 0, 1, 0, [], j0m)]
set_option maxRecDepth 20000 in
theorem t_Tokens_is : okT m_Tokens_is k_Tokens_is = true := by decide +kernel
def k_Tokens_letterAt : List jO := [
  (.aload_n 0, 1, 0, 0, 0, 0, [], j0m), (.getfield 15, 3, 9, 2, 0, 2, [2095], j0m), j0, j0, (.iload_n 1, 1, 1, 0, 0, 0, [], j0m), (.iadd, 1, 0, 0, 0, 0, [], j0m), (.istore_n 2, 1, 2, 0, 0, 0, [], j0m), 
  (.iload_n 1, 1, 1, 0, 0, 0, [], j0m), (.ifCond .lt 36, 3, 0, 44, 0, 0, [], j0m), j0, j0, (.iload_n 2, 1, 2, 0, 0, 0, [], j0m), (.ifCond .lt 32, 3, 0, 44, 0, 0, [], j0m), j0, j0, (.iload_n 2, 1, 2, 0, 0, 0, [], j0m), 
  (.aload_n 0, 1, 0, 0, 0, 0, [], j0m), (.getfield 18, 3, 9, 3, 0, 3, [2096], j0m), j0, j0, (.if_icmp .ge 24, 3, 0, 44, 0, 0, [], j0m), j0, j0, (.iload_n 2, 1, 2, 0, 0, 0, [], j0m), (.aload_n 0, 1, 0, 0, 0, 0, [], j0m), 
  (.getfield 33, 3, 9, 0, 0, 0, [2093], j0m), j0, j0, (.arraylength, 1, 0, 0, 0, 0, [], j0m), (.if_icmp .ge 15, 3, 0, 44, 0, 0, [], j0m), j0, j0, (.aload_n 0, 1, 0, 0, 0, 0, [], j0m), (.getfield 33, 3, 9, 0, 0, 0, [2093], j0m), 
  j0, j0, (.iload_n 2, 1, 2, 0, 0, 0, [], j0m), (.baload, 1, 0, 0, 2, 0, [], j0m), (.bipush 97, 2, 0, 0, 0, 0, [], j0m), j0, (.isub, 1, 0, 0, 0, 0, [], j0m), (.goto 4, 3, 0, 45, 0, 0, [], j0m), j0, j0, 
  (.iconst (-1), 1, 0, 0, 0, 0, [], j0m), (.ireturn, 1, 0, 0, 0, 0, [], j0m)]
set_option maxRecDepth 20000 in
theorem t_Tokens_letterAt : okT m_Tokens_letterAt k_Tokens_letterAt = true := by decide +kernel
def k_RuleReader_readFold : List jO := [
  (.aload_n 0, 1, 0, 0, 0, 0, [], j0m), (.getfield 25, 3, 6, 1, 0, 1, [2135], j0m), j0, j0, (.invokevirtual 87, 3, 9, 1, 1, 0, [3163, 3080, 3081, 1011, 3082], m_Tokens_advance), j0, j0, (.aload_n 0, 1, 0, 0, 0, 0, [], j0m), 
  (.getfield 25, 3, 6, 1, 0, 1, [2135], j0m), j0, j0, (.invokevirtual 93, 3, 9, 1, 1, 0, [3164, 3165, 3166, 1011, 3167], m_Tokens_onlyLetter), j0, j0, (.istore_n 1, 1, 1, 0, 0, 0, [], j0m), (.iload_n 1, 1, 1, 0, 0, 0, [], j0m), 
  (.ifCond .lt 9, 3, 0, 25, 0, 0, [], j0m), j0, j0, (.iload_n 1, 1, 1, 0, 0, 0, [], j0m), (.bipush 26, 2, 0, 0, 0, 0, [], j0m), j0, (.if_icmp .lt 12, 3, 0, 34, 0, 0, [], j0m), j0, j0, (.aload_n 0, 1, 0, 0, 0, 0, [], j0m), 
  (.getfield 25, 3, 6, 1, 0, 1, [2135], j0m), j0, j0, (.iconst 1, 1, 0, 0, 0, 0, [], j0m), (.invokevirtual 55, 3, 9, 2, 1, 0, [3172, 3173, 3174, 1011, 3175], m_Tokens_fail), j0, j0, (.ireturn, 1, 0, 0, 1, 0, [], j0m), 
  (.aload_n 0, 1, 0, 0, 0, 0, [], j0m), (.getfield 12, 3, 6, 0, 0, 0, [2133], j0m), j0, j0, (.getfield 97, 3, 7, 2, 0, 2, [1087], j0m), j0, j0, (.iload_n 1, 1, 1, 0, 0, 0, [], j0m), (.baload, 1, 0, 0, 2, 0, [], j0m), 
  (.ifCond .eq 12, 3, 0, 55, 0, 0, [], j0m), j0, j0, (.aload_n 0, 1, 0, 0, 0, 0, [], j0m), (.getfield 25, 3, 6, 1, 0, 1, [2135], j0m), j0, j0, (.iconst 2, 1, 0, 0, 0, 0, [], j0m), (.invokevirtual 55, 3, 9, 2, 1, 0, [3172, 3173, 3174, 1011, 3175], m_Tokens_fail), 
  j0, j0, (.ireturn, 1, 0, 0, 1, 0, [], j0m), (.aload_n 0, 1, 0, 0, 0, 0, [], j0m), (.getfield 25, 3, 6, 1, 0, 1, [2135], j0m), j0, j0, (.invokevirtual 87, 3, 9, 1, 1, 0, [3163, 3080, 3081, 1011, 3082], m_Tokens_advance), 
  j0, j0, (.aload_n 0, 1, 0, 0, 0, 0, [], j0m), (.getfield 25, 3, 6, 1, 0, 1, [2135], j0m), j0, j0, (.ldc 101, 2, 1, 0, 1, 0, [], j0m), j0, (.invokevirtual 61, 3, 9, 2, 1, 0, [3103, 3104, 3105, 1011, 3106], m_Tokens_is), 
  j0, j0, (.ifCond .ne 12, 3, 0, 83, 0, 0, [], j0m), j0, j0, (.aload_n 0, 1, 0, 0, 0, 0, [], j0m), (.getfield 25, 3, 6, 1, 0, 1, [2135], j0m), j0, j0, (.iconst 1, 1, 0, 0, 0, 0, [], j0m), (.invokevirtual 55, 3, 9, 2, 1, 0, [3172, 3173, 3174, 1011, 3175], m_Tokens_fail), 
  j0, j0, (.ireturn, 1, 0, 0, 1, 0, [], j0m), (.aload_n 0, 1, 0, 0, 0, 0, [], j0m), (.getfield 25, 3, 6, 1, 0, 1, [2135], j0m), j0, j0, (.invokevirtual 87, 3, 9, 1, 1, 0, [3163, 3080, 3081, 1011, 3082], m_Tokens_advance), 
  j0, j0, (.aload_n 0, 1, 0, 0, 0, 0, [], j0m), (.getfield 25, 3, 6, 1, 0, 1, [2135], j0m), j0, j0, (.invokevirtual 93, 3, 9, 1, 1, 0, [3164, 3165, 3166, 1011, 3167], m_Tokens_onlyLetter), j0, j0, (.istore_n 2, 1, 2, 0, 0, 0, [], j0m), 
  (.iload_n 2, 1, 2, 0, 0, 0, [], j0m), (.ifCond .lt 9, 3, 0, 108, 0, 0, [], j0m), j0, j0, (.iload_n 2, 1, 2, 0, 0, 0, [], j0m), (.bipush 26, 2, 0, 0, 0, 0, [], j0m), j0, (.if_icmp .lt 12, 3, 0, 117, 0, 0, [], j0m), 
  j0, j0, (.aload_n 0, 1, 0, 0, 0, 0, [], j0m), (.getfield 25, 3, 6, 1, 0, 1, [2135], j0m), j0, j0, (.iconst 1, 1, 0, 0, 0, 0, [], j0m), (.invokevirtual 55, 3, 9, 2, 1, 0, [3172, 3173, 3174, 1011, 3175], m_Tokens_fail), 
  j0, j0, (.ireturn, 1, 0, 0, 1, 0, [], j0m), (.aload_n 0, 1, 0, 0, 0, 0, [], j0m), (.getfield 25, 3, 6, 1, 0, 1, [2135], j0m), j0, j0, (.invokevirtual 87, 3, 9, 1, 1, 0, [3163, 3080, 3081, 1011, 3082], m_Tokens_advance), 
  j0, j0, (.aload_n 0, 1, 0, 0, 0, 0, [], j0m), (.getfield 12, 3, 6, 0, 0, 0, [2133], j0m), j0, j0, (.getfield 103, 3, 7, 1, 0, 1, [1082], j0m), j0, j0, (.iload_n 1, 1, 1, 0, 0, 0, [], j0m), (.iload_n 2, 1, 2, 0, 0, 0, [], j0m), 
  (.i2b, 1, 0, 0, 0, 0, [], j0m), (.bastore, 1, 0, 0, 2, 0, [], j0m), (.aload_n 0, 1, 0, 0, 0, 0, [], j0m), (.getfield 12, 3, 6, 0, 0, 0, [2133], j0m), j0, j0, (.getfield 97, 3, 7, 2, 0, 2, [1087], j0m), 
  j0, j0, (.iload_n 1, 1, 1, 0, 0, 0, [], j0m), (.iconst 1, 1, 0, 0, 0, 0, [], j0m), (.bastore, 1, 0, 0, 2, 0, [], j0m), (.aload_n 0, 1, 0, 0, 0, 0, [], j0m), (.getfield 12, 3, 6, 0, 0, 0, [2133], j0m), 
  j0, j0, (.dup, 1, 0, 0, 0, 0, [], j0m), (.getfield 105, 3, 7, 3, 0, 3, [1089], j0m), j0, j0, (.iconst 1, 1, 0, 0, 0, 0, [], j0m), (.iadd, 1, 0, 0, 0, 0, [], j0m), (.putfield 105, 3, 7, 3, 0, 3, [1089], j0m), 
  j0, j0, (.iconst 1, 1, 0, 0, 0, 0, [], j0m), (.ireturn, 1, 0, 0, 1, 0, [], j0m)]
set_option maxRecDepth 20000 in
theorem t_RuleReader_readFold : okT m_RuleReader_readFold k_RuleReader_readFold = true := by decide +kernel
def k_Tokens_onlyLetter : List jO := [
  (.aload_n 0, 1, 0, 0, 0, 0, [], j0m), (.invokevirtual 75, 3, 9, 1, 1, 0, [3168, 3169, 3170, 1011, 3171], m_Tokens_letterCount), j0, j0, (.iconst 1, 1, 0, 0, 0, 0, [], j0m), (.if_icmp .ne 11, 3, 0, 16, 0, 0, [], j0m), 
  j0, j0, (.aload_n 0, 1, 0, 0, 0, 0, [], j0m), (.iconst 0, 1, 0, 0, 0, 0, [], j0m), (.invokevirtual 67, 3, 9, 2, 1, 0, [3117, 3118, 3119, 1011, 3120], m_Tokens_letterAt), j0, j0, (.goto 4, 3, 0, 17, 0, 0, [], j0m), 
  j0, j0, (.iconst (-1), 1, 0, 0, 0, 0, [], j0m), (.ireturn, 1, 0, 0, 0, 0, [], j0m)]
set_option maxRecDepth 20000 in
theorem t_Tokens_onlyLetter : okT m_Tokens_onlyLetter k_Tokens_onlyLetter = true := by decide +kernel
def k_Tokens_letterCount : List jO := [
  (.aload_n 0, 1, 0, 0, 0, 0, [], j0m), (.getfield 21, 3, 9, 4, 0, 4, [2097], j0m), j0, j0, (.iconst 1, 1, 0, 0, 0, 0, [], j0m), (.if_icmp .ne 15, 3, 0, 20, 0, 0, [], j0m), j0, j0, (.aload_n 0, 1, 0, 0, 0, 0, [], j0m), 
  (.getfield 18, 3, 9, 3, 0, 3, [2096], j0m), j0, j0, (.aload_n 0, 1, 0, 0, 0, 0, [], j0m), (.getfield 15, 3, 9, 2, 0, 2, [2095], j0m), j0, j0, (.isub, 1, 0, 0, 0, 0, [], j0m), (.goto 4, 3, 0, 21, 0, 0, [], j0m), 
  j0, j0, (.iconst 0, 1, 0, 0, 0, 0, [], j0m), (.ireturn, 1, 0, 0, 0, 0, [], j0m)]
set_option maxRecDepth 20000 in
theorem t_Tokens_letterCount : okT m_Tokens_letterCount k_Tokens_letterCount = true := by decide +kernel
def k_Tokens_fail : List jO := [
  (.aload_n 0, 1, 0, 0, 0, 0, [], j0m), (.iload_n 1, 1, 1, 0, 0, 0, [], j0m), (.putfield 27, 3, 9, 6, 0, 6, [2102], j0m), j0, j0, (.aload_n 0, 1, 0, 0, 0, 0, [], j0m), (.aload_n 0, 1, 0, 0, 0, 0, [], j0m), 
  (.getfield 15, 3, 9, 2, 0, 2, [2095], j0m), j0, j0, (.putfield 30, 3, 9, 7, 0, 7, [2104], j0m), j0, j0, (.iconst 0, 1, 0, 0, 0, 0, [], j0m), (.ireturn, 1, 0, 0, 1, 0, [], j0m)]
set_option maxRecDepth 20000 in
theorem t_Tokens_fail : okT m_Tokens_fail k_Tokens_fail = true := by decide +kernel
def k_RuleReader_readStop : List jO := [
  (.aload_n 0, 1, 0, 0, 0, 0, [], j0m), (.getfield 25, 3, 6, 1, 0, 1, [2135], j0m), j0, j0, (.invokevirtual 87, 3, 9, 1, 1, 0, [3163, 3080, 3081, 1011, 3082], m_Tokens_advance), j0, j0, (.aload_n 0, 1, 0, 0, 0, 0, [], j0m), 
  (.aload_n 0, 1, 0, 0, 0, 0, [], j0m), (.getfield 12, 3, 6, 0, 0, 0, [2133], j0m), j0, j0, (.getfield 108, 3, 7, 4, 0, 4, [1092], j0m), j0, j0, (.aload_n 0, 1, 0, 0, 0, 0, [], j0m), (.getfield 12, 3, 6, 0, 0, 0, [2133], j0m), 
  j0, j0, (.getfield 112, 3, 7, 5, 0, 5, [1094], j0m), j0, j0, (.invokevirtual 115, 3, 6, 3, 1, 0, [3182, 3184, 7, 1012, 3185], m_RuleReader_readWord), j0, j0, (.ifCond .ne 5, 3, 0, 30, 0, 0, [], j0m), 
  j0, j0, (.iconst 0, 1, 0, 0, 0, 0, [], j0m), (.ireturn, 1, 0, 0, 1, 0, [], j0m), (.aload_n 0, 1, 0, 0, 0, 0, [], j0m), (.getfield 12, 3, 6, 0, 0, 0, [2133], j0m), j0, j0, (.dup, 1, 0, 0, 0, 0, [], j0m), 
  (.getfield 112, 3, 7, 5, 0, 5, [1094], j0m), j0, j0, (.iconst 1, 1, 0, 0, 0, 0, [], j0m), (.iadd, 1, 0, 0, 0, 0, [], j0m), (.putfield 112, 3, 7, 5, 0, 5, [1094], j0m), j0, j0, (.iconst 1, 1, 0, 0, 0, 0, [], j0m), 
  (.ireturn, 1, 0, 0, 1, 0, [], j0m)]
set_option maxRecDepth 20000 in
theorem t_RuleReader_readStop : okT m_RuleReader_readStop k_RuleReader_readStop = true := by decide +kernel
def k_RuleReader_readWord : List jO := [
  (.aload_n 0, 1, 0, 0, 0, 0, [], j0m), (.getfield 25, 3, 6, 1, 0, 1, [2135], j0m), j0, j0, (.getfield 38, 3, 9, 4, 0, 4, [2098], j0m), j0, j0, (.iconst 1, 1, 0, 0, 0, 0, [], j0m), (.if_icmp .eq 12, 3, 0, 20, 0, 0, [], j0m), 
  j0, j0, (.aload_n 0, 1, 0, 0, 0, 0, [], j0m), (.getfield 25, 3, 6, 1, 0, 1, [2135], j0m), j0, j0, (.iconst 1, 1, 0, 0, 0, 0, [], j0m), (.invokevirtual 55, 3, 9, 2, 1, 0, [3172, 3173, 3174, 1011, 3175], m_Tokens_fail), 
  j0, j0, (.ireturn, 1, 0, 0, 1, 0, [], j0m), (.aload_n 0, 1, 0, 0, 0, 0, [], j0m), (.getfield 25, 3, 6, 1, 0, 1, [2135], j0m), j0, j0, (.aload_n 0, 1, 0, 0, 0, 0, [], j0m), (.getfield 21, 3, 6, 2, 0, 2, [2136], j0m), 
  j0, j0, (.invokevirtual 134, 3, 9, 2, 1, 0, [3186, 3187, 3188, 1011, 3189], m_Tokens_readInto), j0, j0, (.aload_n 1, 1, 1, 0, 0, 0, [], j0m), (.iload_n 2, 1, 2, 0, 0, 0, [], j0m), (.aload_n 0, 1, 0, 0, 0, 0, [], j0m), 
  (.getfield 21, 3, 6, 2, 0, 2, [2136], j0m), j0, j0, (.getfield 138, 3, 3, 0, 0, 0, [1193], j0m), j0, j0, (.aload_n 0, 1, 0, 0, 0, 0, [], j0m), (.getfield 21, 3, 6, 2, 0, 2, [2136], j0m), j0, j0, (.getfield 142, 3, 3, 1, 0, 1, [1199], j0m), 
  j0, j0, (.invokevirtual 145, 3, 4, 4, 1, 0, [3198, 3199, 3200, 1004, 3201], m_KeyRow_put), j0, j0, (.aload_n 0, 1, 0, 0, 0, 0, [], j0m), (.getfield 25, 3, 6, 1, 0, 1, [2135], j0m), j0, j0, (.invokevirtual 87, 3, 9, 1, 1, 0, [3163, 3080, 3081, 1011, 3082], m_Tokens_advance), 
  j0, j0, (.iconst 1, 1, 0, 0, 0, 0, [], j0m), (.ireturn, 1, 0, 0, 1, 0, [], j0m)]
set_option maxRecDepth 20000 in
theorem t_RuleReader_readWord : okT m_RuleReader_readWord k_RuleReader_readWord = true := by decide +kernel
def k_Tokens_readInto : List jO := [
  (.aload_n 1, 1, 1, 0, 0, 0, [], j0m), (.invokevirtual 78, 3, 3, 1, 1, 0, [3190, 3191, 3192, 1009, 3193], m_Key_clear), j0, j0, (.iconst 0, 1, 0, 0, 0, 0, [], j0m), (.istore_n 2, 1, 2, 0, 0, 0, [], j0m), 
  (.iload_n 2, 1, 2, 0, 0, 0, [], j0m), (.aload_n 0, 1, 0, 0, 0, 0, [], j0m), (.invokevirtual 75, 3, 9, 1, 1, 0, [3168, 3169, 3170, 1011, 3171], m_Tokens_letterCount), j0, j0, (.if_icmp .ge 24, 3, 0, 35, 0, 0, [], j0m), 
  j0, j0, (.iload_n 2, 1, 2, 0, 0, 0, [], j0m), (.bipush 20, 2, 0, 0, 0, 0, [], j0m), j0, (.if_icmp .ge 18, 3, 0, 35, 0, 0, [], j0m), j0, j0, (.aload_n 1, 1, 1, 0, 0, 0, [], j0m), (.aload_n 0, 1, 0, 0, 0, 0, [], j0m), 
  (.iload_n 2, 1, 2, 0, 0, 0, [], j0m), (.invokevirtual 67, 3, 9, 2, 1, 0, [3117, 3118, 3119, 1011, 3120], m_Tokens_letterAt), j0, j0, (.invokevirtual 83, 3, 3, 2, 1, 0, [3194, 3195, 3196, 1009, 3197], m_Key_add), 
  j0, j0, (.iinc 2 1, 3, 2, 0, 0, 0, [], j0m), j0, j0, (.goto (-26), 3, 0, 6, 0, 0, [], j0m), j0, j0, (.return_, 1, 0, 0, 0, 0, [], j0m)]
set_option maxRecDepth 20000 in
theorem t_Tokens_readInto : okT m_Tokens_readInto k_Tokens_readInto = true := by decide +kernel
def k_Key_clear : List jO := [
  (.aload_n 0, 1, 0, 0, 0, 0, [], j0m), (.lconst 0, 1, 0, 0, 0, 0, [], j0m), (.putfield 9, 3, 3, 0, 0, 0, [1189], j0m), j0, j0, (.aload_n 0, 1, 0, 0, 0, 0, [], j0m), (.lconst 0, 1, 0, 0, 0, 0, [], j0m), 
  (.putfield 15, 3, 3, 1, 0, 1, [1195], j0m), j0, j0, (.aload_n 0, 1, 0, 0, 0, 0, [], j0m), (.iconst 0, 1, 0, 0, 0, 0, [], j0m), (.putfield 18, 3, 3, 2, 0, 2, [1201], j0m), j0, j0, (.return_, 1, 0, 0, 0, 0, [], j0m)
  ]
set_option maxRecDepth 20000 in
theorem t_Key_clear : okT m_Key_clear k_Key_clear = true := by decide +kernel
def k_Key_add : List jO := [
  (.aload_n 0, 1, 0, 0, 0, 0, [], j0m), (.getfield 18, 3, 3, 2, 0, 2, [1201], j0m), j0, j0, (.bipush 20, 2, 0, 0, 0, 0, [], j0m), j0, (.if_icmp .ge 13, 3, 0, 19, 0, 0, [], j0m), j0, j0, (.iload_n 1, 1, 1, 0, 0, 0, [], j0m), 
  (.ifCond .lt 9, 3, 0, 19, 0, 0, [], j0m), j0, j0, (.iload_n 1, 1, 1, 0, 0, 0, [], j0m), (.bipush 26, 2, 0, 0, 0, 0, [], j0m), j0, (.if_icmp .lt 4, 3, 0, 20, 0, 0, [], j0m), j0, j0, (.return_, 1, 0, 0, 0, 0, [], j0m), 
  (.iload_n 1, 1, 1, 0, 0, 0, [], j0m), (.i2l, 1, 0, 0, 0, 0, [], j0m), (.lconst 1, 1, 0, 0, 0, 1, [], j0m), (.ladd, 1, 0, 0, 0, 0, [], j0m), (.bipush 45, 2, 0, 0, 0, 0, [], j0m), j0, (.iconst 5, 1, 0, 0, 0, 0, [], j0m), 
  (.aload_n 0, 1, 0, 0, 0, 0, [], j0m), (.getfield 18, 3, 3, 2, 0, 2, [1201], j0m), j0, j0, (.bipush 10, 2, 0, 0, 0, 0, [], j0m), j0, (.irem, 1, 0, 0, 0, 0, [], j0m), (.imul, 1, 0, 0, 0, 0, [], j0m), (.isub, 1, 0, 0, 0, 0, [], j0m), 
  (.lshl, 1, 0, 0, 0, 0, [], j0m), (.lstore_n 2, 1, 2, 0, 0, 0, [], j0m), (.aload_n 0, 1, 0, 0, 0, 0, [], j0m), (.getfield 18, 3, 3, 2, 0, 2, [1201], j0m), j0, j0, (.bipush 10, 2, 0, 0, 0, 0, [], j0m), 
  j0, (.if_icmp .ge 16, 3, 0, 60, 0, 0, [], j0m), j0, j0, (.aload_n 0, 1, 0, 0, 0, 0, [], j0m), (.dup, 1, 0, 0, 0, 0, [], j0m), (.getfield 9, 3, 3, 0, 0, 0, [1189], j0m), j0, j0, (.lload_n 2, 1, 2, 0, 0, 0, [], j0m), 
  (.lor, 1, 0, 0, 0, 0, [], j0m), (.putfield 9, 3, 3, 0, 0, 0, [1189], j0m), j0, j0, (.goto 13, 3, 0, 70, 0, 0, [], j0m), j0, j0, (.aload_n 0, 1, 0, 0, 0, 0, [], j0m), (.dup, 1, 0, 0, 0, 0, [], j0m), (.getfield 15, 3, 3, 1, 0, 1, [1195], j0m), 
  j0, j0, (.lload_n 2, 1, 2, 0, 0, 0, [], j0m), (.lor, 1, 0, 0, 0, 0, [], j0m), (.putfield 15, 3, 3, 1, 0, 1, [1195], j0m), j0, j0, (.aload_n 0, 1, 0, 0, 0, 0, [], j0m), (.dup, 1, 0, 0, 0, 0, [], j0m), 
  (.getfield 18, 3, 3, 2, 0, 2, [1201], j0m), j0, j0, (.iconst 1, 1, 0, 0, 0, 0, [], j0m), (.iadd, 1, 0, 0, 0, 0, [], j0m), (.putfield 18, 3, 3, 2, 0, 2, [1201], j0m), j0, j0, (.return_, 1, 0, 0, 0, 0, [], j0m)
  ]
set_option maxRecDepth 20000 in
theorem t_Key_add : okT m_Key_add k_Key_add = true := by decide +kernel
def k_KeyRow_put : List jO := [
  (.iload_n 1, 1, 1, 0, 0, 0, [], j0m), (.ifCond .lt 27, 3, 0, 28, 0, 0, [], j0m), j0, j0, (.iload_n 1, 1, 1, 0, 0, 0, [], j0m), (.aload_n 0, 1, 0, 0, 0, 0, [], j0m), (.getfield 13, 3, 4, 0, 0, 0, [1051], j0m), 
  j0, j0, (.arraylength, 1, 0, 0, 0, 0, [], j0m), (.if_icmp .ge 18, 3, 0, 28, 0, 0, [], j0m), j0, j0, (.aload_n 0, 1, 0, 0, 0, 0, [], j0m), (.getfield 13, 3, 4, 0, 0, 0, [1051], j0m), j0, j0, (.iload_n 1, 1, 1, 0, 0, 0, [], j0m), 
  (.lload_n 2, 1, 2, 0, 0, 0, [], j0m), (.lastore, 1, 0, 0, 0, 0, [], j0m), (.aload_n 0, 1, 0, 0, 0, 0, [], j0m), (.getfield 19, 3, 4, 1, 0, 1, [1057], j0m), j0, j0, (.iload_n 1, 1, 1, 0, 0, 0, [], j0m), 
  (.lload 4, 2, 4, 0, 0, 0, [], j0m), j0, (.lastore, 1, 0, 0, 0, 0, [], j0m), (.return_, 1, 0, 0, 0, 0, [], j0m)]
set_option maxRecDepth 20000 in
theorem t_KeyRow_put : okT m_KeyRow_put k_KeyRow_put = true := by decide +kernel
def k_RuleReader_readRoot : List jO := [
  (.aload_n 0, 1, 0, 0, 0, 0, [], j0m), (.getfield 12, 3, 6, 0, 0, 0, [2133], j0m), j0, j0, (.getfield 119, 3, 7, 7, 0, 7, [1099], j0m), j0, j0, (.istore_n 1, 1, 1, 0, 0, 0, [], j0m), (.aload_n 0, 1, 0, 0, 0, 0, [], j0m), 
  (.getfield 25, 3, 6, 1, 0, 1, [2135], j0m), j0, j0, (.invokevirtual 87, 3, 9, 1, 1, 0, [3163, 3080, 3081, 1011, 3082], m_Tokens_advance), j0, j0, (.iload_n 1, 1, 1, 0, 0, 0, [], j0m), (.ifCond .lt 24, 3, 0, 40, 0, 0, [], j0m), 
  j0, j0, (.iload_n 1, 1, 1, 0, 0, 0, [], j0m), (.bipush 20, 2, 0, 0, 0, 0, [], j0m), j0, (.if_icmp .ge 18, 3, 0, 40, 0, 0, [], j0m), j0, j0, (.aload_n 0, 1, 0, 0, 0, 0, [], j0m), (.aload_n 0, 1, 0, 0, 0, 0, [], j0m), 
  (.getfield 12, 3, 6, 0, 0, 0, [2133], j0m), j0, j0, (.getfield 122, 3, 7, 6, 0, 6, [1097], j0m), j0, j0, (.iload_n 1, 1, 1, 0, 0, 0, [], j0m), (.invokevirtual 115, 3, 6, 3, 1, 0, [3182, 3184, 7, 1012, 3185], m_RuleReader_readWord), 
  j0, j0, (.ifCond .ne 5, 3, 0, 42, 0, 0, [], j0m), j0, j0, (.iconst 0, 1, 0, 0, 0, 0, [], j0m), (.ireturn, 1, 0, 0, 1, 0, [], j0m), (.aload_n 0, 1, 0, 0, 0, 0, [], j0m), (.getfield 25, 3, 6, 1, 0, 1, [2135], j0m), 
  j0, j0, (.ldc 125, 2, 4, 0, 1, 0, [], j0m), j0, (.invokevirtual 61, 3, 9, 2, 1, 0, [3103, 3104, 3105, 1011, 3106], m_Tokens_is), j0, j0, (.ifCond .ne 12, 3, 0, 63, 0, 0, [], j0m), j0, j0, (.aload_n 0, 1, 0, 0, 0, 0, [], j0m), 
  (.getfield 25, 3, 6, 1, 0, 1, [2135], j0m), j0, j0, (.iconst 1, 1, 0, 0, 0, 0, [], j0m), (.invokevirtual 55, 3, 9, 2, 1, 0, [3172, 3173, 3174, 1011, 3175], m_Tokens_fail), j0, j0, (.ireturn, 1, 0, 0, 1, 0, [], j0m), 
  (.aload_n 0, 1, 0, 0, 0, 0, [], j0m), (.getfield 25, 3, 6, 1, 0, 1, [2135], j0m), j0, j0, (.invokevirtual 87, 3, 9, 1, 1, 0, [3163, 3080, 3081, 1011, 3082], m_Tokens_advance), j0, j0, (.iconst 0, 1, 0, 0, 0, 0, [], j0m), 
  (.istore_n 2, 1, 2, 0, 0, 0, [], j0m), (.iload_n 2, 1, 2, 0, 0, 0, [], j0m), (.iconst 4, 1, 0, 0, 0, 0, [], j0m), (.if_icmp .lt 12, 3, 0, 86, 0, 0, [], j0m), j0, j0, (.aload_n 0, 1, 0, 0, 0, 0, [], j0m), 
  (.getfield 25, 3, 6, 1, 0, 1, [2135], j0m), j0, j0, (.iconst 3, 1, 0, 0, 0, 0, [], j0m), (.invokevirtual 55, 3, 9, 2, 1, 0, [3172, 3173, 3174, 1011, 3175], m_Tokens_fail), j0, j0, (.ireturn, 1, 0, 0, 1, 0, [], j0m), 
  (.aload_n 0, 1, 0, 0, 0, 0, [], j0m), (.aload_n 0, 1, 0, 0, 0, 0, [], j0m), (.getfield 12, 3, 6, 0, 0, 0, [2133], j0m), j0, j0, (.getfield 127, 3, 7, 8, 0, 8, [1102], j0m), j0, j0, (.iload_n 1, 1, 1, 0, 0, 0, [], j0m), 
  (.iconst 4, 1, 0, 0, 0, 0, [], j0m), (.imul, 1, 0, 0, 0, 0, [], j0m), (.iload_n 2, 1, 2, 0, 0, 0, [], j0m), (.iadd, 1, 0, 0, 0, 0, [], j0m), (.invokevirtual 115, 3, 6, 3, 1, 0, [3182, 3184, 7, 1012, 3185], m_RuleReader_readWord), 
  j0, j0, (.ifCond .ne 5, 3, 0, 107, 0, 0, [], j0m), j0, j0, (.iconst 0, 1, 0, 0, 0, 0, [], j0m), (.ireturn, 1, 0, 0, 1, 0, [], j0m), (.iinc 2 1, 3, 2, 0, 0, 0, [], j0m), j0, j0, (.aload_n 0, 1, 0, 0, 0, 0, [], j0m), 
  (.getfield 25, 3, 6, 1, 0, 1, [2135], j0m), j0, j0, (.getfield 38, 3, 9, 4, 0, 4, [2098], j0m), j0, j0, (.iconst 1, 1, 0, 0, 0, 0, [], j0m), (.if_icmp .eq (-46), 3, 0, 72, 0, 0, [], j0m), j0, j0, (.aload_n 0, 1, 0, 0, 0, 0, [], j0m), 
  (.getfield 12, 3, 6, 0, 0, 0, [2133], j0m), j0, j0, (.getfield 130, 3, 7, 9, 0, 9, [1105], j0m), j0, j0, (.iload_n 1, 1, 1, 0, 0, 0, [], j0m), (.iload_n 2, 1, 2, 0, 0, 0, [], j0m), (.iastore, 1, 0, 0, 0, 0, [], j0m), 
  (.aload_n 0, 1, 0, 0, 0, 0, [], j0m), (.getfield 12, 3, 6, 0, 0, 0, [2133], j0m), j0, j0, (.dup, 1, 0, 0, 0, 0, [], j0m), (.getfield 119, 3, 7, 7, 0, 7, [1099], j0m), j0, j0, (.iconst 1, 1, 0, 0, 0, 0, [], j0m), 
  (.iadd, 1, 0, 0, 0, 0, [], j0m), (.putfield 119, 3, 7, 7, 0, 7, [1099], j0m), j0, j0, (.iconst 1, 1, 0, 0, 0, 0, [], j0m), (.ireturn, 1, 0, 0, 1, 0, [], j0m)]
set_option maxRecDepth 20000 in
theorem t_RuleReader_readRoot : okT m_RuleReader_readRoot k_RuleReader_readRoot = true := by decide +kernel
def k_RuleReader_readOrder : List jO := [
  (.aload_n 0, 1, 0, 0, 0, 0, [], j0m), (.getfield 12, 3, 6, 0, 0, 0, [2133], j0m), j0, j0, (.getfield 65, 3, 7, 11, 0, 11, [1111], j0m), j0, j0, (.ifCond .eq 12, 3, 0, 19, 0, 0, [], j0m), j0, j0, (.aload_n 0, 1, 0, 0, 0, 0, [], j0m), 
  (.getfield 25, 3, 6, 1, 0, 1, [2135], j0m), j0, j0, (.iconst 2, 1, 0, 0, 0, 0, [], j0m), (.invokevirtual 55, 3, 9, 2, 1, 0, [3172, 3173, 3174, 1011, 3175], m_Tokens_fail), j0, j0, (.ireturn, 1, 0, 0, 1, 0, [], j0m), 
  (.aload_n 0, 1, 0, 0, 0, 0, [], j0m), (.getfield 25, 3, 6, 1, 0, 1, [2135], j0m), j0, j0, (.invokevirtual 87, 3, 9, 1, 1, 0, [3163, 3080, 3081, 1011, 3082], m_Tokens_advance), j0, j0, (.aload_n 0, 1, 0, 0, 0, 0, [], j0m), 
  (.getfield 25, 3, 6, 1, 0, 1, [2135], j0m), j0, j0, (.getfield 38, 3, 9, 4, 0, 4, [2098], j0m), j0, j0, (.iconst 1, 1, 0, 0, 0, 0, [], j0m), (.if_icmp .eq 12, 3, 0, 46, 0, 0, [], j0m), j0, j0, (.aload_n 0, 1, 0, 0, 0, 0, [], j0m), 
  (.getfield 25, 3, 6, 1, 0, 1, [2135], j0m), j0, j0, (.iconst 1, 1, 0, 0, 0, 0, [], j0m), (.invokevirtual 55, 3, 9, 2, 1, 0, [3172, 3173, 3174, 1011, 3175], m_Tokens_fail), j0, j0, (.ireturn, 1, 0, 0, 1, 0, [], j0m), 
  (.aload_n 0, 1, 0, 0, 0, 0, [], j0m), (.getfield 12, 3, 6, 0, 0, 0, [2133], j0m), j0, j0, (.getfield 151, 3, 7, 10, 0, 10, [1109], j0m), j0, j0, (.iconst (-1), 1, 0, 0, 0, 0, [], j0m), (.invokestatic 154, 3, 0, 2, 0, 0, [3213, 3214, 1006, 3215], m_Arrays_fill2), 
  j0, j0, (.iconst 0, 1, 0, 0, 0, 0, [], j0m), (.istore_n 1, 1, 1, 0, 0, 0, [], j0m), (.iload_n 1, 1, 1, 0, 0, 0, [], j0m), (.aload_n 0, 1, 0, 0, 0, 0, [], j0m), (.getfield 25, 3, 6, 1, 0, 1, [2135], j0m), 
  j0, j0, (.invokevirtual 160, 3, 9, 1, 1, 0, [3216, 3169, 3170, 1011, 3171], m_Tokens_letterCount), j0, j0, (.if_icmp .ge 61, 3, 0, 128, 0, 0, [], j0m), j0, j0, (.aload_n 0, 1, 0, 0, 0, 0, [], j0m), (.getfield 25, 3, 6, 1, 0, 1, [2135], j0m), 
  j0, j0, (.iload_n 1, 1, 1, 0, 0, 0, [], j0m), (.invokevirtual 163, 3, 9, 2, 1, 0, [3217, 3118, 3119, 1011, 3120], m_Tokens_letterAt), j0, j0, (.istore_n 2, 1, 2, 0, 0, 0, [], j0m), (.iload_n 2, 1, 2, 0, 0, 0, [], j0m), 
  (.ifCond .lt 22, 3, 0, 102, 0, 0, [], j0m), j0, j0, (.iload_n 2, 1, 2, 0, 0, 0, [], j0m), (.bipush 26, 2, 0, 0, 0, 0, [], j0m), j0, (.if_icmp .ge 16, 3, 0, 102, 0, 0, [], j0m), j0, j0, (.aload_n 0, 1, 0, 0, 0, 0, [], j0m), 
  (.getfield 12, 3, 6, 0, 0, 0, [2133], j0m), j0, j0, (.getfield 151, 3, 7, 10, 0, 10, [1109], j0m), j0, j0, (.iload_n 2, 1, 2, 0, 0, 0, [], j0m), (.baload, 1, 0, 0, 2, 0, [], j0m), (.iconst (-1), 1, 0, 0, 0, 0, [], j0m), 
  (.if_icmp .eq 12, 3, 0, 111, 0, 0, [], j0m), j0, j0, (.aload_n 0, 1, 0, 0, 0, 0, [], j0m), (.getfield 25, 3, 6, 1, 0, 1, [2135], j0m), j0, j0, (.iconst 2, 1, 0, 0, 0, 0, [], j0m), (.invokevirtual 55, 3, 9, 2, 1, 0, [3172, 3173, 3174, 1011, 3175], m_Tokens_fail), 
  j0, j0, (.ireturn, 1, 0, 0, 1, 0, [], j0m), (.aload_n 0, 1, 0, 0, 0, 0, [], j0m), (.getfield 12, 3, 6, 0, 0, 0, [2133], j0m), j0, j0, (.getfield 151, 3, 7, 10, 0, 10, [1109], j0m), j0, j0, (.iload_n 2, 1, 2, 0, 0, 0, [], j0m), 
  (.iload_n 1, 1, 1, 0, 0, 0, [], j0m), (.i2b, 1, 0, 0, 0, 0, [], j0m), (.bastore, 1, 0, 0, 2, 0, [], j0m), (.iinc 1 1, 3, 1, 0, 0, 0, [], j0m), j0, j0, (.goto (-66), 3, 0, 59, 0, 0, [], j0m), j0, j0, 
  (.aload_n 0, 1, 0, 0, 0, 0, [], j0m), (.aload_n 0, 1, 0, 0, 0, 0, [], j0m), (.getfield 25, 3, 6, 1, 0, 1, [2135], j0m), j0, j0, (.invokevirtual 160, 3, 9, 1, 1, 0, [3216, 3169, 3170, 1011, 3171], m_Tokens_letterCount), 
  j0, j0, (.invokevirtual 167, 3, 6, 2, 1, 0, [3218, 3220, 10, 1012, 3221], m_RuleReader_rankOthers), j0, j0, (.aload_n 0, 1, 0, 0, 0, 0, [], j0m), (.getfield 12, 3, 6, 0, 0, 0, [2133], j0m), j0, j0, (.iconst 1, 1, 0, 0, 0, 0, [], j0m), 
  (.putfield 65, 3, 7, 11, 0, 11, [1111], j0m), j0, j0, (.aload_n 0, 1, 0, 0, 0, 0, [], j0m), (.getfield 25, 3, 6, 1, 0, 1, [2135], j0m), j0, j0, (.invokevirtual 87, 3, 9, 1, 1, 0, [3163, 3080, 3081, 1011, 3082], m_Tokens_advance), 
  j0, j0, (.iconst 1, 1, 0, 0, 0, 0, [], j0m), (.ireturn, 1, 0, 0, 1, 0, [], j0m)]
set_option maxRecDepth 20000 in
theorem t_RuleReader_readOrder : okT m_RuleReader_readOrder k_RuleReader_readOrder = true := by decide +kernel
def k_RuleReader_rankOthers : List jO := [
  (.iload_n 1, 1, 1, 0, 0, 0, [], j0m), (.istore_n 2, 1, 2, 0, 0, 0, [], j0m), (.iconst 0, 1, 0, 0, 0, 0, [], j0m), (.istore_n 3, 1, 3, 0, 0, 0, [], j0m), (.iload_n 3, 1, 3, 0, 0, 0, [], j0m), (.bipush 26, 2, 0, 0, 0, 0, [], j0m), 
  j0, (.if_icmp .ge 36, 3, 0, 43, 0, 0, [], j0m), j0, j0, (.aload_n 0, 1, 0, 0, 0, 0, [], j0m), (.getfield 12, 3, 6, 0, 0, 0, [2133], j0m), j0, j0, (.getfield 151, 3, 7, 10, 0, 10, [1109], j0m), j0, j0, 
  (.iload_n 3, 1, 3, 0, 0, 0, [], j0m), (.baload, 1, 0, 0, 2, 0, [], j0m), (.iconst (-1), 1, 0, 0, 0, 0, [], j0m), (.if_icmp .ne 17, 3, 0, 37, 0, 0, [], j0m), j0, j0, (.aload_n 0, 1, 0, 0, 0, 0, [], j0m), 
  (.getfield 12, 3, 6, 0, 0, 0, [2133], j0m), j0, j0, (.getfield 151, 3, 7, 10, 0, 10, [1109], j0m), j0, j0, (.iload_n 3, 1, 3, 0, 0, 0, [], j0m), (.iload_n 2, 1, 2, 0, 0, 0, [], j0m), (.i2b, 1, 0, 0, 0, 0, [], j0m), 
  (.bastore, 1, 0, 0, 2, 0, [], j0m), (.iinc 2 1, 3, 2, 0, 0, 0, [], j0m), j0, j0, (.iinc 3 1, 3, 3, 0, 0, 0, [], j0m), j0, j0, (.goto (-36), 3, 0, 4, 0, 0, [], j0m), j0, j0, (.return_, 1, 0, 0, 0, 0, [], j0m)
  ]
set_option maxRecDepth 20000 in
theorem t_RuleReader_rankOthers : okT m_RuleReader_rankOthers k_RuleReader_rankOthers = true := by decide +kernel
def k_RuleReader_refuseFurther : List jO := [
  (.aload_n 0, 1, 0, 0, 0, 0, [], j0m), (.invokevirtual 52, 3, 6, 1, 1, 0, [3226, 3228, 12, 1012, 3229], m_RuleReader_beginsRule), j0, j0, (.ifCond .ne 12, 3, 0, 16, 0, 0, [], j0m), j0, j0, (.aload_n 0, 1, 0, 0, 0, 0, [], j0m), 
  (.getfield 25, 3, 6, 1, 0, 1, [2135], j0m), j0, j0, (.iconst 1, 1, 0, 0, 0, 0, [], j0m), (.invokevirtual 55, 3, 9, 2, 1, 0, [3172, 3173, 3174, 1011, 3175], m_Tokens_fail), j0, j0, (.ireturn, 1, 0, 0, 1, 0, [], j0m), 
  (.aload_n 0, 1, 0, 0, 0, 0, [], j0m), (.getfield 25, 3, 6, 1, 0, 1, [2135], j0m), j0, j0, (.aload_n 0, 1, 0, 0, 0, 0, [], j0m), (.getfield 25, 3, 6, 1, 0, 1, [2135], j0m), j0, j0, (.ldc 59, 2, 5, 0, 1, 0, [], j0m), 
  j0, (.invokevirtual 61, 3, 9, 2, 1, 0, [3103, 3104, 3105, 1011, 3106], m_Tokens_is), j0, j0, (.ifCond .eq 17, 3, 0, 46, 0, 0, [], j0m), j0, j0, (.aload_n 0, 1, 0, 0, 0, 0, [], j0m), (.getfield 12, 3, 6, 0, 0, 0, [2133], j0m), 
  j0, j0, (.getfield 65, 3, 7, 11, 0, 11, [1111], j0m), j0, j0, (.ifCond .eq 7, 3, 0, 46, 0, 0, [], j0m), j0, j0, (.iconst 2, 1, 0, 0, 0, 0, [], j0m), (.goto 4, 3, 0, 47, 0, 0, [], j0m), j0, j0, (.iconst 3, 1, 0, 0, 0, 0, [], j0m), 
  (.invokevirtual 55, 3, 9, 2, 1, 0, [3172, 3173, 3174, 1011, 3175], m_Tokens_fail), j0, j0, (.ireturn, 1, 0, 0, 1, 0, [], j0m)]
set_option maxRecDepth 20000 in
theorem t_RuleReader_refuseFurther : okT m_RuleReader_refuseFurther k_RuleReader_refuseFurther = true := by decide +kernel
def k_RuleReader_beginsRule : List jO := [
  (.aload_n 0, 1, 0, 0, 0, 0, [], j0m), (.getfield 25, 3, 6, 1, 0, 1, [2135], j0m), j0, j0, (.ldc 69, 2, 0, 0, 1, 0, [], j0m), j0, (.invokevirtual 61, 3, 9, 2, 1, 0, [3103, 3104, 3105, 1011, 3106], m_Tokens_is), 
  j0, j0, (.ifCond .ne 39, 3, 0, 48, 0, 0, [], j0m), j0, j0, (.aload_n 0, 1, 0, 0, 0, 0, [], j0m), (.getfield 25, 3, 6, 1, 0, 1, [2135], j0m), j0, j0, (.ldc 71, 2, 2, 0, 1, 0, [], j0m), j0, (.invokevirtual 61, 3, 9, 2, 1, 0, [3103, 3104, 3105, 1011, 3106], m_Tokens_is), 
  j0, j0, (.ifCond .ne 27, 3, 0, 48, 0, 0, [], j0m), j0, j0, (.aload_n 0, 1, 0, 0, 0, 0, [], j0m), (.getfield 25, 3, 6, 1, 0, 1, [2135], j0m), j0, j0, (.ldc 73, 2, 3, 0, 1, 0, [], j0m), j0, (.invokevirtual 61, 3, 9, 2, 1, 0, [3103, 3104, 3105, 1011, 3106], m_Tokens_is), 
  j0, j0, (.ifCond .ne 15, 3, 0, 48, 0, 0, [], j0m), j0, j0, (.aload_n 0, 1, 0, 0, 0, 0, [], j0m), (.getfield 25, 3, 6, 1, 0, 1, [2135], j0m), j0, j0, (.ldc 59, 2, 5, 0, 1, 0, [], j0m), j0, (.invokevirtual 61, 3, 9, 2, 1, 0, [3103, 3104, 3105, 1011, 3106], m_Tokens_is), 
  j0, j0, (.ifCond .eq 7, 3, 0, 52, 0, 0, [], j0m), j0, j0, (.iconst 1, 1, 0, 0, 0, 0, [], j0m), (.goto 4, 3, 0, 53, 0, 0, [], j0m), j0, j0, (.iconst 0, 1, 0, 0, 0, 0, [], j0m), (.ireturn, 1, 0, 0, 1, 0, [], j0m)
  ]
set_option maxRecDepth 20000 in
theorem t_RuleReader_beginsRule : okT m_RuleReader_beginsRule k_RuleReader_beginsRule = true := by decide +kernel
def k_Rules_foldAll : List jO := [
  (.iconst 0, 1, 0, 0, 0, 0, [], j0m), (.istore_n 1, 1, 1, 0, 0, 0, [], j0m), (.iload_n 1, 1, 1, 0, 0, 0, [], j0m), (.bipush 20, 2, 0, 0, 0, 0, [], j0m), j0, (.if_icmp .ge 33, 3, 0, 38, 0, 0, [], j0m), 
  j0, j0, (.aload_n 0, 1, 0, 0, 0, 0, [], j0m), (.getfield 30, 3, 7, 4, 0, 4, [1091], j0m), j0, j0, (.iload_n 1, 1, 1, 0, 0, 0, [], j0m), (.aload_n 0, 1, 0, 0, 0, 0, [], j0m), (.getfield 15, 3, 7, 1, 0, 1, [1080], j0m), 
  j0, j0, (.invokevirtual 76, 3, 4, 3, 1, 0, [3234, 3235, 3236, 1004, 3237], m_KeyRow_map), j0, j0, (.aload_n 0, 1, 0, 0, 0, 0, [], j0m), (.getfield 37, 3, 7, 6, 0, 6, [1096], j0m), j0, j0, (.iload_n 1, 1, 1, 0, 0, 0, [], j0m), 
  (.aload_n 0, 1, 0, 0, 0, 0, [], j0m), (.getfield 15, 3, 7, 1, 0, 1, [1080], j0m), j0, j0, (.invokevirtual 76, 3, 4, 3, 1, 0, [3234, 3235, 3236, 1004, 3237], m_KeyRow_map), j0, j0, (.iinc 1 1, 3, 1, 0, 0, 0, [], j0m), 
  j0, j0, (.goto (-33), 3, 0, 2, 0, 0, [], j0m), j0, j0, (.iconst 0, 1, 0, 0, 0, 0, [], j0m), (.istore_n 1, 1, 1, 0, 0, 0, [], j0m), (.iload_n 1, 1, 1, 0, 0, 0, [], j0m), (.bipush 80, 2, 0, 0, 0, 0, [], j0m), 
  j0, (.if_icmp .ge 21, 3, 0, 64, 0, 0, [], j0m), j0, j0, (.aload_n 0, 1, 0, 0, 0, 0, [], j0m), (.getfield 43, 3, 7, 8, 0, 8, [1101], j0m), j0, j0, (.iload_n 1, 1, 1, 0, 0, 0, [], j0m), (.aload_n 0, 1, 0, 0, 0, 0, [], j0m), 
  (.getfield 15, 3, 7, 1, 0, 1, [1080], j0m), j0, j0, (.invokevirtual 76, 3, 4, 3, 1, 0, [3234, 3235, 3236, 1004, 3237], m_KeyRow_map), j0, j0, (.iinc 1 1, 3, 1, 0, 0, 0, [], j0m), j0, j0, (.goto (-21), 3, 0, 40, 0, 0, [], j0m), 
  j0, j0, (.return_, 1, 0, 0, 0, 0, [], j0m)]
set_option maxRecDepth 20000 in
theorem t_Rules_foldAll : okT m_Rules_foldAll k_Rules_foldAll = true := by decide +kernel
def k_KeyRow_map : List jO := [
  (.iload_n 1, 1, 1, 0, 0, 0, [], j0m), (.ifCond .lt 37, 3, 0, 38, 0, 0, [], j0m), j0, j0, (.iload_n 1, 1, 1, 0, 0, 0, [], j0m), (.aload_n 0, 1, 0, 0, 0, 0, [], j0m), (.getfield 13, 3, 4, 0, 0, 0, [1051], j0m), 
  j0, j0, (.arraylength, 1, 0, 0, 0, 0, [], j0m), (.if_icmp .ge 28, 3, 0, 38, 0, 0, [], j0m), j0, j0, (.aload_n 0, 1, 0, 0, 0, 0, [], j0m), (.iload_n 1, 1, 1, 0, 0, 0, [], j0m), (.aload_n 0, 1, 0, 0, 0, 0, [], j0m), 
  (.getfield 13, 3, 4, 0, 0, 0, [1051], j0m), j0, j0, (.iload_n 1, 1, 1, 0, 0, 0, [], j0m), (.laload, 1, 0, 0, 0, 0, [], j0m), (.aload_n 2, 1, 2, 0, 0, 0, [], j0m), (.invokestatic 41, 3, 0, 2, 0, 0, [3238, 3239, 1009, 4000], m_Key_mapped), 
  j0, j0, (.aload_n 0, 1, 0, 0, 0, 0, [], j0m), (.getfield 19, 3, 4, 1, 0, 1, [1057], j0m), j0, j0, (.iload_n 1, 1, 1, 0, 0, 0, [], j0m), (.laload, 1, 0, 0, 0, 0, [], j0m), (.aload_n 2, 1, 2, 0, 0, 0, [], j0m), 
  (.invokestatic 41, 3, 0, 2, 0, 0, [3238, 3239, 1009, 4000], m_Key_mapped), j0, j0, (.invokevirtual 37, 3, 4, 4, 1, 0, [4002, 3199, 3200, 1004, 3201], m_KeyRow_put), j0, j0, (.return_, 1, 0, 0, 0, 0, [], j0m)
  ]
set_option maxRecDepth 20000 in
theorem t_KeyRow_map : okT m_KeyRow_map k_KeyRow_map = true := by decide +kernel
def k_Key_mapped : List jO := [
  (.lconst 0, 1, 0, 0, 0, 0, [], j0m), (.lstore_n 3, 1, 3, 0, 0, 0, [], j0m), (.bipush 45, 2, 0, 0, 0, 0, [], j0m), j0, (.istore 5, 2, 5, 0, 0, 0, [], j0m), j0, (.iload 5, 2, 5, 0, 0, 0, [], j0m), j0, 
  (.ifCond .lt 47, 3, 0, 55, 0, 0, [], j0m), j0, j0, (.lload_n 0, 1, 0, 0, 0, 0, [], j0m), (.iload 5, 2, 5, 0, 0, 0, [], j0m), j0, (.lshr, 1, 0, 0, 0, 0, [], j0m), (.ldc2_w 26, 3, 0, 0, 0, 31, [4001], j0m), 
  j0, j0, (.land, 1, 0, 0, 0, 0, [], j0m), (.l2i, 1, 0, 0, 0, 0, [], j0m), (.iconst 1, 1, 0, 0, 0, 0, [], j0m), (.isub, 1, 0, 0, 0, 0, [], j0m), (.istore 6, 2, 6, 0, 0, 0, [], j0m), j0, (.iload 6, 2, 6, 0, 0, 0, [], j0m), 
  j0, (.ifCond .lt 23, 3, 0, 49, 0, 0, [], j0m), j0, j0, (.iload 6, 2, 6, 0, 0, 0, [], j0m), j0, (.aload_n 2, 1, 2, 0, 0, 0, [], j0m), (.arraylength, 1, 0, 0, 0, 0, [], j0m), (.if_icmp .ge 16, 3, 0, 49, 0, 0, [], j0m), 
  j0, j0, (.lload_n 3, 1, 3, 0, 0, 0, [], j0m), (.aload_n 2, 1, 2, 0, 0, 0, [], j0m), (.iload 6, 2, 6, 0, 0, 0, [], j0m), j0, (.baload, 1, 0, 0, 2, 0, [], j0m), (.i2l, 1, 0, 0, 0, 0, [], j0m), (.lconst 1, 1, 0, 0, 0, 1, [], j0m), 
  (.ladd, 1, 0, 0, 0, 0, [], j0m), (.iload 5, 2, 5, 0, 0, 0, [], j0m), j0, (.lshl, 1, 0, 0, 0, 0, [], j0m), (.lor, 1, 0, 0, 0, 0, [], j0m), (.lstore_n 3, 1, 3, 0, 0, 0, [], j0m), (.iinc 5 (-5), 3, 5, 0, 0, 0, [], j0m), 
  j0, j0, (.goto (-46), 3, 0, 6, 0, 0, [], j0m), j0, j0, (.lload_n 3, 1, 3, 0, 0, 0, [], j0m), (.lreturn, 1, 0, 0, 0, 0, [], j0m)]
set_option maxRecDepth 20000 in
theorem t_Key_mapped : okT m_Key_mapped k_Key_mapped = true := by decide +kernel
def k_Rules_copyFrom : List jO := [
  (.aload_n 0, 1, 0, 0, 0, 0, [], j0m), (.aload_n 1, 1, 1, 0, 0, 0, [], j0m), (.getfield 9, 3, 7, 0, 0, 0, [1077], j0m), j0, j0, (.putfield 9, 3, 7, 0, 0, 0, [1077], j0m), j0, j0, (.aload_n 0, 1, 0, 0, 0, 0, [], j0m), 
  (.aload_n 1, 1, 1, 0, 0, 0, [], j0m), (.getfield 22, 3, 7, 3, 0, 3, [1088], j0m), j0, j0, (.putfield 22, 3, 7, 3, 0, 3, [1088], j0m), j0, j0, (.aload_n 0, 1, 0, 0, 0, 0, [], j0m), (.aload_n 1, 1, 1, 0, 0, 0, [], j0m), 
  (.getfield 34, 3, 7, 5, 0, 5, [1093], j0m), j0, j0, (.putfield 34, 3, 7, 5, 0, 5, [1093], j0m), j0, j0, (.aload_n 0, 1, 0, 0, 0, 0, [], j0m), (.aload_n 1, 1, 1, 0, 0, 0, [], j0m), (.getfield 40, 3, 7, 7, 0, 7, [1098], j0m), 
  j0, j0, (.putfield 40, 3, 7, 7, 0, 7, [1098], j0m), j0, j0, (.aload_n 0, 1, 0, 0, 0, 0, [], j0m), (.aload_n 1, 1, 1, 0, 0, 0, [], j0m), (.getfield 53, 3, 7, 11, 0, 11, [1110], j0m), j0, j0, (.putfield 53, 3, 7, 11, 0, 11, [1110], j0m), 
  j0, j0, (.aload_n 1, 1, 1, 0, 0, 0, [], j0m), (.getfield 15, 3, 7, 1, 0, 1, [1080], j0m), j0, j0, (.iconst 0, 1, 0, 0, 0, 0, [], j0m), (.aload_n 0, 1, 0, 0, 0, 0, [], j0m), (.getfield 15, 3, 7, 1, 0, 1, [1080], j0m), 
  j0, j0, (.iconst 0, 1, 0, 0, 0, 0, [], j0m), (.bipush 26, 2, 0, 0, 0, 0, [], j0m), j0, (.invokestatic 66, 3, 2, 5, 3, 0, [4007, 4009, 4008, 1020], j0m), j0, j0, (.aload_n 1, 1, 1, 0, 0, 0, [], j0m), 
  (.getfield 50, 3, 7, 10, 0, 10, [1107], j0m), j0, j0, (.iconst 0, 1, 0, 0, 0, 0, [], j0m), (.aload_n 0, 1, 0, 0, 0, 0, [], j0m), (.getfield 50, 3, 7, 10, 0, 10, [1107], j0m), j0, j0, (.iconst 0, 1, 0, 0, 0, 0, [], j0m), 
  (.bipush 26, 2, 0, 0, 0, 0, [], j0m), j0, (.invokestatic 66, 3, 2, 5, 3, 0, [4007, 4009, 4008, 1020], j0m), j0, j0, (.aload_n 1, 1, 1, 0, 0, 0, [], j0m), (.getfield 19, 3, 7, 2, 0, 2, [1086], j0m), j0, 
  j0, (.iconst 0, 1, 0, 0, 0, 0, [], j0m), (.aload_n 0, 1, 0, 0, 0, 0, [], j0m), (.getfield 19, 3, 7, 2, 0, 2, [1086], j0m), j0, j0, (.iconst 0, 1, 0, 0, 0, 0, [], j0m), (.bipush 26, 2, 0, 0, 0, 0, [], j0m), 
  j0, (.invokestatic 66, 3, 2, 5, 3, 0, [4007, 4009, 4008, 1020], j0m), j0, j0, (.aload_n 1, 1, 1, 0, 0, 0, [], j0m), (.getfield 46, 3, 7, 9, 0, 9, [1104], j0m), j0, j0, (.iconst 0, 1, 0, 0, 0, 0, [], j0m), 
  (.aload_n 0, 1, 0, 0, 0, 0, [], j0m), (.getfield 46, 3, 7, 9, 0, 9, [1104], j0m), j0, j0, (.iconst 0, 1, 0, 0, 0, 0, [], j0m), (.bipush 20, 2, 0, 0, 0, 0, [], j0m), j0, (.invokestatic 66, 3, 1, 5, 3, 0, [4007, 4009, 4008, 1020], j0m), 
  j0, j0, (.aload_n 0, 1, 0, 0, 0, 0, [], j0m), (.getfield 30, 3, 7, 4, 0, 4, [1091], j0m), j0, j0, (.aload_n 1, 1, 1, 0, 0, 0, [], j0m), (.getfield 30, 3, 7, 4, 0, 4, [1091], j0m), j0, j0, (.invokevirtual 72, 3, 4, 2, 1, 0, [4010, 4011, 4012, 1004, 4013], m_KeyRow_copyFrom), 
  j0, j0, (.aload_n 0, 1, 0, 0, 0, 0, [], j0m), (.getfield 37, 3, 7, 6, 0, 6, [1096], j0m), j0, j0, (.aload_n 1, 1, 1, 0, 0, 0, [], j0m), (.getfield 37, 3, 7, 6, 0, 6, [1096], j0m), j0, j0, (.invokevirtual 72, 3, 4, 2, 1, 0, [4010, 4011, 4012, 1004, 4013], m_KeyRow_copyFrom), 
  j0, j0, (.aload_n 0, 1, 0, 0, 0, 0, [], j0m), (.getfield 43, 3, 7, 8, 0, 8, [1101], j0m), j0, j0, (.aload_n 1, 1, 1, 0, 0, 0, [], j0m), (.getfield 43, 3, 7, 8, 0, 8, [1101], j0m), j0, j0, (.invokevirtual 72, 3, 4, 2, 1, 0, [4010, 4011, 4012, 1004, 4013], m_KeyRow_copyFrom), 
  j0, j0, (.return_, 1, 0, 0, 0, 0, [], j0m)]
set_option maxRecDepth 20000 in
theorem t_Rules_copyFrom : okT m_Rules_copyFrom k_Rules_copyFrom = true := by decide +kernel
def k_KeyRow_copyFrom : List jO := [
  (.aload_n 0, 1, 0, 0, 0, 0, [], j0m), (.getfield 13, 3, 4, 0, 0, 0, [1051], j0m), j0, j0, (.arraylength, 1, 0, 0, 0, 0, [], j0m), (.aload_n 1, 1, 1, 0, 0, 0, [], j0m), (.getfield 13, 3, 4, 0, 0, 0, [1051], j0m), 
  j0, j0, (.arraylength, 1, 0, 0, 0, 0, [], j0m), (.invokestatic 22, 3, 0, 2, 1, 0, [4014, 3076, 1005, 3077], j0m), j0, j0, (.istore_n 2, 1, 2, 0, 0, 0, [], j0m), (.aload_n 1, 1, 1, 0, 0, 0, [], j0m), 
  (.getfield 13, 3, 4, 0, 0, 0, [1051], j0m), j0, j0, (.iconst 0, 1, 0, 0, 0, 0, [], j0m), (.aload_n 0, 1, 0, 0, 0, 0, [], j0m), (.getfield 13, 3, 4, 0, 0, 0, [1051], j0m), j0, j0, (.iconst 0, 1, 0, 0, 0, 0, [], j0m), 
  (.iload_n 2, 1, 2, 0, 0, 0, [], j0m), (.invokestatic 31, 3, 4, 5, 3, 0, [4015, 4009, 4008, 1020], j0m), j0, j0, (.aload_n 1, 1, 1, 0, 0, 0, [], j0m), (.getfield 19, 3, 4, 1, 0, 1, [1057], j0m), j0, j0, 
  (.iconst 0, 1, 0, 0, 0, 0, [], j0m), (.aload_n 0, 1, 0, 0, 0, 0, [], j0m), (.getfield 19, 3, 4, 1, 0, 1, [1057], j0m), j0, j0, (.iconst 0, 1, 0, 0, 0, 0, [], j0m), (.iload_n 2, 1, 2, 0, 0, 0, [], j0m), 
  (.invokestatic 31, 3, 4, 5, 3, 0, [4015, 4009, 4008, 1020], j0m), j0, j0, (.return_, 1, 0, 0, 0, 0, [], j0m)]
set_option maxRecDepth 20000 in
theorem t_KeyRow_copyFrom : okT m_KeyRow_copyFrom k_KeyRow_copyFrom = true := by decide +kernel
def k_Image_lineCount : List jO := [
  (.iload_n 1, 1, 1, 0, 0, 0, [], j0m), (.invokestatic 57, 3, 0, 1, 4, 0, [4029, 1001, 4030], m_WordPlaces_isEdition), j0, j0, (.ifCond .eq 12, 3, 0, 16, 0, 0, [], j0m), j0, j0, (.aload_n 0, 1, 0, 0, 0, 0, [], j0m), 
  (.getfield 32, 3, 2, 5, 0, 5, [1148], j0m), j0, j0, (.iload_n 1, 1, 1, 0, 0, 0, [], j0m), (.iaload, 1, 0, 0, 0, 0, [], j0m), (.goto 4, 3, 0, 17, 0, 0, [], j0m), j0, j0, (.iconst 0, 1, 0, 0, 0, 0, [], j0m), 
  (.ireturn, 1, 0, 0, 0, 0, [], j0m)]
set_option maxRecDepth 20000 in
theorem t_Image_lineCount : okT m_Image_lineCount k_Image_lineCount = true := by decide +kernel
def k_Image_wordCountWith : List jO := [
  (.bipush 40, 2, 0, 0, 0, 0, [], j0m), j0, (.aload_n 0, 1, 0, 0, 0, 0, [], j0m), (.iload_n 1, 1, 1, 0, 0, 0, [], j0m), (.invokevirtual 78, 3, 2, 2, 1, 0, [4052, 4036, 4037, 1002, 4038], m_Image_lineCount), 
  j0, j0, (.iload_n 2, 1, 2, 0, 0, 0, [], j0m), (.iconst 1, 1, 0, 0, 0, 0, [], j0m), (.iadd, 1, 0, 0, 0, 0, [], j0m), (.invokestatic 69, 3, 0, 2, 2, 0, [4053, 1049, 1005, 1050], j0m), j0, j0, (.invokestatic 86, 3, 0, 2, 1, 0, [4054, 3076, 1005, 3077], j0m), 
  j0, j0, (.istore 5, 2, 5, 0, 0, 0, [], j0m), j0, (.iconst 0, 1, 0, 0, 0, 0, [], j0m), (.istore 6, 2, 6, 0, 0, 0, [], j0m), j0, (.iconst 0, 1, 0, 0, 0, 0, [], j0m), (.istore 7, 2, 7, 0, 0, 0, [], j0m), 
  j0, (.iconst 0, 1, 0, 0, 0, 0, [], j0m), (.istore 8, 2, 8, 0, 0, 0, [], j0m), j0, (.iload 8, 2, 8, 0, 0, 0, [], j0m), j0, (.iload 5, 2, 5, 0, 0, 0, [], j0m), j0, (.if_icmp .ge 104, 3, 0, 135, 0, 0, [], j0m), 
  j0, j0, (.iload_n 1, 1, 1, 0, 0, 0, [], j0m), (.invokestatic 57, 3, 0, 1, 4, 0, [4029, 1001, 4030], m_WordPlaces_isEdition), j0, j0, (.ifCond .eq 97, 3, 0, 135, 0, 0, [], j0m), j0, j0, (.iload_n 1, 1, 1, 0, 0, 0, [], j0m), 
  (.bipush 40, 2, 0, 0, 0, 0, [], j0m), j0, (.imul, 1, 0, 0, 0, 0, [], j0m), (.iload 8, 2, 8, 0, 0, 0, [], j0m), j0, (.iadd, 1, 0, 0, 0, 0, [], j0m), (.istore 9, 2, 9, 0, 0, 0, [], j0m), j0, (.iload 8, 2, 8, 0, 0, 0, [], j0m), 
  j0, (.iload_n 2, 1, 2, 0, 0, 0, [], j0m), (.if_icmp .ne 12, 3, 0, 65, 0, 0, [], j0m), j0, j0, (.aload_n 3, 1, 3, 0, 0, 0, [], j0m), (.iload 4, 2, 4, 0, 0, 0, [], j0m), j0, (.invokestatic 61, 3, 0, 2, 0, 0, [4055, 4056, 1002, 4057], m_Image_runsIn), 
  j0, j0, (.goto 10, 3, 0, 72, 0, 0, [], j0m), j0, j0, (.aload_n 0, 1, 0, 0, 0, 0, [], j0m), (.getfield 26, 3, 2, 3, 0, 3, [1146], j0m), j0, j0, (.iload 9, 2, 9, 0, 0, 0, [], j0m), j0, (.iaload, 1, 0, 0, 0, 0, [], j0m), 
  (.istore 10, 2, 10, 0, 0, 0, [], j0m), j0, (.iload 6, 2, 6, 0, 0, 0, [], j0m), j0, (.iload 10, 2, 10, 0, 0, 0, [], j0m), j0, (.iload 7, 2, 7, 0, 0, 0, [], j0m), j0, (.ifCond .eq 12, 3, 0, 92, 0, 0, [], j0m), 
  j0, j0, (.iload 10, 2, 10, 0, 0, 0, [], j0m), j0, (.ifCond .le 7, 3, 0, 92, 0, 0, [], j0m), j0, j0, (.iconst 1, 1, 0, 0, 0, 0, [], j0m), (.goto 4, 3, 0, 93, 0, 0, [], j0m), j0, j0, (.iconst 0, 1, 0, 0, 0, 0, [], j0m), 
  (.isub, 1, 0, 0, 0, 0, [], j0m), (.iadd, 1, 0, 0, 0, 0, [], j0m), (.istore 6, 2, 6, 0, 0, 0, [], j0m), j0, (.iload 8, 2, 8, 0, 0, 0, [], j0m), j0, (.iload_n 2, 1, 2, 0, 0, 0, [], j0m), (.if_icmp .ne 12, 3, 0, 112, 0, 0, [], j0m), 
  j0, j0, (.aload_n 3, 1, 3, 0, 0, 0, [], j0m), (.iload 4, 2, 4, 0, 0, 0, [], j0m), j0, (.invokestatic 65, 3, 0, 2, 0, 0, [4059, 4060, 1002, 4061], m_Image_endsInDash), j0, j0, (.goto 18, 3, 0, 127, 0, 0, [], j0m), 
  j0, j0, (.aload_n 0, 1, 0, 0, 0, 0, [], j0m), (.getfield 29, 3, 2, 4, 0, 4, [1147], j0m), j0, j0, (.iload 9, 2, 9, 0, 0, 0, [], j0m), j0, (.baload, 1, 0, 0, 2, 0, [], j0m), (.ifCond .eq 7, 3, 0, 126, 0, 0, [], j0m), 
  j0, j0, (.iconst 1, 1, 0, 0, 0, 0, [], j0m), (.goto 4, 3, 0, 127, 0, 0, [], j0m), j0, j0, (.iconst 0, 1, 0, 0, 0, 0, [], j0m), (.istore 7, 2, 7, 0, 0, 0, [], j0m), j0, (.iinc 8 1, 3, 8, 0, 0, 0, [], j0m), 
  j0, j0, (.goto (-105), 3, 0, 27, 0, 0, [], j0m), j0, j0, (.iload 6, 2, 6, 0, 0, 0, [], j0m), j0, (.ireturn, 1, 0, 0, 0, 0, [], j0m)]
set_option maxRecDepth 20000 in
theorem t_Image_wordCountWith : okT m_Image_wordCountWith k_Image_wordCountWith = true := by decide +kernel
def k_Image_runsIn : List jO := [
  (.iconst 0, 1, 0, 0, 0, 0, [], j0m), (.istore_n 2, 1, 2, 0, 0, 0, [], j0m), (.iconst 0, 1, 0, 0, 0, 0, [], j0m), (.istore_n 3, 1, 3, 0, 0, 0, [], j0m), (.iconst 0, 1, 0, 0, 0, 0, [], j0m), (.istore 4, 2, 4, 0, 0, 0, [], j0m), 
  j0, (.iload 4, 2, 4, 0, 0, 0, [], j0m), j0, (.iload_n 1, 1, 1, 0, 0, 0, [], j0m), (.if_icmp .ge 45, 3, 0, 55, 0, 0, [], j0m), j0, j0, (.iload 4, 2, 4, 0, 0, 0, [], j0m), j0, (.aload_n 0, 1, 0, 0, 0, 0, [], j0m), 
  (.arraylength, 1, 0, 0, 0, 0, [], j0m), (.if_icmp .ge 38, 3, 0, 55, 0, 0, [], j0m), j0, j0, (.aload_n 0, 1, 0, 0, 0, 0, [], j0m), (.iload 4, 2, 4, 0, 0, 0, [], j0m), j0, (.baload, 1, 0, 0, 2, 0, [], j0m), 
  (.invokestatic 75, 3, 0, 1, 4, 0, [3088, 1001, 3089], m_WordPlaces_isLetter), j0, j0, (.istore 5, 2, 5, 0, 0, 0, [], j0m), j0, (.iload_n 2, 1, 2, 0, 0, 0, [], j0m), (.iload 5, 2, 5, 0, 0, 0, [], j0m), 
  j0, (.ifCond .eq 11, 3, 0, 43, 0, 0, [], j0m), j0, j0, (.iload_n 3, 1, 3, 0, 0, 0, [], j0m), (.ifCond .ne 7, 3, 0, 43, 0, 0, [], j0m), j0, j0, (.iconst 1, 1, 0, 0, 0, 0, [], j0m), (.goto 4, 3, 0, 44, 0, 0, [], j0m), 
  j0, j0, (.iconst 0, 1, 0, 0, 0, 0, [], j0m), (.iadd, 1, 0, 0, 0, 0, [], j0m), (.istore_n 2, 1, 2, 0, 0, 0, [], j0m), (.iload 5, 2, 5, 0, 0, 0, [], j0m), j0, (.istore_n 3, 1, 3, 0, 0, 0, [], j0m), (.iinc 4 1, 3, 4, 0, 0, 0, [], j0m), 
  j0, j0, (.goto (-45), 3, 0, 7, 0, 0, [], j0m), j0, j0, (.iload_n 2, 1, 2, 0, 0, 0, [], j0m), (.ireturn, 1, 0, 0, 0, 0, [], j0m)]
set_option maxRecDepth 20000 in
theorem t_Image_runsIn : okT m_Image_runsIn k_Image_runsIn = true := by decide +kernel
def k_Image_endsInDash : List jO := [
  (.iload_n 1, 1, 1, 0, 0, 0, [], j0m), (.iconst 2, 1, 0, 0, 0, 0, [], j0m), (.if_icmp .lt 34, 3, 0, 36, 0, 0, [], j0m), j0, j0, (.iload_n 1, 1, 1, 0, 0, 0, [], j0m), (.aload_n 0, 1, 0, 0, 0, 0, [], j0m), 
  (.arraylength, 1, 0, 0, 0, 0, [], j0m), (.if_icmp .gt 28, 3, 0, 36, 0, 0, [], j0m), j0, j0, (.aload_n 0, 1, 0, 0, 0, 0, [], j0m), (.iload_n 1, 1, 1, 0, 0, 0, [], j0m), (.iconst 1, 1, 0, 0, 0, 0, [], j0m), 
  (.isub, 1, 0, 0, 0, 0, [], j0m), (.baload, 1, 0, 0, 2, 0, [], j0m), (.bipush 45, 2, 0, 0, 0, 0, [], j0m), j0, (.if_icmp .ne 18, 3, 0, 36, 0, 0, [], j0m), j0, j0, (.aload_n 0, 1, 0, 0, 0, 0, [], j0m), 
  (.iload_n 1, 1, 1, 0, 0, 0, [], j0m), (.iconst 2, 1, 0, 0, 0, 0, [], j0m), (.isub, 1, 0, 0, 0, 0, [], j0m), (.baload, 1, 0, 0, 2, 0, [], j0m), (.invokestatic 75, 3, 0, 1, 4, 0, [3088, 1001, 3089], m_WordPlaces_isLetter), 
  j0, j0, (.ifCond .eq 7, 3, 0, 36, 0, 0, [], j0m), j0, j0, (.iconst 1, 1, 0, 0, 0, 0, [], j0m), (.goto 4, 3, 0, 37, 0, 0, [], j0m), j0, j0, (.iconst 0, 1, 0, 0, 0, 0, [], j0m), (.ireturn, 1, 0, 0, 1, 0, [], j0m)
  ]
set_option maxRecDepth 20000 in
theorem t_Image_endsInDash : okT m_Image_endsInDash k_Image_endsInDash = true := by decide +kernel
def k_Image_putLine : List jO := [
  (.iload_n 1, 1, 1, 0, 0, 0, [], j0m), (.invokestatic 57, 3, 0, 1, 4, 0, [4029, 1001, 4030], m_WordPlaces_isEdition), j0, j0, (.ifCond .eq 32, 3, 0, 36, 0, 0, [], j0m), j0, j0, (.iload_n 2, 1, 2, 0, 0, 0, [], j0m), 
  (.ifCond .lt 28, 3, 0, 36, 0, 0, [], j0m), j0, j0, (.iload_n 2, 1, 2, 0, 0, 0, [], j0m), (.bipush 40, 2, 0, 0, 0, 0, [], j0m), j0, (.if_icmp .ge 22, 3, 0, 36, 0, 0, [], j0m), j0, j0, (.iload 4, 2, 4, 0, 0, 0, [], j0m), 
  j0, (.ifCond .lt 17, 3, 0, 36, 0, 0, [], j0m), j0, j0, (.iload 4, 2, 4, 0, 0, 0, [], j0m), j0, (.bipush 60, 2, 0, 0, 0, 0, [], j0m), j0, (.if_icmp .gt 10, 3, 0, 36, 0, 0, [], j0m), j0, j0, (.iload 4, 2, 4, 0, 0, 0, [], j0m), 
  j0, (.aload_n 3, 1, 3, 0, 0, 0, [], j0m), (.arraylength, 1, 0, 0, 0, 0, [], j0m), (.if_icmp .le 4, 3, 0, 37, 0, 0, [], j0m), j0, j0, (.return_, 1, 0, 0, 0, 0, [], j0m), (.iload_n 1, 1, 1, 0, 0, 0, [], j0m), 
  (.bipush 40, 2, 0, 0, 0, 0, [], j0m), j0, (.imul, 1, 0, 0, 0, 0, [], j0m), (.iload_n 2, 1, 2, 0, 0, 0, [], j0m), (.iadd, 1, 0, 0, 0, 0, [], j0m), (.istore 5, 2, 5, 0, 0, 0, [], j0m), j0, (.aload_n 3, 1, 3, 0, 0, 0, [], j0m), 
  (.iconst 0, 1, 0, 0, 0, 0, [], j0m), (.aload_n 0, 1, 0, 0, 0, 0, [], j0m), (.getfield 18, 3, 2, 1, 0, 1, [1144], j0m), j0, j0, (.iload 5, 2, 5, 0, 0, 0, [], j0m), j0, (.bipush 60, 2, 0, 0, 0, 0, [], j0m), 
  j0, (.imul, 1, 0, 0, 0, 0, [], j0m), (.iload 4, 2, 4, 0, 0, 0, [], j0m), j0, (.invokestatic 48, 3, 2, 5, 3, 0, [4066, 4009, 4008, 1020], j0m), j0, j0, (.aload_n 0, 1, 0, 0, 0, 0, [], j0m), (.getfield 22, 3, 2, 2, 0, 2, [1145], j0m), 
  j0, j0, (.iload 5, 2, 5, 0, 0, 0, [], j0m), j0, (.iload 4, 2, 4, 0, 0, 0, [], j0m), j0, (.iastore, 1, 0, 0, 0, 0, [], j0m), (.aload_n 0, 1, 0, 0, 0, 0, [], j0m), (.getfield 26, 3, 2, 3, 0, 3, [1146], j0m), 
  j0, j0, (.iload 5, 2, 5, 0, 0, 0, [], j0m), j0, (.aload_n 3, 1, 3, 0, 0, 0, [], j0m), (.iload 4, 2, 4, 0, 0, 0, [], j0m), j0, (.invokestatic 61, 3, 0, 2, 0, 0, [4055, 4056, 1002, 4057], m_Image_runsIn), 
  j0, j0, (.iastore, 1, 0, 0, 0, 0, [], j0m), (.aload_n 0, 1, 0, 0, 0, 0, [], j0m), (.getfield 29, 3, 2, 4, 0, 4, [1147], j0m), j0, j0, (.iload 5, 2, 5, 0, 0, 0, [], j0m), j0, (.aload_n 3, 1, 3, 0, 0, 0, [], j0m), 
  (.iload 4, 2, 4, 0, 0, 0, [], j0m), j0, (.invokestatic 65, 3, 0, 2, 0, 0, [4059, 4060, 1002, 4061], m_Image_endsInDash), j0, j0, (.ifCond .eq 7, 3, 0, 102, 0, 0, [], j0m), j0, j0, (.iconst 1, 1, 0, 0, 0, 0, [], j0m), 
  (.goto 4, 3, 0, 103, 0, 0, [], j0m), j0, j0, (.iconst 0, 1, 0, 0, 0, 0, [], j0m), (.i2b, 1, 0, 0, 0, 0, [], j0m), (.bastore, 1, 0, 0, 2, 0, [], j0m), (.aload_n 0, 1, 0, 0, 0, 0, [], j0m), (.getfield 32, 3, 2, 5, 0, 5, [1148], j0m), 
  j0, j0, (.iload_n 1, 1, 1, 0, 0, 0, [], j0m), (.aload_n 0, 1, 0, 0, 0, 0, [], j0m), (.getfield 32, 3, 2, 5, 0, 5, [1148], j0m), j0, j0, (.iload_n 1, 1, 1, 0, 0, 0, [], j0m), (.iaload, 1, 0, 0, 0, 0, [], j0m), 
  (.iload_n 2, 1, 2, 0, 0, 0, [], j0m), (.iconst 1, 1, 0, 0, 0, 0, [], j0m), (.iadd, 1, 0, 0, 0, 0, [], j0m), (.invokestatic 69, 3, 0, 2, 2, 0, [4053, 1049, 1005, 1050], j0m), j0, j0, (.iastore, 1, 0, 0, 0, 0, [], j0m), 
  (.return_, 1, 0, 0, 0, 0, [], j0m)]
set_option maxRecDepth 20000 in
theorem t_Image_putLine : okT m_Image_putLine k_Image_putLine = true := by decide +kernel
def k_Image_wordCount : List jO := [
  (.iconst 0, 1, 0, 0, 0, 0, [], j0m), (.istore_n 2, 1, 2, 0, 0, 0, [], j0m), (.iconst 0, 1, 0, 0, 0, 0, [], j0m), (.istore_n 3, 1, 3, 0, 0, 0, [], j0m), (.iload_n 3, 1, 3, 0, 0, 0, [], j0m), (.aload_n 0, 1, 0, 0, 0, 0, [], j0m), 
  (.iload_n 1, 1, 1, 0, 0, 0, [], j0m), (.invokevirtual 78, 3, 2, 2, 1, 0, [4052, 4036, 4037, 1002, 4038], m_Image_lineCount), j0, j0, (.if_icmp .ge 44, 3, 0, 54, 0, 0, [], j0m), j0, j0, (.iload_n 3, 1, 3, 0, 0, 0, [], j0m), 
  (.bipush 40, 2, 0, 0, 0, 0, [], j0m), j0, (.if_icmp .ge 38, 3, 0, 54, 0, 0, [], j0m), j0, j0, (.iload_n 2, 1, 2, 0, 0, 0, [], j0m), (.aload_n 0, 1, 0, 0, 0, 0, [], j0m), (.getfield 26, 3, 2, 3, 0, 3, [1146], j0m), 
  j0, j0, (.iload_n 1, 1, 1, 0, 0, 0, [], j0m), (.bipush 40, 2, 0, 0, 0, 0, [], j0m), j0, (.imul, 1, 0, 0, 0, 0, [], j0m), (.iload_n 3, 1, 3, 0, 0, 0, [], j0m), (.iadd, 1, 0, 0, 0, 0, [], j0m), (.iaload, 1, 0, 0, 0, 0, [], j0m), 
  (.aload_n 0, 1, 0, 0, 0, 0, [], j0m), (.iload_n 1, 1, 1, 0, 0, 0, [], j0m), (.iload_n 3, 1, 3, 0, 0, 0, [], j0m), (.invokevirtual 82, 3, 2, 3, 1, 0, [4075, 4076, 4077, 1002, 4078], m_Image_isCut), j0, 
  j0, (.ifCond .eq 7, 3, 0, 44, 0, 0, [], j0m), j0, j0, (.iconst 1, 1, 0, 0, 0, 0, [], j0m), (.goto 4, 3, 0, 45, 0, 0, [], j0m), j0, j0, (.iconst 0, 1, 0, 0, 0, 0, [], j0m), (.isub, 1, 0, 0, 0, 0, [], j0m), 
  (.iadd, 1, 0, 0, 0, 0, [], j0m), (.istore_n 2, 1, 2, 0, 0, 0, [], j0m), (.iinc 3 1, 3, 3, 0, 0, 0, [], j0m), j0, j0, (.goto (-47), 3, 0, 4, 0, 0, [], j0m), j0, j0, (.iload_n 2, 1, 2, 0, 0, 0, [], j0m), 
  (.ireturn, 1, 0, 0, 0, 0, [], j0m)]
set_option maxRecDepth 20000 in
theorem t_Image_wordCount : okT m_Image_wordCount k_Image_wordCount = true := by decide +kernel
def k_Image_isCut : List jO := [
  (.iload_n 1, 1, 1, 0, 0, 0, [], j0m), (.invokestatic 57, 3, 0, 1, 4, 0, [4029, 1001, 4030], m_WordPlaces_isEdition), j0, j0, (.ifCond .eq 27, 3, 0, 31, 0, 0, [], j0m), j0, j0, (.iload_n 2, 1, 2, 0, 0, 0, [], j0m), 
  (.ifCond .lt 23, 3, 0, 31, 0, 0, [], j0m), j0, j0, (.iload_n 2, 1, 2, 0, 0, 0, [], j0m), (.iconst 1, 1, 0, 0, 0, 0, [], j0m), (.iadd, 1, 0, 0, 0, 0, [], j0m), (.aload_n 0, 1, 0, 0, 0, 0, [], j0m), (.getfield 32, 3, 2, 5, 0, 5, [1148], j0m), 
  j0, j0, (.iload_n 1, 1, 1, 0, 0, 0, [], j0m), (.iaload, 1, 0, 0, 0, 0, [], j0m), (.if_icmp .ge 11, 3, 0, 31, 0, 0, [], j0m), j0, j0, (.iload_n 2, 1, 2, 0, 0, 0, [], j0m), (.iconst 1, 1, 0, 0, 0, 0, [], j0m), 
  (.iadd, 1, 0, 0, 0, 0, [], j0m), (.bipush 40, 2, 0, 0, 0, 0, [], j0m), j0, (.if_icmp .lt 5, 3, 0, 33, 0, 0, [], j0m), j0, j0, (.iconst 0, 1, 0, 0, 0, 0, [], j0m), (.ireturn, 1, 0, 0, 1, 0, [], j0m), 
  (.iload_n 1, 1, 1, 0, 0, 0, [], j0m), (.bipush 40, 2, 0, 0, 0, 0, [], j0m), j0, (.imul, 1, 0, 0, 0, 0, [], j0m), (.iload_n 2, 1, 2, 0, 0, 0, [], j0m), (.iadd, 1, 0, 0, 0, 0, [], j0m), (.istore_n 3, 1, 3, 0, 0, 0, [], j0m), 
  (.aload_n 0, 1, 0, 0, 0, 0, [], j0m), (.getfield 29, 3, 2, 4, 0, 4, [1147], j0m), j0, j0, (.iload_n 3, 1, 3, 0, 0, 0, [], j0m), (.baload, 1, 0, 0, 2, 0, [], j0m), (.ifCond .eq 18, 3, 0, 64, 0, 0, [], j0m), 
  j0, j0, (.aload_n 0, 1, 0, 0, 0, 0, [], j0m), (.getfield 26, 3, 2, 3, 0, 3, [1146], j0m), j0, j0, (.iload_n 3, 1, 3, 0, 0, 0, [], j0m), (.iconst 1, 1, 0, 0, 0, 0, [], j0m), (.iadd, 1, 0, 0, 0, 0, [], j0m), 
  (.iaload, 1, 0, 0, 0, 0, [], j0m), (.ifCond .le 7, 3, 0, 64, 0, 0, [], j0m), j0, j0, (.iconst 1, 1, 0, 0, 0, 0, [], j0m), (.goto 4, 3, 0, 65, 0, 0, [], j0m), j0, j0, (.iconst 0, 1, 0, 0, 0, 0, [], j0m), 
  (.ireturn, 1, 0, 0, 1, 0, [], j0m)]
set_option maxRecDepth 20000 in
theorem t_Image_isCut : okT m_Image_isCut k_Image_isCut = true := by decide +kernel
def k_Slots_isSlot : List jO := [
  (.iload_n 1, 1, 1, 0, 0, 0, [], j0m), (.ifCond .lt 12, 3, 0, 13, 0, 0, [], j0m), j0, j0, (.iload_n 1, 1, 1, 0, 0, 0, [], j0m), (.iconst 4, 1, 0, 0, 0, 0, [], j0m), (.if_icmp .ge 7, 3, 0, 13, 0, 0, [], j0m), 
  j0, j0, (.iconst 1, 1, 0, 0, 0, 0, [], j0m), (.goto 4, 3, 0, 14, 0, 0, [], j0m), j0, j0, (.iconst 0, 1, 0, 0, 0, 0, [], j0m), (.ireturn, 1, 0, 0, 1, 0, [], j0m)]
set_option maxRecDepth 20000 in
theorem t_Slots_isSlot : okT m_Slots_isSlot k_Slots_isSlot = true := by decide +kernel
def k_Slots_isEmpty : List jO := [
  (.aload_n 0, 1, 0, 0, 0, 0, [], j0m), (.iload_n 1, 1, 1, 0, 0, 0, [], j0m), (.invokevirtual 32, 3, 8, 2, 1, 0, [4091, 4084, 4085, 1014, 4086], m_Slots_isSlot), j0, j0, (.ifCond .eq 13, 3, 0, 18, 0, 0, [], j0m), 
  j0, j0, (.aload_n 0, 1, 0, 0, 0, 0, [], j0m), (.getfield 19, 3, 8, 2, 0, 2, [2213], j0m), j0, j0, (.iload_n 1, 1, 1, 0, 0, 0, [], j0m), (.iaload, 1, 0, 0, 0, 0, [], j0m), (.iconst (-1), 1, 0, 0, 0, 0, [], j0m), 
  (.if_icmp .ne 7, 3, 0, 22, 0, 0, [], j0m), j0, j0, (.iconst 1, 1, 0, 0, 0, 0, [], j0m), (.goto 4, 3, 0, 23, 0, 0, [], j0m), j0, j0, (.iconst 0, 1, 0, 0, 0, 0, [], j0m), (.ireturn, 1, 0, 0, 1, 0, [], j0m)
  ]
set_option maxRecDepth 20000 in
theorem t_Slots_isEmpty : okT m_Slots_isEmpty k_Slots_isEmpty = true := by decide +kernel
def k_Slots_widthOf : List jO := [
  (.aload_n 0, 1, 0, 0, 0, 0, [], j0m), (.iload_n 1, 1, 1, 0, 0, 0, [], j0m), (.invokevirtual 32, 3, 8, 2, 1, 0, [4091, 4084, 4085, 1014, 4086], m_Slots_isSlot), j0, j0, (.ifCond .eq 12, 3, 0, 17, 0, 0, [], j0m), 
  j0, j0, (.aload_n 0, 1, 0, 0, 0, 0, [], j0m), (.getfield 15, 3, 8, 1, 0, 1, [2212], j0m), j0, j0, (.iload_n 1, 1, 1, 0, 0, 0, [], j0m), (.iaload, 1, 0, 0, 0, 0, [], j0m), (.goto 4, 3, 0, 18, 0, 0, [], j0m), 
  j0, j0, (.iconst (-1), 1, 0, 0, 0, 0, [], j0m), (.ireturn, 1, 0, 0, 0, 0, [], j0m)]
set_option maxRecDepth 20000 in
theorem t_Slots_widthOf : okT m_Slots_widthOf k_Slots_widthOf = true := by decide +kernel
def k_Slots_takeBytes : List jO := [
  (.aload_n 0, 1, 0, 0, 0, 0, [], j0m), (.iload_n 1, 1, 1, 0, 0, 0, [], j0m), (.invokevirtual 36, 3, 8, 2, 1, 0, [4100, 4088, 4089, 1014, 4090], m_Slots_isEmpty), j0, j0, (.ifCond .eq 7, 3, 0, 12, 0, 0, [], j0m), 
  j0, j0, (.iconst 0, 1, 0, 0, 0, 0, [], j0m), (.goto 14, 3, 0, 23, 0, 0, [], j0m), j0, j0, (.aload_n 0, 1, 0, 0, 0, 0, [], j0m), (.getfield 19, 3, 8, 2, 0, 2, [2213], j0m), j0, j0, (.iload_n 1, 1, 1, 0, 0, 0, [], j0m), 
  (.iaload, 1, 0, 0, 0, 0, [], j0m), (.bipush 60, 2, 0, 0, 0, 0, [], j0m), j0, (.invokestatic 56, 3, 0, 2, 1, 0, [4101, 3076, 1005, 3077], j0m), j0, j0, (.istore_n 2, 1, 2, 0, 0, 0, [], j0m), (.iconst 0, 1, 0, 0, 0, 0, [], j0m), 
  (.istore_n 3, 1, 3, 0, 0, 0, [], j0m), (.iload_n 3, 1, 3, 0, 0, 0, [], j0m), (.iload_n 2, 1, 2, 0, 0, 0, [], j0m), (.if_icmp .ge 28, 3, 0, 56, 0, 0, [], j0m), j0, j0, (.aload_n 0, 1, 0, 0, 0, 0, [], j0m), 
  (.getfield 22, 3, 8, 3, 0, 3, [2214], j0m), j0, j0, (.iload_n 3, 1, 3, 0, 0, 0, [], j0m), (.aload_n 0, 1, 0, 0, 0, 0, [], j0m), (.getfield 9, 3, 8, 0, 0, 0, [2211], j0m), j0, j0, (.iload_n 1, 1, 1, 0, 0, 0, [], j0m), 
  (.bipush 60, 2, 0, 0, 0, 0, [], j0m), j0, (.imul, 1, 0, 0, 0, 0, [], j0m), (.iload_n 3, 1, 3, 0, 0, 0, [], j0m), (.iadd, 1, 0, 0, 0, 0, [], j0m), (.laload, 1, 0, 0, 0, 0, [], j0m), (.l2i, 1, 0, 0, 0, 0, [], j0m), 
  (.i2b, 1, 0, 0, 0, 0, [], j0m), (.bastore, 1, 0, 0, 2, 0, [], j0m), (.iinc 3 1, 3, 3, 0, 0, 0, [], j0m), j0, j0, (.goto (-27), 3, 0, 26, 0, 0, [], j0m), j0, j0, (.iload_n 2, 1, 2, 0, 0, 0, [], j0m), 
  (.ireturn, 1, 0, 0, 0, 0, [], j0m)]
set_option maxRecDepth 20000 in
theorem t_Slots_takeBytes : okT m_Slots_takeBytes k_Slots_takeBytes = true := by decide +kernel
def k_Book_refresh : List jO := [
  (.aload_n 0, 1, 0, 0, 0, 0, [], j0m), (.getfield 9, 3, 1, 0, 0, 0, [2031], j0m), j0, j0, (.ifCond .eq 4, 3, 0, 8, 0, 0, [], j0m), j0, j0, (.return_, 1, 0, 0, 0, 0, [], j0m), (.aload_n 0, 1, 0, 0, 0, 0, [], j0m), 
  (.getfield 38, 3, 1, 5, 0, 5, [2042], j0m), j0, j0, (.aload_n 1, 1, 1, 0, 0, 0, [], j0m), (.iconst 0, 1, 0, 0, 0, 0, [], j0m), (.invokevirtual 45, 3, 10, 3, 1, 0, [4115, 4116, 4117, 1008, 4118], m_Words_cutOut), 
  j0, j0, (.aload_n 0, 1, 0, 0, 0, 0, [], j0m), (.getfield 42, 3, 1, 6, 0, 6, [2043], j0m), j0, j0, (.aload_n 1, 1, 1, 0, 0, 0, [], j0m), (.iconst 1, 1, 0, 0, 0, 0, [], j0m), (.invokevirtual 45, 3, 10, 3, 1, 0, [4115, 4116, 4117, 1008, 4118], m_Words_cutOut), 
  j0, j0, (.aload_n 0, 1, 0, 0, 0, 0, [], j0m), (.iconst 0, 1, 0, 0, 0, 0, [], j0m), (.putfield 15, 3, 1, 1, 0, 1, [2033], j0m), j0, j0, (.aload_n 0, 1, 0, 0, 0, 0, [], j0m), (.aload_n 0, 1, 0, 0, 0, 0, [], j0m), 
  (.getfield 38, 3, 1, 5, 0, 5, [2042], j0m), j0, j0, (.invokevirtual 49, 3, 1, 2, 1, 0, [4147, 4149, 20, 1007, 4150], m_Book_gather), j0, j0, (.aload_n 0, 1, 0, 0, 0, 0, [], j0m), (.aload_n 0, 1, 0, 0, 0, 0, [], j0m), 
  (.getfield 42, 3, 1, 6, 0, 6, [2043], j0m), j0, j0, (.invokevirtual 49, 3, 1, 2, 1, 0, [4147, 4149, 20, 1007, 4150], m_Book_gather), j0, j0, (.aload_n 0, 1, 0, 0, 0, 0, [], j0m), (.getfield 38, 3, 1, 5, 0, 5, [2042], j0m), 
  j0, j0, (.aload_n 0, 1, 0, 0, 0, 0, [], j0m), (.getfield 24, 3, 1, 2, 0, 2, [2036], j0m), j0, j0, (.aload_n 0, 1, 0, 0, 0, 0, [], j0m), (.getfield 15, 3, 1, 1, 0, 1, [2033], j0m), j0, j0, (.invokevirtual 53, 3, 10, 3, 1, 0, [4162, 4163, 4164, 1008, 4165], m_Words_number), 
  j0, j0, (.aload_n 0, 1, 0, 0, 0, 0, [], j0m), (.getfield 42, 3, 1, 6, 0, 6, [2043], j0m), j0, j0, (.aload_n 0, 1, 0, 0, 0, 0, [], j0m), (.getfield 24, 3, 1, 2, 0, 2, [2036], j0m), j0, j0, (.aload_n 0, 1, 0, 0, 0, 0, [], j0m), 
  (.getfield 15, 3, 1, 1, 0, 1, [2033], j0m), j0, j0, (.invokevirtual 53, 3, 10, 3, 1, 0, [4162, 4163, 4164, 1008, 4165], m_Words_number), j0, j0, (.aload_n 0, 1, 0, 0, 0, 0, [], j0m), (.aload_n 1, 1, 1, 0, 0, 0, [], j0m), 
  (.getfield 57, 3, 2, 0, 0, 0, [1142], j0m), j0, j0, (.getfield 63, 3, 7, 10, 0, 10, [1108], j0m), j0, j0, (.invokevirtual 69, 3, 1, 2, 1, 0, [4172, 4174, 22, 1007, 4175], m_Book_bringToOrder), j0, j0, 
  (.aload_n 0, 1, 0, 0, 0, 0, [], j0m), (.iconst 1, 1, 0, 0, 0, 0, [], j0m), (.putfield 9, 3, 1, 0, 0, 0, [2031], j0m), j0, j0, (.return_, 1, 0, 0, 0, 0, [], j0m)]
set_option maxRecDepth 20000 in
theorem t_Book_refresh : okT m_Book_refresh k_Book_refresh = true := by decide +kernel
def k_Words_cutOut : List jO := [
  (.aload_n 0, 1, 0, 0, 0, 0, [], j0m), (.iconst 0, 1, 0, 0, 0, 0, [], j0m), (.putfield 9, 3, 10, 0, 0, 0, [1211], j0m), j0, j0, (.aload_n 0, 1, 0, 0, 0, 0, [], j0m), (.getfield 49, 3, 10, 10, 0, 10, [1237], j0m), 
  j0, j0, (.iconst 0, 1, 0, 0, 0, 0, [], j0m), (.invokestatic 66, 3, 0, 2, 0, 0, [4119, 1075, 1006, 1076], m_Arrays_fill), j0, j0, (.iconst 0, 1, 0, 0, 0, 0, [], j0m), (.istore_n 3, 1, 3, 0, 0, 0, [], j0m), 
  (.iconst 0, 1, 0, 0, 0, 0, [], j0m), (.istore 4, 2, 4, 0, 0, 0, [], j0m), j0, (.iload 4, 2, 4, 0, 0, 0, [], j0m), j0, (.aload_n 1, 1, 1, 0, 0, 0, [], j0m), (.iload_n 2, 1, 2, 0, 0, 0, [], j0m), (.invokevirtual 72, 3, 2, 2, 1, 0, [4120, 4036, 4037, 1002, 4038], m_Image_lineCount), 
  j0, j0, (.if_icmp .ge 33, 3, 0, 58, 0, 0, [], j0m), j0, j0, (.iload 4, 2, 4, 0, 0, 0, [], j0m), j0, (.bipush 40, 2, 0, 0, 0, 0, [], j0m), j0, (.if_icmp .ge 26, 3, 0, 58, 0, 0, [], j0m), j0, j0, (.aload_n 0, 1, 0, 0, 0, 0, [], j0m), 
  (.aload_n 1, 1, 1, 0, 0, 0, [], j0m), (.iload_n 2, 1, 2, 0, 0, 0, [], j0m), (.iload 4, 2, 4, 0, 0, 0, [], j0m), j0, (.iload_n 3, 1, 3, 0, 0, 0, [], j0m), (.aload_n 1, 1, 1, 0, 0, 0, [], j0m), (.iload_n 2, 1, 2, 0, 0, 0, [], j0m), 
  (.iload 4, 2, 4, 0, 0, 0, [], j0m), j0, (.invokevirtual 78, 3, 2, 3, 1, 0, [4121, 4076, 4077, 1002, 4078], m_Image_isCut), j0, j0, (.invokevirtual 82, 3, 10, 6, 1, 0, [4122, 4124, 17, 1008, 4125], m_Words_cutLine), 
  j0, j0, (.istore_n 3, 1, 3, 0, 0, 0, [], j0m), (.iinc 4 1, 3, 4, 0, 0, 0, [], j0m), j0, j0, (.goto (-37), 3, 0, 18, 0, 0, [], j0m), j0, j0, (.return_, 1, 0, 0, 0, 0, [], j0m)]
set_option maxRecDepth 20000 in
theorem t_Words_cutOut : okT m_Words_cutOut k_Words_cutOut = true := by decide +kernel
def k_Words_cutLine : List jO := [
  (.iload_n 2, 1, 2, 0, 0, 0, [], j0m), (.bipush 40, 2, 0, 0, 0, 0, [], j0m), j0, (.imul, 1, 0, 0, 0, 0, [], j0m), (.iload_n 3, 1, 3, 0, 0, 0, [], j0m), (.iadd, 1, 0, 0, 0, 0, [], j0m), (.bipush 60, 2, 0, 0, 0, 0, [], j0m), 
  j0, (.imul, 1, 0, 0, 0, 0, [], j0m), (.istore 6, 2, 6, 0, 0, 0, [], j0m), j0, (.iload 6, 2, 6, 0, 0, 0, [], j0m), j0, (.aload_n 1, 1, 1, 0, 0, 0, [], j0m), (.iload_n 2, 1, 2, 0, 0, 0, [], j0m), (.bipush 40, 2, 0, 0, 0, 0, [], j0m), 
  j0, (.imul, 1, 0, 0, 0, 0, [], j0m), (.iload_n 3, 1, 3, 0, 0, 0, [], j0m), (.iadd, 1, 0, 0, 0, 0, [], j0m), (.invokevirtual 86, 3, 2, 2, 1, 0, [4126, 4127, 4128, 1002, 4129], m_Image_lengthAt), j0, j0, 
  (.iadd, 1, 0, 0, 0, 0, [], j0m), (.istore 7, 2, 7, 0, 0, 0, [], j0m), j0, (.iload 4, 2, 4, 0, 0, 0, [], j0m), j0, (.istore 8, 2, 8, 0, 0, 0, [], j0m), j0, (.iload 6, 2, 6, 0, 0, 0, [], j0m), j0, (.iload 7, 2, 7, 0, 0, 0, [], j0m), 
  j0, (.if_icmp .ge 109, 3, 0, 143, 0, 0, [], j0m), j0, j0, (.aload_n 1, 1, 1, 0, 0, 0, [], j0m), (.iload 6, 2, 6, 0, 0, 0, [], j0m), j0, (.invokevirtual 89, 3, 2, 2, 1, 0, [4130, 4131, 4132, 1002, 4133], m_Image_byteAt), 
  j0, j0, (.invokestatic 92, 3, 0, 1, 4, 0, [3088, 1001, 3089], m_WordPlaces_isLetter), j0, j0, (.ifCond .eq 91, 3, 0, 137, 0, 0, [], j0m), j0, j0, (.iload 8, 2, 8, 0, 0, 0, [], j0m), j0, (.ifCond .ne 8, 3, 0, 59, 0, 0, [], j0m), 
  j0, j0, (.aload_n 0, 1, 0, 0, 0, 0, [], j0m), (.iload_n 3, 1, 3, 0, 0, 0, [], j0m), (.invokevirtual 96, 3, 10, 2, 1, 0, [4135, 4137, 18, 1008, 4138], m_Words_beginWord), j0, j0, (.iload 6, 2, 6, 0, 0, 0, [], j0m), 
  j0, (.iload 7, 2, 7, 0, 0, 0, [], j0m), j0, (.if_icmp .ge 37, 3, 0, 100, 0, 0, [], j0m), j0, j0, (.aload_n 1, 1, 1, 0, 0, 0, [], j0m), (.iload 6, 2, 6, 0, 0, 0, [], j0m), j0, (.invokevirtual 89, 3, 2, 2, 1, 0, [4130, 4131, 4132, 1002, 4133], m_Image_byteAt), 
  j0, j0, (.invokestatic 92, 3, 0, 1, 4, 0, [3088, 1001, 3089], m_WordPlaces_isLetter), j0, j0, (.ifCond .eq 25, 3, 0, 100, 0, 0, [], j0m), j0, j0, (.aload_n 0, 1, 0, 0, 0, 0, [], j0m), (.getfield 62, 3, 10, 13, 0, 13, [2001], j0m), 
  j0, j0, (.aload_n 1, 1, 1, 0, 0, 0, [], j0m), (.iload 6, 2, 6, 0, 0, 0, [], j0m), j0, (.invokevirtual 89, 3, 2, 2, 1, 0, [4130, 4131, 4132, 1002, 4133], m_Image_byteAt), j0, j0, (.bipush 97, 2, 0, 0, 0, 0, [], j0m), 
  j0, (.isub, 1, 0, 0, 0, 0, [], j0m), (.invokevirtual 99, 3, 3, 2, 1, 0, [4140, 3195, 3196, 1009, 3197], m_Key_add), j0, j0, (.iinc 6 1, 3, 6, 0, 0, 0, [], j0m), j0, j0, (.goto (-38), 3, 0, 59, 0, 0, [], j0m), 
  j0, j0, (.iload 6, 2, 6, 0, 0, 0, [], j0m), j0, (.iload 7, 2, 7, 0, 0, 0, [], j0m), j0, (.iconst 1, 1, 0, 0, 0, 0, [], j0m), (.isub, 1, 0, 0, 0, 0, [], j0m), (.if_icmp .ne 12, 3, 0, 118, 0, 0, [], j0m), 
  j0, j0, (.iload 5, 2, 5, 0, 0, 0, [], j0m), j0, (.ifCond .eq 7, 3, 0, 118, 0, 0, [], j0m), j0, j0, (.iconst 1, 1, 0, 0, 0, 0, [], j0m), (.goto 4, 3, 0, 119, 0, 0, [], j0m), j0, j0, (.iconst 0, 1, 0, 0, 0, 0, [], j0m), 
  (.istore 8, 2, 8, 0, 0, 0, [], j0m), j0, (.aload_n 0, 1, 0, 0, 0, 0, [], j0m), (.aload_n 1, 1, 1, 0, 0, 0, [], j0m), (.getfield 102, 3, 2, 0, 0, 0, [1143], j0m), j0, j0, (.getfield 106, 3, 7, 1, 0, 1, [1081], j0m), 
  j0, j0, (.iload 8, 2, 8, 0, 0, 0, [], j0m), j0, (.invokevirtual 111, 3, 10, 3, 1, 0, [4141, 4143, 19, 1008, 4144], m_Words_endRun), j0, j0, (.goto (-104), 3, 0, 30, 0, 0, [], j0m), j0, j0, (.iinc 6 1, 3, 6, 0, 0, 0, [], j0m), 
  j0, j0, (.goto (-110), 3, 0, 30, 0, 0, [], j0m), j0, j0, (.iload 8, 2, 8, 0, 0, 0, [], j0m), j0, (.ireturn, 1, 0, 0, 1, 0, [], j0m)]
set_option maxRecDepth 20000 in
theorem t_Words_cutLine : okT m_Words_cutLine k_Words_cutLine = true := by decide +kernel
def k_Image_lengthAt : List jO := [
  (.iload_n 1, 1, 1, 0, 0, 0, [], j0m), (.ifCond .lt 18, 3, 0, 19, 0, 0, [], j0m), j0, j0, (.iload_n 1, 1, 1, 0, 0, 0, [], j0m), (.bipush 80, 2, 0, 0, 0, 0, [], j0m), j0, (.if_icmp .ge 12, 3, 0, 19, 0, 0, [], j0m), 
  j0, j0, (.aload_n 0, 1, 0, 0, 0, 0, [], j0m), (.getfield 22, 3, 2, 2, 0, 2, [1145], j0m), j0, j0, (.iload_n 1, 1, 1, 0, 0, 0, [], j0m), (.iaload, 1, 0, 0, 0, 0, [], j0m), (.goto 4, 3, 0, 20, 0, 0, [], j0m), 
  j0, j0, (.iconst 0, 1, 0, 0, 0, 0, [], j0m), (.ireturn, 1, 0, 0, 0, 0, [], j0m)]
set_option maxRecDepth 20000 in
theorem t_Image_lengthAt : okT m_Image_lengthAt k_Image_lengthAt = true := by decide +kernel
def k_Image_byteAt : List jO := [
  (.iload_n 1, 1, 1, 0, 0, 0, [], j0m), (.ifCond .lt 19, 3, 0, 20, 0, 0, [], j0m), j0, j0, (.iload_n 1, 1, 1, 0, 0, 0, [], j0m), (.sipush 4800, 3, 0, 0, 0, 0, [], j0m), j0, j0, (.if_icmp .ge 12, 3, 0, 20, 0, 0, [], j0m), 
  j0, j0, (.aload_n 0, 1, 0, 0, 0, 0, [], j0m), (.getfield 18, 3, 2, 1, 0, 1, [1144], j0m), j0, j0, (.iload_n 1, 1, 1, 0, 0, 0, [], j0m), (.baload, 1, 0, 0, 2, 0, [], j0m), (.goto 5, 3, 0, 22, 0, 0, [], j0m), 
  j0, j0, (.bipush 32, 2, 0, 0, 0, 0, [], j0m), j0, (.ireturn, 1, 0, 0, 0, 0, [], j0m)]
set_option maxRecDepth 20000 in
theorem t_Image_byteAt : okT m_Image_byteAt k_Image_byteAt = true := by decide +kernel
def k_Words_beginWord : List jO := [
  (.aload_n 0, 1, 0, 0, 0, 0, [], j0m), (.getfield 62, 3, 10, 13, 0, 13, [2001], j0m), j0, j0, (.invokevirtual 115, 3, 3, 1, 1, 0, [4139, 3191, 3192, 1009, 3193], m_Key_clear), j0, j0, (.aload_n 0, 1, 0, 0, 0, 0, [], j0m), 
  (.getfield 9, 3, 10, 0, 0, 0, [1211], j0m), j0, j0, (.ifCond .lt 78, 3, 0, 89, 0, 0, [], j0m), j0, j0, (.aload_n 0, 1, 0, 0, 0, 0, [], j0m), (.getfield 9, 3, 10, 0, 0, 0, [1211], j0m), j0, j0, (.sipush 300, 3, 0, 0, 0, 0, [], j0m), 
  j0, j0, (.if_icmp .ge 68, 3, 0, 89, 0, 0, [], j0m), j0, j0, (.iload_n 1, 1, 1, 0, 0, 0, [], j0m), (.ifCond .lt 64, 3, 0, 89, 0, 0, [], j0m), j0, j0, (.iload_n 1, 1, 1, 0, 0, 0, [], j0m), (.bipush 40, 2, 0, 0, 0, 0, [], j0m), 
  j0, (.if_icmp .ge 58, 3, 0, 89, 0, 0, [], j0m), j0, j0, (.aload_n 0, 1, 0, 0, 0, 0, [], j0m), (.getfield 24, 3, 10, 2, 0, 2, [1220], j0m), j0, j0, (.aload_n 0, 1, 0, 0, 0, 0, [], j0m), (.getfield 9, 3, 10, 0, 0, 0, [1211], j0m), 
  j0, j0, (.iload_n 1, 1, 1, 0, 0, 0, [], j0m), (.iastore, 1, 0, 0, 0, 0, [], j0m), (.aload_n 0, 1, 0, 0, 0, 0, [], j0m), (.getfield 28, 3, 10, 3, 0, 3, [1223], j0m), j0, j0, (.aload_n 0, 1, 0, 0, 0, 0, [], j0m), 
  (.getfield 9, 3, 10, 0, 0, 0, [1211], j0m), j0, j0, (.aload_n 0, 1, 0, 0, 0, 0, [], j0m), (.getfield 49, 3, 10, 10, 0, 10, [1237], j0m), j0, j0, (.iload_n 1, 1, 1, 0, 0, 0, [], j0m), (.iaload, 1, 0, 0, 0, 0, [], j0m), 
  (.iastore, 1, 0, 0, 0, 0, [], j0m), (.aload_n 0, 1, 0, 0, 0, 0, [], j0m), (.getfield 31, 3, 10, 4, 0, 4, [1226], j0m), j0, j0, (.aload_n 0, 1, 0, 0, 0, 0, [], j0m), (.getfield 9, 3, 10, 0, 0, 0, [1211], j0m), 
  j0, j0, (.iconst 0, 1, 0, 0, 0, 0, [], j0m), (.iastore, 1, 0, 0, 0, 0, [], j0m), (.aload_n 0, 1, 0, 0, 0, 0, [], j0m), (.getfield 49, 3, 10, 10, 0, 10, [1237], j0m), j0, j0, (.iload_n 1, 1, 1, 0, 0, 0, [], j0m), 
  (.dup2, 1, 0, 0, 0, 0, [], j0m), (.iaload, 1, 0, 0, 0, 0, [], j0m), (.iconst 1, 1, 0, 0, 0, 0, [], j0m), (.iadd, 1, 0, 0, 0, 0, [], j0m), (.iastore, 1, 0, 0, 0, 0, [], j0m), (.aload_n 0, 1, 0, 0, 0, 0, [], j0m), 
  (.dup, 1, 0, 0, 0, 0, [], j0m), (.getfield 9, 3, 10, 0, 0, 0, [1211], j0m), j0, j0, (.iconst 1, 1, 0, 0, 0, 0, [], j0m), (.iadd, 1, 0, 0, 0, 0, [], j0m), (.putfield 9, 3, 10, 0, 0, 0, [1211], j0m), j0, 
  j0, (.return_, 1, 0, 0, 0, 0, [], j0m)]
set_option maxRecDepth 20000 in
theorem t_Words_beginWord : okT m_Words_beginWord k_Words_beginWord = true := by decide +kernel
def k_Words_endRun : List jO := [
  (.aload_n 0, 1, 0, 0, 0, 0, [], j0m), (.getfield 9, 3, 10, 0, 0, 0, [1211], j0m), j0, j0, (.iconst 1, 1, 0, 0, 0, 0, [], j0m), (.isub, 1, 0, 0, 0, 0, [], j0m), (.istore_n 3, 1, 3, 0, 0, 0, [], j0m), 
  (.iload_n 3, 1, 3, 0, 0, 0, [], j0m), (.ifCond .lt 10, 3, 0, 18, 0, 0, [], j0m), j0, j0, (.iload_n 3, 1, 3, 0, 0, 0, [], j0m), (.sipush 300, 3, 0, 0, 0, 0, [], j0m), j0, j0, (.if_icmp .lt 4, 3, 0, 19, 0, 0, [], j0m), 
  j0, j0, (.return_, 1, 0, 0, 0, 0, [], j0m), (.aload_n 0, 1, 0, 0, 0, 0, [], j0m), (.getfield 20, 3, 10, 1, 0, 1, [1216], j0m), j0, j0, (.iload_n 3, 1, 3, 0, 0, 0, [], j0m), (.aload_n 0, 1, 0, 0, 0, 0, [], j0m), 
  (.getfield 62, 3, 10, 13, 0, 13, [2001], j0m), j0, j0, (.getfield 118, 3, 3, 0, 0, 0, [1190], j0m), j0, j0, (.aload_n 1, 1, 1, 0, 0, 0, [], j0m), (.invokestatic 122, 3, 0, 2, 0, 0, [4145, 3239, 1009, 4000], m_Key_mapped), 
  j0, j0, (.aload_n 0, 1, 0, 0, 0, 0, [], j0m), (.getfield 62, 3, 10, 13, 0, 13, [2001], j0m), j0, j0, (.getfield 126, 3, 3, 1, 0, 1, [1196], j0m), j0, j0, (.aload_n 1, 1, 1, 0, 0, 0, [], j0m), (.invokestatic 122, 3, 0, 2, 0, 0, [4145, 3239, 1009, 4000], m_Key_mapped), 
  j0, j0, (.invokevirtual 129, 3, 4, 4, 1, 0, [4146, 3199, 3200, 1004, 3201], m_KeyRow_put), j0, j0, (.iload_n 2, 1, 2, 0, 0, 0, [], j0m), (.ifCond .eq 10, 3, 0, 60, 0, 0, [], j0m), j0, j0, (.aload_n 0, 1, 0, 0, 0, 0, [], j0m), 
  (.getfield 31, 3, 10, 4, 0, 4, [1226], j0m), j0, j0, (.iload_n 3, 1, 3, 0, 0, 0, [], j0m), (.iconst 1, 1, 0, 0, 0, 0, [], j0m), (.iastore, 1, 0, 0, 0, 0, [], j0m), (.return_, 1, 0, 0, 0, 0, [], j0m)]
set_option maxRecDepth 20000 in
theorem t_Words_endRun : okT m_Words_endRun k_Words_endRun = true := by decide +kernel
def k_Book_gather : List jO := [
  (.iconst 0, 1, 0, 0, 0, 0, [], j0m), (.istore_n 2, 1, 2, 0, 0, 0, [], j0m), (.iload_n 2, 1, 2, 0, 0, 0, [], j0m), (.aload_n 1, 1, 1, 0, 0, 0, [], j0m), (.getfield 73, 3, 10, 0, 0, 0, [1213], j0m), j0, 
  j0, (.if_icmp .ge 96, 3, 0, 103, 0, 0, [], j0m), j0, j0, (.iload_n 2, 1, 2, 0, 0, 0, [], j0m), (.sipush 300, 3, 0, 0, 0, 0, [], j0m), j0, j0, (.if_icmp .ge 89, 3, 0, 103, 0, 0, [], j0m), j0, j0, (.aload_n 1, 1, 1, 0, 0, 0, [], j0m), 
  (.getfield 76, 3, 10, 1, 0, 1, [1217], j0m), j0, j0, (.getfield 79, 3, 4, 0, 0, 0, [1052], j0m), j0, j0, (.iload_n 2, 1, 2, 0, 0, 0, [], j0m), (.laload, 1, 0, 0, 0, 0, [], j0m), (.lstore_n 3, 1, 3, 0, 0, 0, [], j0m), 
  (.aload_n 1, 1, 1, 0, 0, 0, [], j0m), (.getfield 76, 3, 10, 1, 0, 1, [1217], j0m), j0, j0, (.getfield 83, 3, 4, 1, 0, 1, [1058], j0m), j0, j0, (.iload_n 2, 1, 2, 0, 0, 0, [], j0m), (.laload, 1, 0, 0, 0, 0, [], j0m), 
  (.lstore 5, 2, 5, 0, 0, 0, [], j0m), j0, (.aload_n 0, 1, 0, 0, 0, 0, [], j0m), (.getfield 24, 3, 1, 2, 0, 2, [2036], j0m), j0, j0, (.aload_n 0, 1, 0, 0, 0, 0, [], j0m), (.getfield 15, 3, 1, 1, 0, 1, [2033], j0m), 
  j0, j0, (.lload_n 3, 1, 3, 0, 0, 0, [], j0m), (.lload 5, 2, 5, 0, 0, 0, [], j0m), j0, (.invokevirtual 86, 3, 4, 4, 1, 0, [4151, 4152, 4153, 1004, 4154], m_KeyRow_find), j0, j0, (.istore 7, 2, 7, 0, 0, 0, [], j0m), 
  j0, (.iload 7, 2, 7, 0, 0, 0, [], j0m), j0, (.ifCond .ge 41, 3, 0, 97, 0, 0, [], j0m), j0, j0, (.aload_n 0, 1, 0, 0, 0, 0, [], j0m), (.getfield 15, 3, 1, 1, 0, 1, [2033], j0m), j0, j0, (.sipush 600, 3, 0, 0, 0, 0, [], j0m), 
  j0, j0, (.if_icmp .ge 31, 3, 0, 97, 0, 0, [], j0m), j0, j0, (.aload_n 0, 1, 0, 0, 0, 0, [], j0m), (.getfield 24, 3, 1, 2, 0, 2, [2036], j0m), j0, j0, (.aload_n 0, 1, 0, 0, 0, 0, [], j0m), (.getfield 15, 3, 1, 1, 0, 1, [2033], j0m), 
  j0, j0, (.iconst (-1), 1, 0, 0, 0, 0, [], j0m), (.iload 7, 2, 7, 0, 0, 0, [], j0m), j0, (.isub, 1, 0, 0, 0, 0, [], j0m), (.lload_n 3, 1, 3, 0, 0, 0, [], j0m), (.lload 5, 2, 5, 0, 0, 0, [], j0m), j0, 
  (.invokevirtual 90, 3, 4, 5, 1, 0, [4158, 4159, 4160, 1004, 4161], m_KeyRow_insert), j0, j0, (.aload_n 0, 1, 0, 0, 0, 0, [], j0m), (.dup, 1, 0, 0, 0, 0, [], j0m), (.getfield 15, 3, 1, 1, 0, 1, [2033], j0m), 
  j0, j0, (.iconst 1, 1, 0, 0, 0, 0, [], j0m), (.iadd, 1, 0, 0, 0, 0, [], j0m), (.putfield 15, 3, 1, 1, 0, 1, [2033], j0m), j0, j0, (.iinc 2 1, 3, 2, 0, 0, 0, [], j0m), j0, j0, (.goto (-98), 3, 0, 2, 0, 0, [], j0m), 
  j0, j0, (.return_, 1, 0, 0, 0, 0, [], j0m)]
set_option maxRecDepth 20000 in
theorem t_Book_gather : okT m_Book_gather k_Book_gather = true := by decide +kernel
def k_KeyRow_find : List jO := [
  (.iconst 0, 1, 0, 0, 0, 0, [], j0m), (.istore 6, 2, 6, 0, 0, 0, [], j0m), j0, (.iload_n 1, 1, 1, 0, 0, 0, [], j0m), (.aload_n 0, 1, 0, 0, 0, 0, [], j0m), (.getfield 13, 3, 4, 0, 0, 0, [1051], j0m), j0, 
  j0, (.arraylength, 1, 0, 0, 0, 0, [], j0m), (.invokestatic 22, 3, 0, 2, 1, 0, [4014, 3076, 1005, 3077], j0m), j0, j0, (.istore 7, 2, 7, 0, 0, 0, [], j0m), j0, (.iload 6, 2, 6, 0, 0, 0, [], j0m), j0, 
  (.iload 7, 2, 7, 0, 0, 0, [], j0m), j0, (.if_icmp .ge 73, 3, 0, 91, 0, 0, [], j0m), j0, j0, (.iload 6, 2, 6, 0, 0, 0, [], j0m), j0, (.iload 7, 2, 7, 0, 0, 0, [], j0m), j0, (.iadd, 1, 0, 0, 0, 0, [], j0m), 
  (.iconst 1, 1, 0, 0, 0, 0, [], j0m), (.iushr, 1, 0, 0, 0, 0, [], j0m), (.istore 8, 2, 8, 0, 0, 0, [], j0m), j0, (.aload_n 0, 1, 0, 0, 0, 0, [], j0m), (.getfield 13, 3, 4, 0, 0, 0, [1051], j0m), j0, j0, 
  (.iload 8, 2, 8, 0, 0, 0, [], j0m), j0, (.laload, 1, 0, 0, 0, 0, [], j0m), (.lload_n 2, 1, 2, 0, 0, 0, [], j0m), (.invokestatic 25, 3, 0, 2, 0, 0, [4155, 4156, 1021, 4157], m_Long_compare), j0, j0, (.istore 9, 2, 9, 0, 0, 0, [], j0m), 
  j0, (.iload 9, 2, 9, 0, 0, 0, [], j0m), j0, (.ifCond .ne 17, 3, 0, 62, 0, 0, [], j0m), j0, j0, (.aload_n 0, 1, 0, 0, 0, 0, [], j0m), (.getfield 19, 3, 4, 1, 0, 1, [1057], j0m), j0, j0, (.iload 8, 2, 8, 0, 0, 0, [], j0m), 
  j0, (.laload, 1, 0, 0, 0, 0, [], j0m), (.lload 4, 2, 4, 0, 0, 0, [], j0m), j0, (.invokestatic 25, 3, 0, 2, 0, 0, [4155, 4156, 1021, 4157], m_Long_compare), j0, j0, (.istore 9, 2, 9, 0, 0, 0, [], j0m), 
  j0, (.iload 9, 2, 9, 0, 0, 0, [], j0m), j0, (.ifCond .ne 6, 3, 0, 70, 0, 0, [], j0m), j0, j0, (.iload 8, 2, 8, 0, 0, 0, [], j0m), j0, (.ireturn, 1, 0, 0, 0, 0, [], j0m), (.iload 9, 2, 9, 0, 0, 0, [], j0m), 
  j0, (.ifCond .ge 12, 3, 0, 84, 0, 0, [], j0m), j0, j0, (.iload 8, 2, 8, 0, 0, 0, [], j0m), j0, (.iconst 1, 1, 0, 0, 0, 0, [], j0m), (.iadd, 1, 0, 0, 0, 0, [], j0m), (.istore 6, 2, 6, 0, 0, 0, [], j0m), 
  j0, (.goto 7, 3, 0, 88, 0, 0, [], j0m), j0, j0, (.iload 8, 2, 8, 0, 0, 0, [], j0m), j0, (.istore 7, 2, 7, 0, 0, 0, [], j0m), j0, (.goto (-74), 3, 0, 14, 0, 0, [], j0m), j0, j0, (.iconst (-1), 1, 0, 0, 0, 0, [], j0m), 
  (.iload 6, 2, 6, 0, 0, 0, [], j0m), j0, (.isub, 1, 0, 0, 0, 0, [], j0m), (.ireturn, 1, 0, 0, 0, 0, [], j0m)]
set_option maxRecDepth 20000 in
theorem t_KeyRow_find : okT m_KeyRow_find k_KeyRow_find = true := by decide +kernel
def k_KeyRow_insert : List jO := [
  (.iload_n 2, 1, 2, 0, 0, 0, [], j0m), (.ifCond .lt 17, 3, 0, 18, 0, 0, [], j0m), j0, j0, (.iload_n 2, 1, 2, 0, 0, 0, [], j0m), (.iload_n 1, 1, 1, 0, 0, 0, [], j0m), (.if_icmp .gt 12, 3, 0, 18, 0, 0, [], j0m), 
  j0, j0, (.iload_n 1, 1, 1, 0, 0, 0, [], j0m), (.aload_n 0, 1, 0, 0, 0, 0, [], j0m), (.getfield 13, 3, 4, 0, 0, 0, [1051], j0m), j0, j0, (.arraylength, 1, 0, 0, 0, 0, [], j0m), (.if_icmp .lt 4, 3, 0, 19, 0, 0, [], j0m), 
  j0, j0, (.return_, 1, 0, 0, 0, 0, [], j0m), (.aload_n 0, 1, 0, 0, 0, 0, [], j0m), (.getfield 13, 3, 4, 0, 0, 0, [1051], j0m), j0, j0, (.iload_n 2, 1, 2, 0, 0, 0, [], j0m), (.aload_n 0, 1, 0, 0, 0, 0, [], j0m), 
  (.getfield 13, 3, 4, 0, 0, 0, [1051], j0m), j0, j0, (.iload_n 2, 1, 2, 0, 0, 0, [], j0m), (.iconst 1, 1, 0, 0, 0, 0, [], j0m), (.iadd, 1, 0, 0, 0, 0, [], j0m), (.iload_n 1, 1, 1, 0, 0, 0, [], j0m), (.iload_n 2, 1, 2, 0, 0, 0, [], j0m), 
  (.isub, 1, 0, 0, 0, 0, [], j0m), (.invokestatic 31, 3, 4, 5, 3, 0, [4015, 4009, 4008, 1020], j0m), j0, j0, (.aload_n 0, 1, 0, 0, 0, 0, [], j0m), (.getfield 19, 3, 4, 1, 0, 1, [1057], j0m), j0, j0, (.iload_n 2, 1, 2, 0, 0, 0, [], j0m), 
  (.aload_n 0, 1, 0, 0, 0, 0, [], j0m), (.getfield 19, 3, 4, 1, 0, 1, [1057], j0m), j0, j0, (.iload_n 2, 1, 2, 0, 0, 0, [], j0m), (.iconst 1, 1, 0, 0, 0, 0, [], j0m), (.iadd, 1, 0, 0, 0, 0, [], j0m), (.iload_n 1, 1, 1, 0, 0, 0, [], j0m), 
  (.iload_n 2, 1, 2, 0, 0, 0, [], j0m), (.isub, 1, 0, 0, 0, 0, [], j0m), (.invokestatic 31, 3, 4, 5, 3, 0, [4015, 4009, 4008, 1020], j0m), j0, j0, (.aload_n 0, 1, 0, 0, 0, 0, [], j0m), (.iload_n 2, 1, 2, 0, 0, 0, [], j0m), 
  (.lload_n 3, 1, 3, 0, 0, 0, [], j0m), (.lload 5, 2, 5, 0, 0, 0, [], j0m), j0, (.invokevirtual 37, 3, 4, 4, 1, 0, [4002, 3199, 3200, 1004, 3201], m_KeyRow_put), j0, j0, (.return_, 1, 0, 0, 0, 0, [], j0m)
  ]
set_option maxRecDepth 20000 in
theorem t_KeyRow_insert : okT m_KeyRow_insert k_KeyRow_insert = true := by decide +kernel
def k_Words_number : List jO := [
  (.aload_n 0, 1, 0, 0, 0, 0, [], j0m), (.getfield 37, 3, 10, 6, 0, 6, [1231], j0m), j0, j0, (.iconst 0, 1, 0, 0, 0, 0, [], j0m), (.invokestatic 66, 3, 0, 2, 0, 0, [4119, 1075, 1006, 1076], m_Arrays_fill), 
  j0, j0, (.iconst 0, 1, 0, 0, 0, 0, [], j0m), (.istore_n 3, 1, 3, 0, 0, 0, [], j0m), (.iload_n 3, 1, 3, 0, 0, 0, [], j0m), (.aload_n 0, 1, 0, 0, 0, 0, [], j0m), (.getfield 9, 3, 10, 0, 0, 0, [1211], j0m), 
  j0, j0, (.if_icmp .ge 73, 3, 0, 88, 0, 0, [], j0m), j0, j0, (.iload_n 3, 1, 3, 0, 0, 0, [], j0m), (.sipush 300, 3, 0, 0, 0, 0, [], j0m), j0, j0, (.if_icmp .ge 66, 3, 0, 88, 0, 0, [], j0m), j0, j0, (.aload_n 1, 1, 1, 0, 0, 0, [], j0m), 
  (.iload_n 2, 1, 2, 0, 0, 0, [], j0m), (.aload_n 0, 1, 0, 0, 0, 0, [], j0m), (.getfield 20, 3, 10, 1, 0, 1, [1216], j0m), j0, j0, (.getfield 133, 3, 4, 0, 0, 0, [1053], j0m), j0, j0, (.iload_n 3, 1, 3, 0, 0, 0, [], j0m), 
  (.laload, 1, 0, 0, 0, 0, [], j0m), (.aload_n 0, 1, 0, 0, 0, 0, [], j0m), (.getfield 20, 3, 10, 1, 0, 1, [1216], j0m), j0, j0, (.getfield 136, 3, 4, 1, 0, 1, [1059], j0m), j0, j0, (.iload_n 3, 1, 3, 0, 0, 0, [], j0m), 
  (.laload, 1, 0, 0, 0, 0, [], j0m), (.invokevirtual 138, 3, 4, 4, 1, 0, [4166, 4152, 4153, 1004, 4154], m_KeyRow_find), j0, j0, (.istore 4, 2, 4, 0, 0, 0, [], j0m), j0, (.aload_n 0, 1, 0, 0, 0, 0, [], j0m), 
  (.getfield 34, 3, 10, 5, 0, 5, [1228], j0m), j0, j0, (.iload_n 3, 1, 3, 0, 0, 0, [], j0m), (.iload 4, 2, 4, 0, 0, 0, [], j0m), j0, (.iastore, 1, 0, 0, 0, 0, [], j0m), (.iload 4, 2, 4, 0, 0, 0, [], j0m), 
  j0, (.ifCond .lt 22, 3, 0, 82, 0, 0, [], j0m), j0, j0, (.iload 4, 2, 4, 0, 0, 0, [], j0m), j0, (.sipush 600, 3, 0, 0, 0, 0, [], j0m), j0, j0, (.if_icmp .ge 14, 3, 0, 82, 0, 0, [], j0m), j0, j0, (.aload_n 0, 1, 0, 0, 0, 0, [], j0m), 
  (.getfield 37, 3, 10, 6, 0, 6, [1231], j0m), j0, j0, (.iload 4, 2, 4, 0, 0, 0, [], j0m), j0, (.dup2, 1, 0, 0, 0, 0, [], j0m), (.iaload, 1, 0, 0, 0, 0, [], j0m), (.iconst 1, 1, 0, 0, 0, 0, [], j0m), (.iadd, 1, 0, 0, 0, 0, [], j0m), 
  (.iastore, 1, 0, 0, 0, 0, [], j0m), (.iinc 3 1, 3, 3, 0, 0, 0, [], j0m), j0, j0, (.goto (-75), 3, 0, 10, 0, 0, [], j0m), j0, j0, (.aload_n 0, 1, 0, 0, 0, 0, [], j0m), (.iconst 0, 1, 0, 0, 0, 0, [], j0m), 
  (.putfield 46, 3, 10, 9, 0, 9, [1235], j0m), j0, j0, (.iconst 0, 1, 0, 0, 0, 0, [], j0m), (.istore_n 3, 1, 3, 0, 0, 0, [], j0m), (.iconst 0, 1, 0, 0, 0, 0, [], j0m), (.istore 4, 2, 4, 0, 0, 0, [], j0m), 
  j0, (.iload 4, 2, 4, 0, 0, 0, [], j0m), j0, (.sipush 600, 3, 0, 0, 0, 0, [], j0m), j0, j0, (.if_icmp .ge 51, 3, 0, 154, 0, 0, [], j0m), j0, j0, (.aload_n 0, 1, 0, 0, 0, 0, [], j0m), (.dup, 1, 0, 0, 0, 0, [], j0m), 
  (.getfield 46, 3, 10, 9, 0, 9, [1235], j0m), j0, j0, (.aload_n 0, 1, 0, 0, 0, 0, [], j0m), (.getfield 37, 3, 10, 6, 0, 6, [1231], j0m), j0, j0, (.iload 4, 2, 4, 0, 0, 0, [], j0m), j0, (.iaload, 1, 0, 0, 0, 0, [], j0m), 
  (.ifCond .le 7, 3, 0, 125, 0, 0, [], j0m), j0, j0, (.iconst 1, 1, 0, 0, 0, 0, [], j0m), (.goto 4, 3, 0, 126, 0, 0, [], j0m), j0, j0, (.iconst 0, 1, 0, 0, 0, 0, [], j0m), (.iadd, 1, 0, 0, 0, 0, [], j0m), 
  (.putfield 46, 3, 10, 9, 0, 9, [1235], j0m), j0, j0, (.iload_n 3, 1, 3, 0, 0, 0, [], j0m), (.aload_n 0, 1, 0, 0, 0, 0, [], j0m), (.getfield 37, 3, 10, 6, 0, 6, [1231], j0m), j0, j0, (.iload 4, 2, 4, 0, 0, 0, [], j0m), 
  j0, (.iaload, 1, 0, 0, 0, 0, [], j0m), (.iadd, 1, 0, 0, 0, 0, [], j0m), (.istore_n 3, 1, 3, 0, 0, 0, [], j0m), (.aload_n 0, 1, 0, 0, 0, 0, [], j0m), (.getfield 43, 3, 10, 8, 0, 8, [1234], j0m), j0, j0, 
  (.iload 4, 2, 4, 0, 0, 0, [], j0m), j0, (.iload_n 3, 1, 3, 0, 0, 0, [], j0m), (.iastore, 1, 0, 0, 0, 0, [], j0m), (.iinc 4 1, 3, 4, 0, 0, 0, [], j0m), j0, j0, (.goto (-53), 3, 0, 98, 0, 0, [], j0m), 
  j0, j0, (.aload_n 0, 1, 0, 0, 0, 0, [], j0m), (.invokevirtual 142, 3, 10, 1, 1, 0, [4167, 4169, 21, 1008, 4170], m_Words_fillLists), j0, j0, (.return_, 1, 0, 0, 0, 0, [], j0m)]
set_option maxRecDepth 20000 in
theorem t_Words_number : okT m_Words_number k_Words_number = true := by decide +kernel
def k_Words_fillLists : List jO := [
  (.aload_n 0, 1, 0, 0, 0, 0, [], j0m), (.getfield 9, 3, 10, 0, 0, 0, [1211], j0m), j0, j0, (.sipush 300, 3, 0, 0, 0, 0, [], j0m), j0, j0, (.invokestatic 145, 3, 0, 2, 1, 0, [4171, 3076, 1005, 3077], j0m), 
  j0, j0, (.iconst 1, 1, 0, 0, 0, 0, [], j0m), (.isub, 1, 0, 0, 0, 0, [], j0m), (.istore_n 1, 1, 1, 0, 0, 0, [], j0m), (.iload_n 1, 1, 1, 0, 0, 0, [], j0m), (.ifCond .lt 70, 3, 0, 84, 0, 0, [], j0m), j0, 
  j0, (.aload_n 0, 1, 0, 0, 0, 0, [], j0m), (.getfield 34, 3, 10, 5, 0, 5, [1228], j0m), j0, j0, (.iload_n 1, 1, 1, 0, 0, 0, [], j0m), (.iaload, 1, 0, 0, 0, 0, [], j0m), (.istore_n 2, 1, 2, 0, 0, 0, [], j0m), 
  (.iload_n 2, 1, 2, 0, 0, 0, [], j0m), (.ifCond .lt 53, 3, 0, 78, 0, 0, [], j0m), j0, j0, (.iload_n 2, 1, 2, 0, 0, 0, [], j0m), (.sipush 600, 3, 0, 0, 0, 0, [], j0m), j0, j0, (.if_icmp .ge 46, 3, 0, 78, 0, 0, [], j0m), 
  j0, j0, (.aload_n 0, 1, 0, 0, 0, 0, [], j0m), (.getfield 43, 3, 10, 8, 0, 8, [1234], j0m), j0, j0, (.iload_n 2, 1, 2, 0, 0, 0, [], j0m), (.iaload, 1, 0, 0, 0, 0, [], j0m), (.ifCond .le 37, 3, 0, 78, 0, 0, [], j0m), 
  j0, j0, (.aload_n 0, 1, 0, 0, 0, 0, [], j0m), (.getfield 43, 3, 10, 8, 0, 8, [1234], j0m), j0, j0, (.iload_n 2, 1, 2, 0, 0, 0, [], j0m), (.iaload, 1, 0, 0, 0, 0, [], j0m), (.sipush 300, 3, 0, 0, 0, 0, [], j0m), 
  j0, j0, (.if_icmp .gt 25, 3, 0, 78, 0, 0, [], j0m), j0, j0, (.aload_n 0, 1, 0, 0, 0, 0, [], j0m), (.getfield 43, 3, 10, 8, 0, 8, [1234], j0m), j0, j0, (.iload_n 2, 1, 2, 0, 0, 0, [], j0m), (.dup2, 1, 0, 0, 0, 0, [], j0m), 
  (.iaload, 1, 0, 0, 0, 0, [], j0m), (.iconst 1, 1, 0, 0, 0, 0, [], j0m), (.isub, 1, 0, 0, 0, 0, [], j0m), (.iastore, 1, 0, 0, 0, 0, [], j0m), (.aload_n 0, 1, 0, 0, 0, 0, [], j0m), (.getfield 40, 3, 10, 7, 0, 7, [1233], j0m), 
  j0, j0, (.aload_n 0, 1, 0, 0, 0, 0, [], j0m), (.getfield 43, 3, 10, 8, 0, 8, [1234], j0m), j0, j0, (.iload_n 2, 1, 2, 0, 0, 0, [], j0m), (.iaload, 1, 0, 0, 0, 0, [], j0m), (.iload_n 1, 1, 1, 0, 0, 0, [], j0m), 
  (.iastore, 1, 0, 0, 0, 0, [], j0m), (.iinc 1 (-1), 3, 1, 0, 0, 0, [], j0m), j0, j0, (.goto (-68), 3, 0, 13, 0, 0, [], j0m), j0, j0, (.return_, 1, 0, 0, 0, 0, [], j0m)]
set_option maxRecDepth 20000 in
theorem t_Words_fillLists : okT m_Words_fillLists k_Words_fillLists = true := by decide +kernel
def k_Book_bringToOrder : List jO := [
  (.iconst 0, 1, 0, 0, 0, 0, [], j0m), (.istore_n 2, 1, 2, 0, 0, 0, [], j0m), (.iload_n 2, 1, 2, 0, 0, 0, [], j0m), (.aload_n 0, 1, 0, 0, 0, 0, [], j0m), (.getfield 15, 3, 1, 1, 0, 1, [2033], j0m), j0, 
  j0, (.if_icmp .ge 127, 3, 0, 134, 0, 0, [], j0m), j0, j0, (.iload_n 2, 1, 2, 0, 0, 0, [], j0m), (.sipush 600, 3, 0, 0, 0, 0, [], j0m), j0, j0, (.if_icmp .ge 120, 3, 0, 134, 0, 0, [], j0m), j0, j0, (.aload_n 0, 1, 0, 0, 0, 0, [], j0m), 
  (.getfield 24, 3, 1, 2, 0, 2, [2036], j0m), j0, j0, (.getfield 79, 3, 4, 0, 0, 0, [1052], j0m), j0, j0, (.iload_n 2, 1, 2, 0, 0, 0, [], j0m), (.laload, 1, 0, 0, 0, 0, [], j0m), (.aload_n 1, 1, 1, 0, 0, 0, [], j0m), 
  (.invokestatic 94, 3, 0, 2, 0, 0, [4176, 3239, 1009, 4000], m_Key_mapped), j0, j0, (.lstore_n 3, 1, 3, 0, 0, 0, [], j0m), (.aload_n 0, 1, 0, 0, 0, 0, [], j0m), (.getfield 24, 3, 1, 2, 0, 2, [2036], j0m), 
  j0, j0, (.getfield 83, 3, 4, 1, 0, 1, [1058], j0m), j0, j0, (.iload_n 2, 1, 2, 0, 0, 0, [], j0m), (.laload, 1, 0, 0, 0, 0, [], j0m), (.aload_n 1, 1, 1, 0, 0, 0, [], j0m), (.invokestatic 94, 3, 0, 2, 0, 0, [4176, 3239, 1009, 4000], m_Key_mapped), 
  j0, j0, (.lstore 5, 2, 5, 0, 0, 0, [], j0m), j0, (.aload_n 0, 1, 0, 0, 0, 0, [], j0m), (.getfield 32, 3, 1, 4, 0, 4, [2041], j0m), j0, j0, (.iload_n 2, 1, 2, 0, 0, 0, [], j0m), (.lload_n 3, 1, 3, 0, 0, 0, [], j0m), 
  (.lload 5, 2, 5, 0, 0, 0, [], j0m), j0, (.invokevirtual 86, 3, 4, 4, 1, 0, [4151, 4152, 4153, 1004, 4154], m_KeyRow_find), j0, j0, (.istore 7, 2, 7, 0, 0, 0, [], j0m), j0, (.iload 7, 2, 7, 0, 0, 0, [], j0m), 
  j0, (.ifCond .ge 10, 3, 0, 71, 0, 0, [], j0m), j0, j0, (.iconst (-1), 1, 0, 0, 0, 0, [], j0m), (.iload 7, 2, 7, 0, 0, 0, [], j0m), j0, (.isub, 1, 0, 0, 0, 0, [], j0m), (.goto 5, 3, 0, 73, 0, 0, [], j0m), 
  j0, j0, (.iload 7, 2, 7, 0, 0, 0, [], j0m), j0, (.istore 8, 2, 8, 0, 0, 0, [], j0m), j0, (.iload 8, 2, 8, 0, 0, 0, [], j0m), j0, (.ifCond .lt 51, 3, 0, 128, 0, 0, [], j0m), j0, j0, (.iload 8, 2, 8, 0, 0, 0, [], j0m), 
  j0, (.iload_n 2, 1, 2, 0, 0, 0, [], j0m), (.if_icmp .gt 45, 3, 0, 128, 0, 0, [], j0m), j0, j0, (.aload_n 0, 1, 0, 0, 0, 0, [], j0m), (.getfield 32, 3, 1, 4, 0, 4, [2041], j0m), j0, j0, (.iload_n 2, 1, 2, 0, 0, 0, [], j0m), 
  (.iload 8, 2, 8, 0, 0, 0, [], j0m), j0, (.lload_n 3, 1, 3, 0, 0, 0, [], j0m), (.lload 5, 2, 5, 0, 0, 0, [], j0m), j0, (.invokevirtual 90, 3, 4, 5, 1, 0, [4158, 4159, 4160, 1004, 4161], m_KeyRow_insert), 
  j0, j0, (.aload_n 0, 1, 0, 0, 0, 0, [], j0m), (.getfield 28, 3, 1, 3, 0, 3, [2039], j0m), j0, j0, (.iload 8, 2, 8, 0, 0, 0, [], j0m), j0, (.aload_n 0, 1, 0, 0, 0, 0, [], j0m), (.getfield 28, 3, 1, 3, 0, 3, [2039], j0m), 
  j0, j0, (.iload 8, 2, 8, 0, 0, 0, [], j0m), j0, (.iconst 1, 1, 0, 0, 0, 0, [], j0m), (.iadd, 1, 0, 0, 0, 0, [], j0m), (.iload_n 2, 1, 2, 0, 0, 0, [], j0m), (.iload 8, 2, 8, 0, 0, 0, [], j0m), j0, (.isub, 1, 0, 0, 0, 0, [], j0m), 
  (.invokestatic 100, 3, 1, 5, 3, 0, [4177, 4009, 4008, 1020], j0m), j0, j0, (.aload_n 0, 1, 0, 0, 0, 0, [], j0m), (.getfield 28, 3, 1, 3, 0, 3, [2039], j0m), j0, j0, (.iload 8, 2, 8, 0, 0, 0, [], j0m), 
  j0, (.iload_n 2, 1, 2, 0, 0, 0, [], j0m), (.iastore, 1, 0, 0, 0, 0, [], j0m), (.iinc 2 1, 3, 2, 0, 0, 0, [], j0m), j0, j0, (.goto (-129), 3, 0, 2, 0, 0, [], j0m), j0, j0, (.return_, 1, 0, 0, 0, 0, [], j0m)
  ]
set_option maxRecDepth 20000 in
theorem t_Book_bringToOrder : okT m_Book_bringToOrder k_Book_bringToOrder = true := by decide +kernel
def k_Words_has : List jO := [
  (.iload_n 1, 1, 1, 0, 0, 0, [], j0m), (.ifCond .lt 22, 3, 0, 23, 0, 0, [], j0m), j0, j0, (.iload_n 1, 1, 1, 0, 0, 0, [], j0m), (.aload_n 0, 1, 0, 0, 0, 0, [], j0m), (.getfield 9, 3, 10, 0, 0, 0, [1211], j0m), 
  j0, j0, (.if_icmp .ge 14, 3, 0, 23, 0, 0, [], j0m), j0, j0, (.iload_n 1, 1, 1, 0, 0, 0, [], j0m), (.sipush 300, 3, 0, 0, 0, 0, [], j0m), j0, j0, (.if_icmp .ge 7, 3, 0, 23, 0, 0, [], j0m), j0, j0, (.iconst 1, 1, 0, 0, 0, 0, [], j0m), 
  (.goto 4, 3, 0, 24, 0, 0, [], j0m), j0, j0, (.iconst 0, 1, 0, 0, 0, 0, [], j0m), (.ireturn, 1, 0, 0, 1, 0, [], j0m)]
set_option maxRecDepth 20000 in
theorem t_Words_has : okT m_Words_has k_Words_has = true := by decide +kernel
def k_Book_has : List jO := [
  (.iload_n 1, 1, 1, 0, 0, 0, [], j0m), (.ifCond .lt 22, 3, 0, 23, 0, 0, [], j0m), j0, j0, (.iload_n 1, 1, 1, 0, 0, 0, [], j0m), (.aload_n 0, 1, 0, 0, 0, 0, [], j0m), (.getfield 15, 3, 1, 1, 0, 1, [2033], j0m), 
  j0, j0, (.if_icmp .ge 14, 3, 0, 23, 0, 0, [], j0m), j0, j0, (.iload_n 1, 1, 1, 0, 0, 0, [], j0m), (.sipush 600, 3, 0, 0, 0, 0, [], j0m), j0, j0, (.if_icmp .ge 7, 3, 0, 23, 0, 0, [], j0m), j0, j0, (.iconst 1, 1, 0, 0, 0, 0, [], j0m), 
  (.goto 4, 3, 0, 24, 0, 0, [], j0m), j0, j0, (.iconst 0, 1, 0, 0, 0, 0, [], j0m), (.ireturn, 1, 0, 0, 1, 0, [], j0m)]
set_option maxRecDepth 20000 in
theorem t_Book_has : okT m_Book_has k_Book_has = true := by decide +kernel
def k_Key_letterAt : List jO := [
  (.iload 4, 2, 4, 0, 0, 0, [], j0m), j0, (.ifCond .lt 10, 3, 0, 12, 0, 0, [], j0m), j0, j0, (.iload 4, 2, 4, 0, 0, 0, [], j0m), j0, (.bipush 20, 2, 0, 0, 0, 0, [], j0m), j0, (.if_icmp .lt 5, 3, 0, 14, 0, 0, [], j0m), 
  j0, j0, (.iconst (-1), 1, 0, 0, 0, 0, [], j0m), (.ireturn, 1, 0, 0, 0, 0, [], j0m), (.iload 4, 2, 4, 0, 0, 0, [], j0m), j0, (.bipush 10, 2, 0, 0, 0, 0, [], j0m), j0, (.if_icmp .ge 7, 3, 0, 25, 0, 0, [], j0m), 
  j0, j0, (.lload_n 0, 1, 0, 0, 0, 0, [], j0m), (.goto 4, 3, 0, 26, 0, 0, [], j0m), j0, j0, (.lload_n 2, 1, 2, 0, 0, 0, [], j0m), (.lstore 5, 2, 5, 0, 0, 0, [], j0m), j0, (.lload 5, 2, 5, 0, 0, 0, [], j0m), 
  j0, (.bipush 45, 2, 0, 0, 0, 0, [], j0m), j0, (.iconst 5, 1, 0, 0, 0, 0, [], j0m), (.iload 4, 2, 4, 0, 0, 0, [], j0m), j0, (.bipush 10, 2, 0, 0, 0, 0, [], j0m), j0, (.irem, 1, 0, 0, 0, 0, [], j0m), (.imul, 1, 0, 0, 0, 0, [], j0m), 
  (.isub, 1, 0, 0, 0, 0, [], j0m), (.lshr, 1, 0, 0, 0, 0, [], j0m), (.ldc2_w 26, 3, 0, 0, 0, 31, [4001], j0m), j0, j0, (.land, 1, 0, 0, 0, 0, [], j0m), (.l2i, 1, 0, 0, 0, 0, [], j0m), (.iconst 1, 1, 0, 0, 0, 0, [], j0m), 
  (.isub, 1, 0, 0, 0, 0, [], j0m), (.ireturn, 1, 0, 0, 0, 0, [], j0m)]
set_option maxRecDepth 20000 in
theorem t_Key_letterAt : okT m_Key_letterAt k_Key_letterAt = true := by decide +kernel
def k_Key_lengthOf : List jO := [
  (.iconst 0, 1, 0, 0, 0, 0, [], j0m), (.istore 4, 2, 4, 0, 0, 0, [], j0m), j0, (.iload 4, 2, 4, 0, 0, 0, [], j0m), j0, (.bipush 20, 2, 0, 0, 0, 0, [], j0m), j0, (.if_icmp .ge 20, 3, 0, 27, 0, 0, [], j0m), 
  j0, j0, (.lload_n 0, 1, 0, 0, 0, 0, [], j0m), (.lload_n 2, 1, 2, 0, 0, 0, [], j0m), (.iload 4, 2, 4, 0, 0, 0, [], j0m), j0, (.invokestatic 28, 3, 0, 3, 0, 0, [4209, 4204, 1009, 4205], m_Key_letterAt), 
  j0, j0, (.iconst (-1), 1, 0, 0, 0, 0, [], j0m), (.if_icmp .eq 9, 3, 0, 27, 0, 0, [], j0m), j0, j0, (.iinc 4 1, 3, 4, 0, 0, 0, [], j0m), j0, j0, (.goto (-21), 3, 0, 3, 0, 0, [], j0m), j0, j0, (.iload 4, 2, 4, 0, 0, 0, [], j0m), 
  j0, (.ireturn, 1, 0, 0, 0, 0, [], j0m)]
set_option maxRecDepth 20000 in
theorem t_Key_lengthOf : okT m_Key_lengthOf k_Key_lengthOf = true := by decide +kernel
def k_Words_oftenOf : List jO := [
  (.iload_n 1, 1, 1, 0, 0, 0, [], j0m), (.ifCond .lt 19, 3, 0, 20, 0, 0, [], j0m), j0, j0, (.iload_n 1, 1, 1, 0, 0, 0, [], j0m), (.sipush 600, 3, 0, 0, 0, 0, [], j0m), j0, j0, (.if_icmp .ge 12, 3, 0, 20, 0, 0, [], j0m), 
  j0, j0, (.aload_n 0, 1, 0, 0, 0, 0, [], j0m), (.getfield 37, 3, 10, 6, 0, 6, [1231], j0m), j0, j0, (.iload_n 1, 1, 1, 0, 0, 0, [], j0m), (.iaload, 1, 0, 0, 0, 0, [], j0m), (.goto 4, 3, 0, 21, 0, 0, [], j0m), 
  j0, j0, (.iconst 0, 1, 0, 0, 0, 0, [], j0m), (.ireturn, 1, 0, 0, 0, 0, [], j0m)]
set_option maxRecDepth 20000 in
theorem t_Words_oftenOf : okT m_Words_oftenOf k_Words_oftenOf = true := by decide +kernel
def k_Rules_isStop : List jO := [
  (.iconst 0, 1, 0, 0, 0, 0, [], j0m), (.istore 5, 2, 5, 0, 0, 0, [], j0m), j0, (.iload 5, 2, 5, 0, 0, 0, [], j0m), j0, (.aload_n 0, 1, 0, 0, 0, 0, [], j0m), (.getfield 34, 3, 7, 5, 0, 5, [1093], j0m), 
  j0, j0, (.if_icmp .ge 25, 3, 0, 34, 0, 0, [], j0m), j0, j0, (.aload_n 0, 1, 0, 0, 0, 0, [], j0m), (.getfield 30, 3, 7, 4, 0, 4, [1091], j0m), j0, j0, (.iload 5, 2, 5, 0, 0, 0, [], j0m), j0, (.lload_n 1, 1, 1, 0, 0, 0, [], j0m), 
  (.lload_n 3, 1, 3, 0, 0, 0, [], j0m), (.invokevirtual 80, 3, 4, 4, 1, 0, [4218, 4219, 4220, 1004, 4221], m_KeyRow_holds), j0, j0, (.ifCond .eq 5, 3, 0, 28, 0, 0, [], j0m), j0, j0, (.iconst 1, 1, 0, 0, 0, 0, [], j0m), 
  (.ireturn, 1, 0, 0, 1, 0, [], j0m), (.iinc 5 1, 3, 5, 0, 0, 0, [], j0m), j0, j0, (.goto (-28), 3, 0, 3, 0, 0, [], j0m), j0, j0, (.iconst 0, 1, 0, 0, 0, 0, [], j0m), (.ireturn, 1, 0, 0, 1, 0, [], j0m)
  ]
set_option maxRecDepth 20000 in
theorem t_Rules_isStop : okT m_Rules_isStop k_Rules_isStop = true := by decide +kernel
def k_KeyRow_holds : List jO := [
  (.iload_n 1, 1, 1, 0, 0, 0, [], j0m), (.ifCond .lt 39, 3, 0, 40, 0, 0, [], j0m), j0, j0, (.iload_n 1, 1, 1, 0, 0, 0, [], j0m), (.aload_n 0, 1, 0, 0, 0, 0, [], j0m), (.getfield 13, 3, 4, 0, 0, 0, [1051], j0m), 
  j0, j0, (.arraylength, 1, 0, 0, 0, 0, [], j0m), (.if_icmp .ge 30, 3, 0, 40, 0, 0, [], j0m), j0, j0, (.aload_n 0, 1, 0, 0, 0, 0, [], j0m), (.getfield 13, 3, 4, 0, 0, 0, [1051], j0m), j0, j0, (.iload_n 1, 1, 1, 0, 0, 0, [], j0m), 
  (.laload, 1, 0, 0, 0, 0, [], j0m), (.lload_n 2, 1, 2, 0, 0, 0, [], j0m), (.lcmp, 1, 0, 0, 0, 0, [], j0m), (.ifCond .ne 19, 3, 0, 40, 0, 0, [], j0m), j0, j0, (.aload_n 0, 1, 0, 0, 0, 0, [], j0m), (.getfield 19, 3, 4, 1, 0, 1, [1057], j0m), 
  j0, j0, (.iload_n 1, 1, 1, 0, 0, 0, [], j0m), (.laload, 1, 0, 0, 0, 0, [], j0m), (.lload 4, 2, 4, 0, 0, 0, [], j0m), j0, (.lcmp, 1, 0, 0, 0, 0, [], j0m), (.ifCond .ne 7, 3, 0, 40, 0, 0, [], j0m), j0, 
  j0, (.iconst 1, 1, 0, 0, 0, 0, [], j0m), (.goto 4, 3, 0, 41, 0, 0, [], j0m), j0, j0, (.iconst 0, 1, 0, 0, 0, 0, [], j0m), (.ireturn, 1, 0, 0, 1, 0, [], j0m)]
set_option maxRecDepth 20000 in
theorem t_KeyRow_holds : okT m_KeyRow_holds k_KeyRow_holds = true := by decide +kernel
def k_Rules_rootOf : List jO := [
  (.iconst 0, 1, 0, 0, 0, 0, [], j0m), (.istore 5, 2, 5, 0, 0, 0, [], j0m), j0, (.iload 5, 2, 5, 0, 0, 0, [], j0m), j0, (.aload_n 0, 1, 0, 0, 0, 0, [], j0m), (.getfield 40, 3, 7, 7, 0, 7, [1098], j0m), 
  j0, j0, (.if_icmp .ge 59, 3, 0, 68, 0, 0, [], j0m), j0, j0, (.iload 5, 2, 5, 0, 0, 0, [], j0m), j0, (.bipush 20, 2, 0, 0, 0, 0, [], j0m), j0, (.if_icmp .ge 52, 3, 0, 68, 0, 0, [], j0m), j0, j0, (.iconst 0, 1, 0, 0, 0, 0, [], j0m), 
  (.istore 6, 2, 6, 0, 0, 0, [], j0m), j0, (.iload 6, 2, 6, 0, 0, 0, [], j0m), j0, (.aload_n 0, 1, 0, 0, 0, 0, [], j0m), (.getfield 46, 3, 7, 9, 0, 9, [1104], j0m), j0, j0, (.iload 5, 2, 5, 0, 0, 0, [], j0m), 
  j0, (.iaload, 1, 0, 0, 0, 0, [], j0m), (.if_icmp .ge 31, 3, 0, 62, 0, 0, [], j0m), j0, j0, (.aload_n 0, 1, 0, 0, 0, 0, [], j0m), (.getfield 43, 3, 7, 8, 0, 8, [1101], j0m), j0, j0, (.iload 5, 2, 5, 0, 0, 0, [], j0m), 
  j0, (.iconst 4, 1, 0, 0, 0, 0, [], j0m), (.imul, 1, 0, 0, 0, 0, [], j0m), (.iload 6, 2, 6, 0, 0, 0, [], j0m), j0, (.iadd, 1, 0, 0, 0, 0, [], j0m), (.lload_n 1, 1, 1, 0, 0, 0, [], j0m), (.lload_n 3, 1, 3, 0, 0, 0, [], j0m), 
  (.invokevirtual 80, 3, 4, 4, 1, 0, [4218, 4219, 4220, 1004, 4221], m_KeyRow_holds), j0, j0, (.ifCond .eq 6, 3, 0, 56, 0, 0, [], j0m), j0, j0, (.iload 5, 2, 5, 0, 0, 0, [], j0m), j0, (.ireturn, 1, 0, 0, 0, 0, [], j0m), 
  (.iinc 6 1, 3, 6, 0, 0, 0, [], j0m), j0, j0, (.goto (-37), 3, 0, 22, 0, 0, [], j0m), j0, j0, (.iinc 5 1, 3, 5, 0, 0, 0, [], j0m), j0, j0, (.goto (-62), 3, 0, 3, 0, 0, [], j0m), j0, j0, (.iconst (-1), 1, 0, 0, 0, 0, [], j0m), 
  (.ireturn, 1, 0, 0, 0, 0, [], j0m)]
set_option maxRecDepth 20000 in
theorem t_Rules_rootOf : okT m_Rules_rootOf k_Rules_rootOf = true := by decide +kernel
def k_Asker_solve : List jO := [
  (.aload_n 0, 1, 0, 0, 0, 0, [], j0m), (.aload_n 0, 1, 0, 0, 0, 0, [], j0m), (.getfield 55, 3, 0, 2, 0, 2, [2160], j0m), j0, j0, (.iload_n 1, 1, 1, 0, 0, 0, [], j0m), (.invokevirtual 59, 3, 1, 2, 1, 0, [2154, 2155, 2156, 1007, 2157], m_Book_wordsOf), 
  j0, j0, (.putfield 65, 3, 0, 4, 0, 4, [2162], j0m), j0, j0, (.aload_n 0, 1, 0, 0, 0, 0, [], j0m), (.iconst 0, 1, 0, 0, 0, 0, [], j0m), (.putfield 18, 3, 0, 5, 0, 5, [2163], j0m), j0, j0, (.aload_n 0, 1, 0, 0, 0, 0, [], j0m), 
  (.getfield 47, 3, 0, 0, 0, 0, [2158], j0m), j0, j0, (.iload_n 2, 1, 2, 0, 0, 0, [], j0m), (.invokevirtual 69, 3, 9, 2, 1, 0, [4238, 3072, 3073, 1011, 3074], m_Tokens_open), j0, j0, (.aload_n 0, 1, 0, 0, 0, 0, [], j0m), 
  (.iconst 0, 1, 0, 0, 0, 0, [], j0m), (.invokevirtual 75, 3, 0, 2, 1, 0, [4239, 5001, 24, 1013, 5002], m_Asker_readAsk), j0, j0, (.ifCond .ne 5, 3, 0, 35, 0, 0, [], j0m), j0, j0, (.iconst 0, 1, 0, 0, 0, 0, [], j0m), 
  (.ireturn, 1, 0, 0, 1, 0, [], j0m), (.aload_n 0, 1, 0, 0, 0, 0, [], j0m), (.getfield 47, 3, 0, 0, 0, 0, [2158], j0m), j0, j0, (.getfield 79, 3, 9, 4, 0, 4, [2099], j0m), j0, j0, (.ifCond .eq 12, 3, 0, 54, 0, 0, [], j0m), 
  j0, j0, (.aload_n 0, 1, 0, 0, 0, 0, [], j0m), (.getfield 47, 3, 0, 0, 0, 0, [2158], j0m), j0, j0, (.iconst 1, 1, 0, 0, 0, 0, [], j0m), (.invokevirtual 82, 3, 9, 2, 1, 0, [5003, 3173, 3174, 1011, 3175], m_Tokens_fail), 
  j0, j0, (.ireturn, 1, 0, 0, 1, 0, [], j0m), (.aload_n 0, 1, 0, 0, 0, 0, [], j0m), (.aload_n 0, 1, 0, 0, 0, 0, [], j0m), (.getfield 24, 3, 0, 6, 0, 6, [2164], j0m), j0, j0, (.iconst 0, 1, 0, 0, 0, 0, [], j0m), 
  (.aaload, 1, 0, 0, 1, 0, [], j0m), (.invokevirtual 85, 3, 0, 2, 1, 0, [5090, 5092, 38, 1013, 5093], m_Asker_putDown), j0, j0, (.iconst 1, 1, 0, 0, 0, 0, [], j0m), (.ireturn, 1, 0, 0, 1, 0, [], j0m)]
set_option maxRecDepth 20000 in
theorem t_Asker_solve : okT m_Asker_solve k_Asker_solve = true := by decide +kernel
def k_Asker_readAsk : List jO := [
  (.iload_n 1, 1, 1, 0, 0, 0, [], j0m), (.ifCond .lt 9, 3, 0, 10, 0, 0, [], j0m), j0, j0, (.iload_n 1, 1, 1, 0, 0, 0, [], j0m), (.bipush 7, 2, 0, 0, 0, 0, [], j0m), j0, (.if_icmp .lt 12, 3, 0, 19, 0, 0, [], j0m), 
  j0, j0, (.aload_n 0, 1, 0, 0, 0, 0, [], j0m), (.getfield 47, 3, 0, 0, 0, 0, [2158], j0m), j0, j0, (.iconst 3, 1, 0, 0, 0, 0, [], j0m), (.invokevirtual 82, 3, 9, 2, 1, 0, [5003, 3173, 3174, 1011, 3175], m_Tokens_fail), 
  j0, j0, (.ireturn, 1, 0, 0, 1, 0, [], j0m), (.aload_n 0, 1, 0, 0, 0, 0, [], j0m), (.getfield 24, 3, 0, 6, 0, 6, [2164], j0m), j0, j0, (.iconst 2, 1, 0, 0, 0, 0, [], j0m), (.iload_n 1, 1, 1, 0, 0, 0, [], j0m), 
  (.imul, 1, 0, 0, 0, 0, [], j0m), (.aaload, 1, 0, 0, 1, 0, [], j0m), (.astore_n 2, 1, 2, 0, 0, 0, [], j0m), (.aload_n 0, 1, 0, 0, 0, 0, [], j0m), (.getfield 24, 3, 0, 6, 0, 6, [2164], j0m), j0, j0, (.iconst 2, 1, 0, 0, 0, 0, [], j0m), 
  (.iload_n 1, 1, 1, 0, 0, 0, [], j0m), (.imul, 1, 0, 0, 0, 0, [], j0m), (.iconst 1, 1, 0, 0, 0, 0, [], j0m), (.iadd, 1, 0, 0, 0, 0, [], j0m), (.aaload, 1, 0, 0, 1, 0, [], j0m), (.astore_n 3, 1, 3, 0, 0, 0, [], j0m), 
  (.aload_n 0, 1, 0, 0, 0, 0, [], j0m), (.iload_n 1, 1, 1, 0, 0, 0, [], j0m), (.aload_n 2, 1, 2, 0, 0, 0, [], j0m), (.invokevirtual 96, 3, 0, 3, 1, 0, [5004, 5006, 25, 1013, 5007], m_Asker_readUnit), j0, 
  j0, (.ifCond .ne 5, 3, 0, 50, 0, 0, [], j0m), j0, j0, (.iconst 0, 1, 0, 0, 0, 0, [], j0m), (.ireturn, 1, 0, 0, 1, 0, [], j0m), (.iconst 0, 1, 0, 0, 0, 0, [], j0m), (.istore 4, 2, 4, 0, 0, 0, [], j0m), 
  j0, (.iload 4, 2, 4, 0, 0, 0, [], j0m), j0, (.bipush 30, 2, 0, 0, 0, 0, [], j0m), j0, (.if_icmp .ge 125, 3, 0, 182, 0, 0, [], j0m), j0, j0, (.aload_n 0, 1, 0, 0, 0, 0, [], j0m), (.getfield 47, 3, 0, 0, 0, 0, [2158], j0m), 
  j0, j0, (.getfield 79, 3, 9, 4, 0, 4, [2099], j0m), j0, j0, (.ifCond .eq 115, 3, 0, 182, 0, 0, [], j0m), j0, j0, (.aload_n 0, 1, 0, 0, 0, 0, [], j0m), (.getfield 47, 3, 0, 0, 0, 0, [2158], j0m), j0, 
  j0, (.getfield 79, 3, 9, 4, 0, 4, [2099], j0m), j0, j0, (.bipush 41, 2, 0, 0, 0, 0, [], j0m), j0, (.if_icmp .eq 103, 3, 0, 182, 0, 0, [], j0m), j0, j0, (.aload_n 0, 1, 0, 0, 0, 0, [], j0m), (.invokevirtual 100, 3, 0, 1, 1, 0, [5014, 5016, 27, 1013, 5017], m_Asker_operatorHere), 
  j0, j0, (.istore 5, 2, 5, 0, 0, 0, [], j0m), j0, (.iload 5, 2, 5, 0, 0, 0, [], j0m), j0, (.ifCond .ne 12, 3, 0, 102, 0, 0, [], j0m), j0, j0, (.aload_n 0, 1, 0, 0, 0, 0, [], j0m), (.getfield 47, 3, 0, 0, 0, 0, [2158], j0m), 
  j0, j0, (.iconst 1, 1, 0, 0, 0, 0, [], j0m), (.invokevirtual 82, 3, 9, 2, 1, 0, [5003, 3173, 3174, 1011, 3175], m_Tokens_fail), j0, j0, (.ireturn, 1, 0, 0, 1, 0, [], j0m), (.aload_n 0, 1, 0, 0, 0, 0, [], j0m), 
  (.getfield 47, 3, 0, 0, 0, 0, [2158], j0m), j0, j0, (.invokevirtual 104, 3, 9, 1, 1, 0, [5028, 3080, 3081, 1011, 3082], m_Tokens_advance), j0, j0, (.iconst 0, 1, 0, 0, 0, 0, [], j0m), (.istore 6, 2, 6, 0, 0, 0, [], j0m), 
  j0, (.iload 5, 2, 5, 0, 0, 0, [], j0m), j0, (.iconst 1, 1, 0, 0, 0, 0, [], j0m), (.if_icmp .eq 15, 3, 0, 130, 0, 0, [], j0m), j0, j0, (.iload 5, 2, 5, 0, 0, 0, [], j0m), j0, (.iconst 2, 1, 0, 0, 0, 0, [], j0m), 
  (.if_icmp .eq 9, 3, 0, 130, 0, 0, [], j0m), j0, j0, (.iload 5, 2, 5, 0, 0, 0, [], j0m), j0, (.iconst 3, 1, 0, 0, 0, 0, [], j0m), (.if_icmp .ne 28, 3, 0, 155, 0, 0, [], j0m), j0, j0, (.aload_n 0, 1, 0, 0, 0, 0, [], j0m), 
  (.invokevirtual 107, 3, 0, 1, 1, 0, [5066, 5068, 33, 1013, 5069], m_Asker_isAway), j0, j0, (.ifCond .ne 5, 3, 0, 139, 0, 0, [], j0m), j0, j0, (.iconst 0, 1, 0, 0, 0, 0, [], j0m), (.ireturn, 1, 0, 0, 1, 0, [], j0m), 
  (.aload_n 0, 1, 0, 0, 0, 0, [], j0m), (.getfield 47, 3, 0, 0, 0, 0, [2158], j0m), j0, j0, (.getfield 111, 3, 9, 5, 0, 5, [2101], j0m), j0, j0, (.istore 6, 2, 6, 0, 0, 0, [], j0m), j0, (.aload_n 0, 1, 0, 0, 0, 0, [], j0m), 
  (.getfield 47, 3, 0, 0, 0, 0, [2158], j0m), j0, j0, (.invokevirtual 104, 3, 9, 1, 1, 0, [5028, 3080, 3081, 1011, 3082], m_Tokens_advance), j0, j0, (.aload_n 0, 1, 0, 0, 0, 0, [], j0m), (.iload_n 1, 1, 1, 0, 0, 0, [], j0m), 
  (.aload_n 3, 1, 3, 0, 0, 0, [], j0m), (.invokevirtual 96, 3, 0, 3, 1, 0, [5004, 5006, 25, 1013, 5007], m_Asker_readUnit), j0, j0, (.ifCond .ne 5, 3, 0, 166, 0, 0, [], j0m), j0, j0, (.iconst 0, 1, 0, 0, 0, 0, [], j0m), 
  (.ireturn, 1, 0, 0, 1, 0, [], j0m), (.aload_n 0, 1, 0, 0, 0, 0, [], j0m), (.iload 5, 2, 5, 0, 0, 0, [], j0m), j0, (.iload 6, 2, 6, 0, 0, 0, [], j0m), j0, (.aload_n 2, 1, 2, 0, 0, 0, [], j0m), (.aload_n 3, 1, 3, 0, 0, 0, [], j0m), 
  (.invokevirtual 114, 3, 0, 5, 1, 0, [5070, 5072, 34, 1013, 5073], m_Asker_work), j0, j0, (.iinc 4 1, 3, 4, 0, 0, 0, [], j0m), j0, j0, (.goto (-126), 3, 0, 53, 0, 0, [], j0m), j0, j0, (.iconst 1, 1, 0, 0, 0, 0, [], j0m), 
  (.ireturn, 1, 0, 0, 1, 0, [], j0m)]
set_option maxRecDepth 20000 in
theorem t_Asker_readAsk : okT m_Asker_readAsk k_Asker_readAsk = true := by decide +kernel
def k_Asker_readUnit : List jO := [
  (.aload_n 0, 1, 0, 0, 0, 0, [], j0m), (.getfield 47, 3, 0, 0, 0, 0, [2158], j0m), j0, j0, (.ldc 134, 2, 3, 0, 1, 0, [], j0m), j0, (.invokevirtual 120, 3, 9, 2, 1, 0, [5009, 3104, 3105, 1011, 3106], m_Tokens_is), 
  j0, j0, (.istore_n 3, 1, 3, 0, 0, 0, [], j0m), (.aload_n 0, 1, 0, 0, 0, 0, [], j0m), (.getfield 47, 3, 0, 0, 0, 0, [2158], j0m), j0, j0, (.getfield 79, 3, 9, 4, 0, 4, [2099], j0m), j0, j0, (.bipush 40, 2, 0, 0, 0, 0, [], j0m), 
  j0, (.if_icmp .ne 7, 3, 0, 26, 0, 0, [], j0m), j0, j0, (.iconst 1, 1, 0, 0, 0, 0, [], j0m), (.goto 4, 3, 0, 27, 0, 0, [], j0m), j0, j0, (.iconst 0, 1, 0, 0, 0, 0, [], j0m), (.istore 4, 2, 4, 0, 0, 0, [], j0m), 
  j0, (.iload_n 3, 1, 3, 0, 0, 0, [], j0m), (.ifCond .ne 36, 3, 0, 66, 0, 0, [], j0m), j0, j0, (.iload 4, 2, 4, 0, 0, 0, [], j0m), j0, (.ifCond .ne 31, 3, 0, 66, 0, 0, [], j0m), j0, j0, (.aload_n 0, 1, 0, 0, 0, 0, [], j0m), 
  (.getfield 47, 3, 0, 0, 0, 0, [2158], j0m), j0, j0, (.getfield 79, 3, 9, 4, 0, 4, [2099], j0m), j0, j0, (.bipush 34, 2, 0, 0, 0, 0, [], j0m), j0, (.if_icmp .eq 19, 3, 0, 66, 0, 0, [], j0m), j0, j0, (.aload_n 0, 1, 0, 0, 0, 0, [], j0m), 
  (.invokevirtual 136, 3, 0, 1, 1, 0, [5010, 5012, 26, 1013, 5013], m_Asker_isFreeWord), j0, j0, (.ifCond .ne 12, 3, 0, 66, 0, 0, [], j0m), j0, j0, (.aload_n 0, 1, 0, 0, 0, 0, [], j0m), (.getfield 47, 3, 0, 0, 0, 0, [2158], j0m), 
  j0, j0, (.iconst 1, 1, 0, 0, 0, 0, [], j0m), (.invokevirtual 82, 3, 9, 2, 1, 0, [5003, 3173, 3174, 1011, 3175], m_Tokens_fail), j0, j0, (.ireturn, 1, 0, 0, 1, 0, [], j0m), (.aload_n 0, 1, 0, 0, 0, 0, [], j0m), 
  (.getfield 18, 3, 0, 5, 0, 5, [2163], j0m), j0, j0, (.bipush 30, 2, 0, 0, 0, 0, [], j0m), j0, (.if_icmp .ge 16, 3, 0, 88, 0, 0, [], j0m), j0, j0, (.iload 4, 2, 4, 0, 0, 0, [], j0m), j0, (.ifCond .eq 20, 3, 0, 97, 0, 0, [], j0m), 
  j0, j0, (.iload_n 1, 1, 1, 0, 0, 0, [], j0m), (.iconst 1, 1, 0, 0, 0, 0, [], j0m), (.iadd, 1, 0, 0, 0, 0, [], j0m), (.bipush 7, 2, 0, 0, 0, 0, [], j0m), j0, (.if_icmp .lt 12, 3, 0, 97, 0, 0, [], j0m), 
  j0, j0, (.aload_n 0, 1, 0, 0, 0, 0, [], j0m), (.getfield 47, 3, 0, 0, 0, 0, [2158], j0m), j0, j0, (.iconst 3, 1, 0, 0, 0, 0, [], j0m), (.invokevirtual 82, 3, 9, 2, 1, 0, [5003, 3173, 3174, 1011, 3175], m_Tokens_fail), 
  j0, j0, (.ireturn, 1, 0, 0, 1, 0, [], j0m), (.aload_n 0, 1, 0, 0, 0, 0, [], j0m), (.dup, 1, 0, 0, 0, 0, [], j0m), (.getfield 18, 3, 0, 5, 0, 5, [2163], j0m), j0, j0, (.iconst 1, 1, 0, 0, 0, 0, [], j0m), 
  (.iadd, 1, 0, 0, 0, 0, [], j0m), (.putfield 18, 3, 0, 5, 0, 5, [2163], j0m), j0, j0, (.iload 4, 2, 4, 0, 0, 0, [], j0m), j0, (.ifCond .eq 10, 3, 0, 119, 0, 0, [], j0m), j0, j0, (.aload_n 0, 1, 0, 0, 0, 0, [], j0m), 
  (.iload_n 1, 1, 1, 0, 0, 0, [], j0m), (.aload_n 2, 1, 2, 0, 0, 0, [], j0m), (.invokevirtual 139, 3, 0, 3, 1, 0, [5024, 5026, 28, 1013, 5027], m_Asker_readNested), j0, j0, (.ireturn, 1, 0, 0, 1, 0, [], j0m), 
  (.aload_n 0, 1, 0, 0, 0, 0, [], j0m), (.getfield 47, 3, 0, 0, 0, 0, [2158], j0m), j0, j0, (.getfield 79, 3, 9, 4, 0, 4, [2099], j0m), j0, j0, (.bipush 34, 2, 0, 0, 0, 0, [], j0m), j0, (.if_icmp .ne 9, 3, 0, 137, 0, 0, [], j0m), 
  j0, j0, (.aload_n 0, 1, 0, 0, 0, 0, [], j0m), (.aload_n 2, 1, 2, 0, 0, 0, [], j0m), (.invokevirtual 142, 3, 0, 2, 1, 0, [5031, 5033, 29, 1013, 5034], m_Asker_readPhrase), j0, j0, (.ireturn, 1, 0, 0, 1, 0, [], j0m), 
  (.iload_n 3, 1, 3, 0, 0, 0, [], j0m), (.ifCond .eq 26, 3, 0, 164, 0, 0, [], j0m), j0, j0, (.aload_n 0, 1, 0, 0, 0, 0, [], j0m), (.getfield 47, 3, 0, 0, 0, 0, [2158], j0m), j0, j0, (.invokevirtual 104, 3, 9, 1, 1, 0, [5028, 3080, 3081, 1011, 3082], m_Tokens_advance), 
  j0, j0, (.aload_n 0, 1, 0, 0, 0, 0, [], j0m), (.invokevirtual 136, 3, 0, 1, 1, 0, [5010, 5012, 26, 1013, 5013], m_Asker_isFreeWord), j0, j0, (.ifCond .ne 12, 3, 0, 164, 0, 0, [], j0m), j0, j0, (.aload_n 0, 1, 0, 0, 0, 0, [], j0m), 
  (.getfield 47, 3, 0, 0, 0, 0, [2158], j0m), j0, j0, (.iconst 1, 1, 0, 0, 0, 0, [], j0m), (.invokevirtual 82, 3, 9, 2, 1, 0, [5003, 3173, 3174, 1011, 3175], m_Tokens_fail), j0, j0, (.ireturn, 1, 0, 0, 1, 0, [], j0m), 
  (.aload_n 0, 1, 0, 0, 0, 0, [], j0m), (.getfield 47, 3, 0, 0, 0, 0, [2158], j0m), j0, j0, (.aload_n 0, 1, 0, 0, 0, 0, [], j0m), (.getfield 12, 3, 0, 3, 0, 3, [2161], j0m), j0, j0, (.invokevirtual 146, 3, 9, 2, 1, 0, [5036, 3187, 3188, 1011, 3189], m_Tokens_readInto), 
  j0, j0, (.aload_n 0, 1, 0, 0, 0, 0, [], j0m), (.getfield 12, 3, 0, 3, 0, 3, [2161], j0m), j0, j0, (.aload_n 0, 1, 0, 0, 0, 0, [], j0m), (.getfield 51, 3, 0, 1, 0, 1, [2159], j0m), j0, j0, (.getfield 150, 3, 7, 1, 0, 1, [1083], j0m), 
  j0, j0, (.invokevirtual 155, 3, 3, 2, 1, 0, [5037, 5038, 5039, 1009, 5040], m_Key_map), j0, j0, (.aload_n 0, 1, 0, 0, 0, 0, [], j0m), (.getfield 47, 3, 0, 0, 0, 0, [2158], j0m), j0, j0, (.invokevirtual 104, 3, 9, 1, 1, 0, [5028, 3080, 3081, 1011, 3082], m_Tokens_advance), 
  j0, j0, (.aload_n 2, 1, 2, 0, 0, 0, [], j0m), (.iconst 0, 1, 0, 0, 0, 0, [], j0m), (.invokestatic 158, 3, 0, 2, 0, 0, [5035, 3214, 1006, 3215], m_Arrays_fill2), j0, j0, (.iload_n 3, 1, 3, 0, 0, 0, [], j0m), 
  (.ifCond .eq 11, 3, 0, 213, 0, 0, [], j0m), j0, j0, (.aload_n 0, 1, 0, 0, 0, 0, [], j0m), (.aload_n 2, 1, 2, 0, 0, 0, [], j0m), (.invokevirtual 164, 3, 0, 2, 1, 0, [5047, 5049, 31, 1013, 5050], m_Asker_markRoot), 
  j0, j0, (.goto 46, 3, 0, 256, 0, 0, [], j0m), j0, j0, (.aload_n 0, 1, 0, 0, 0, 0, [], j0m), (.getfield 51, 3, 0, 1, 0, 1, [2159], j0m), j0, j0, (.aload_n 0, 1, 0, 0, 0, 0, [], j0m), (.getfield 12, 3, 0, 3, 0, 3, [2161], j0m), 
  j0, j0, (.getfield 167, 3, 3, 0, 0, 0, [1192], j0m), j0, j0, (.aload_n 0, 1, 0, 0, 0, 0, [], j0m), (.getfield 12, 3, 0, 3, 0, 3, [2161], j0m), j0, j0, (.getfield 171, 3, 3, 1, 0, 1, [1198], j0m), j0, 
  j0, (.invokevirtual 174, 3, 7, 3, 1, 0, [5065, 4215, 4216, 1003, 4217], m_Rules_isStop), j0, j0, (.ifCond .ne 22, 3, 0, 256, 0, 0, [], j0m), j0, j0, (.aload_n 0, 1, 0, 0, 0, 0, [], j0m), (.aload_n 2, 1, 2, 0, 0, 0, [], j0m), 
  (.aload_n 0, 1, 0, 0, 0, 0, [], j0m), (.getfield 12, 3, 0, 3, 0, 3, [2161], j0m), j0, j0, (.getfield 167, 3, 3, 0, 0, 0, [1192], j0m), j0, j0, (.aload_n 0, 1, 0, 0, 0, 0, [], j0m), (.getfield 12, 3, 0, 3, 0, 3, [2161], j0m), 
  j0, j0, (.getfield 171, 3, 3, 1, 0, 1, [1198], j0m), j0, j0, (.invokevirtual 178, 3, 0, 4, 1, 0, [5055, 5057, 32, 1013, 5058], m_Asker_mark), j0, j0, (.iconst 1, 1, 0, 0, 0, 0, [], j0m), (.ireturn, 1, 0, 0, 1, 0, [], j0m)
  ]
set_option maxRecDepth 20000 in
theorem t_Asker_readUnit : okT m_Asker_readUnit k_Asker_readUnit = true := by decide +kernel
def k_Asker_isFreeWord : List jO := [
  (.aload_n 0, 1, 0, 0, 0, 0, [], j0m), (.getfield 47, 3, 0, 0, 0, 0, [2158], j0m), j0, j0, (.getfield 79, 3, 9, 4, 0, 4, [2099], j0m), j0, j0, (.iconst 1, 1, 0, 0, 0, 0, [], j0m), (.if_icmp .ne 26, 3, 0, 34, 0, 0, [], j0m), 
  j0, j0, (.aload_n 0, 1, 0, 0, 0, 0, [], j0m), (.invokevirtual 100, 3, 0, 1, 1, 0, [5014, 5016, 27, 1013, 5017], m_Asker_operatorHere), j0, j0, (.ifCond .ne 19, 3, 0, 34, 0, 0, [], j0m), j0, j0, (.aload_n 0, 1, 0, 0, 0, 0, [], j0m), 
  (.getfield 47, 3, 0, 0, 0, 0, [2158], j0m), j0, j0, (.ldc 134, 2, 3, 0, 1, 0, [], j0m), j0, (.invokevirtual 120, 3, 9, 2, 1, 0, [5009, 3104, 3105, 1011, 3106], m_Tokens_is), j0, j0, (.ifCond .ne 7, 3, 0, 34, 0, 0, [], j0m), 
  j0, j0, (.iconst 1, 1, 0, 0, 0, 0, [], j0m), (.goto 4, 3, 0, 35, 0, 0, [], j0m), j0, j0, (.iconst 0, 1, 0, 0, 0, 0, [], j0m), (.ireturn, 1, 0, 0, 1, 0, [], j0m)]
set_option maxRecDepth 20000 in
theorem t_Asker_isFreeWord : okT m_Asker_isFreeWord k_Asker_isFreeWord = true := by decide +kernel
def k_Asker_operatorHere : List jO := [
  (.aload_n 0, 1, 0, 0, 0, 0, [], j0m), (.getfield 47, 3, 0, 0, 0, 0, [2158], j0m), j0, j0, (.ldc 118, 2, 6, 0, 1, 0, [], j0m), j0, (.invokevirtual 120, 3, 9, 2, 1, 0, [5009, 3104, 3105, 1011, 3106], m_Tokens_is), 
  j0, j0, (.ifCond .eq 5, 3, 0, 14, 0, 0, [], j0m), j0, j0, (.iconst 1, 1, 0, 0, 0, 0, [], j0m), (.ireturn, 1, 0, 0, 0, 0, [], j0m), (.aload_n 0, 1, 0, 0, 0, 0, [], j0m), (.getfield 47, 3, 0, 0, 0, 0, [2158], j0m), 
  j0, j0, (.ldc 124, 2, 7, 0, 1, 0, [], j0m), j0, (.invokevirtual 120, 3, 9, 2, 1, 0, [5009, 3104, 3105, 1011, 3106], m_Tokens_is), j0, j0, (.ifCond .eq 5, 3, 0, 28, 0, 0, [], j0m), j0, j0, (.iconst 2, 1, 0, 0, 0, 0, [], j0m), 
  (.ireturn, 1, 0, 0, 0, 0, [], j0m), (.aload_n 0, 1, 0, 0, 0, 0, [], j0m), (.getfield 47, 3, 0, 0, 0, 0, [2158], j0m), j0, j0, (.ldc 126, 2, 8, 0, 1, 0, [], j0m), j0, (.invokevirtual 120, 3, 9, 2, 1, 0, [5009, 3104, 3105, 1011, 3106], m_Tokens_is), 
  j0, j0, (.ifCond .eq 5, 3, 0, 42, 0, 0, [], j0m), j0, j0, (.iconst 3, 1, 0, 0, 0, 0, [], j0m), (.ireturn, 1, 0, 0, 0, 0, [], j0m), (.aload_n 0, 1, 0, 0, 0, 0, [], j0m), (.getfield 47, 3, 0, 0, 0, 0, [2158], j0m), 
  j0, j0, (.ldc 128, 2, 9, 0, 1, 0, [], j0m), j0, (.invokevirtual 120, 3, 9, 2, 1, 0, [5009, 3104, 3105, 1011, 3106], m_Tokens_is), j0, j0, (.ifCond .eq 5, 3, 0, 56, 0, 0, [], j0m), j0, j0, (.iconst 4, 1, 0, 0, 0, 0, [], j0m), 
  (.ireturn, 1, 0, 0, 0, 0, [], j0m), (.aload_n 0, 1, 0, 0, 0, 0, [], j0m), (.getfield 47, 3, 0, 0, 0, 0, [2158], j0m), j0, j0, (.ldc 130, 2, 10, 0, 1, 0, [], j0m), j0, (.invokevirtual 120, 3, 9, 2, 1, 0, [5009, 3104, 3105, 1011, 3106], m_Tokens_is), 
  j0, j0, (.ifCond .eq 5, 3, 0, 70, 0, 0, [], j0m), j0, j0, (.iconst 5, 1, 0, 0, 0, 0, [], j0m), (.ireturn, 1, 0, 0, 0, 0, [], j0m), (.aload_n 0, 1, 0, 0, 0, 0, [], j0m), (.getfield 47, 3, 0, 0, 0, 0, [2158], j0m), 
  j0, j0, (.ldc 132, 2, 11, 0, 1, 0, [], j0m), j0, (.invokevirtual 120, 3, 9, 2, 1, 0, [5009, 3104, 3105, 1011, 3106], m_Tokens_is), j0, j0, (.ifCond .eq 8, 3, 0, 87, 0, 0, [], j0m), j0, j0, (.bipush 6, 2, 0, 0, 0, 0, [], j0m), 
  j0, (.goto 4, 3, 0, 88, 0, 0, [], j0m), j0, j0, (.iconst 0, 1, 0, 0, 0, 0, [], j0m), (.ireturn, 1, 0, 0, 0, 0, [], j0m)]
set_option maxRecDepth 20000 in
theorem t_Asker_operatorHere : okT m_Asker_operatorHere k_Asker_operatorHere = true := by decide +kernel
def k_Asker_readNested : List jO := [
  (.aload_n 0, 1, 0, 0, 0, 0, [], j0m), (.getfield 47, 3, 0, 0, 0, 0, [2158], j0m), j0, j0, (.invokevirtual 104, 3, 9, 1, 1, 0, [5028, 3080, 3081, 1011, 3082], m_Tokens_advance), j0, j0, (.aload_n 0, 1, 0, 0, 0, 0, [], j0m), 
  (.iload_n 1, 1, 1, 0, 0, 0, [], j0m), (.iconst 1, 1, 0, 0, 0, 0, [], j0m), (.iadd, 1, 0, 0, 0, 0, [], j0m), (.invokevirtual 75, 3, 0, 2, 1, 0, [4239, 5001, 24, 1013, 5002], m_Asker_readAsk), j0, j0, 
  (.ifCond .ne 5, 3, 0, 19, 0, 0, [], j0m), j0, j0, (.iconst 0, 1, 0, 0, 0, 0, [], j0m), (.ireturn, 1, 0, 0, 1, 0, [], j0m), (.aload_n 0, 1, 0, 0, 0, 0, [], j0m), (.getfield 47, 3, 0, 0, 0, 0, [2158], j0m), 
  j0, j0, (.getfield 79, 3, 9, 4, 0, 4, [2099], j0m), j0, j0, (.bipush 41, 2, 0, 0, 0, 0, [], j0m), j0, (.if_icmp .eq 12, 3, 0, 40, 0, 0, [], j0m), j0, j0, (.aload_n 0, 1, 0, 0, 0, 0, [], j0m), (.getfield 47, 3, 0, 0, 0, 0, [2158], j0m), 
  j0, j0, (.iconst 1, 1, 0, 0, 0, 0, [], j0m), (.invokevirtual 82, 3, 9, 2, 1, 0, [5003, 3173, 3174, 1011, 3175], m_Tokens_fail), j0, j0, (.ireturn, 1, 0, 0, 1, 0, [], j0m), (.aload_n 0, 1, 0, 0, 0, 0, [], j0m), 
  (.getfield 47, 3, 0, 0, 0, 0, [2158], j0m), j0, j0, (.invokevirtual 104, 3, 9, 1, 1, 0, [5028, 3080, 3081, 1011, 3082], m_Tokens_advance), j0, j0, (.iload_n 1, 1, 1, 0, 0, 0, [], j0m), (.ifCond .lt 35, 3, 0, 83, 0, 0, [], j0m), 
  j0, j0, (.iload_n 1, 1, 1, 0, 0, 0, [], j0m), (.iconst 1, 1, 0, 0, 0, 0, [], j0m), (.iadd, 1, 0, 0, 0, 0, [], j0m), (.bipush 7, 2, 0, 0, 0, 0, [], j0m), j0, (.if_icmp .ge 27, 3, 0, 83, 0, 0, [], j0m), 
  j0, j0, (.aload_n 0, 1, 0, 0, 0, 0, [], j0m), (.getfield 24, 3, 0, 6, 0, 6, [2164], j0m), j0, j0, (.iconst 2, 1, 0, 0, 0, 0, [], j0m), (.iload_n 1, 1, 1, 0, 0, 0, [], j0m), (.imul, 1, 0, 0, 0, 0, [], j0m), 
  (.iconst 2, 1, 0, 0, 0, 0, [], j0m), (.iadd, 1, 0, 0, 0, 0, [], j0m), (.aaload, 1, 0, 0, 1, 0, [], j0m), (.iconst 0, 1, 0, 0, 0, 0, [], j0m), (.aload_n 2, 1, 2, 0, 0, 0, [], j0m), (.iconst 0, 1, 0, 0, 0, 0, [], j0m), 
  (.sipush 300, 3, 0, 0, 0, 0, [], j0m), j0, j0, (.aload_n 2, 1, 2, 0, 0, 0, [], j0m), (.arraylength, 1, 0, 0, 0, 0, [], j0m), (.invokestatic 182, 3, 0, 2, 1, 0, [5029, 3076, 1005, 3077], j0m), j0, j0, 
  (.invokestatic 188, 3, 2, 5, 3, 0, [5030, 4009, 4008, 1020], j0m), j0, j0, (.iconst 1, 1, 0, 0, 0, 0, [], j0m), (.ireturn, 1, 0, 0, 1, 0, [], j0m)]
set_option maxRecDepth 20000 in
theorem t_Asker_readNested : okT m_Asker_readNested k_Asker_readNested = true := by decide +kernel
def k_Asker_readPhrase : List jO := [
  (.aload_n 1, 1, 1, 0, 0, 0, [], j0m), (.iconst 1, 1, 0, 0, 0, 0, [], j0m), (.invokestatic 158, 3, 0, 2, 0, 0, [5035, 3214, 1006, 3215], m_Arrays_fill2), j0, j0, (.aload_n 0, 1, 0, 0, 0, 0, [], j0m), 
  (.getfield 47, 3, 0, 0, 0, 0, [2158], j0m), j0, j0, (.invokevirtual 104, 3, 9, 1, 1, 0, [5028, 3080, 3081, 1011, 3082], m_Tokens_advance), j0, j0, (.aload_n 0, 1, 0, 0, 0, 0, [], j0m), (.getfield 47, 3, 0, 0, 0, 0, [2158], j0m), 
  j0, j0, (.getfield 79, 3, 9, 4, 0, 4, [2099], j0m), j0, j0, (.iconst 1, 1, 0, 0, 0, 0, [], j0m), (.if_icmp .eq 12, 3, 0, 32, 0, 0, [], j0m), j0, j0, (.aload_n 0, 1, 0, 0, 0, 0, [], j0m), (.getfield 47, 3, 0, 0, 0, 0, [2158], j0m), 
  j0, j0, (.iconst 1, 1, 0, 0, 0, 0, [], j0m), (.invokevirtual 82, 3, 9, 2, 1, 0, [5003, 3173, 3174, 1011, 3175], m_Tokens_fail), j0, j0, (.ireturn, 1, 0, 0, 1, 0, [], j0m), (.iconst 0, 1, 0, 0, 0, 0, [], j0m), 
  (.istore_n 2, 1, 2, 0, 0, 0, [], j0m), (.iload_n 2, 1, 2, 0, 0, 0, [], j0m), (.sipush 400, 3, 0, 0, 0, 0, [], j0m), j0, j0, (.if_icmp .ge 58, 3, 0, 96, 0, 0, [], j0m), j0, j0, (.aload_n 0, 1, 0, 0, 0, 0, [], j0m), 
  (.getfield 47, 3, 0, 0, 0, 0, [2158], j0m), j0, j0, (.getfield 79, 3, 9, 4, 0, 4, [2099], j0m), j0, j0, (.iconst 1, 1, 0, 0, 0, 0, [], j0m), (.if_icmp .ne 47, 3, 0, 96, 0, 0, [], j0m), j0, j0, (.aload_n 0, 1, 0, 0, 0, 0, [], j0m), 
  (.getfield 47, 3, 0, 0, 0, 0, [2158], j0m), j0, j0, (.aload_n 0, 1, 0, 0, 0, 0, [], j0m), (.getfield 12, 3, 0, 3, 0, 3, [2161], j0m), j0, j0, (.invokevirtual 146, 3, 9, 2, 1, 0, [5036, 3187, 3188, 1011, 3189], m_Tokens_readInto), 
  j0, j0, (.aload_n 0, 1, 0, 0, 0, 0, [], j0m), (.getfield 12, 3, 0, 3, 0, 3, [2161], j0m), j0, j0, (.aload_n 0, 1, 0, 0, 0, 0, [], j0m), (.getfield 51, 3, 0, 1, 0, 1, [2159], j0m), j0, j0, (.getfield 150, 3, 7, 1, 0, 1, [1083], j0m), 
  j0, j0, (.invokevirtual 155, 3, 3, 2, 1, 0, [5037, 5038, 5039, 1009, 5040], m_Key_map), j0, j0, (.aload_n 0, 1, 0, 0, 0, 0, [], j0m), (.aload_n 1, 1, 1, 0, 0, 0, [], j0m), (.iload_n 2, 1, 2, 0, 0, 0, [], j0m), 
  (.invokevirtual 194, 3, 0, 3, 1, 0, [5042, 5044, 30, 1013, 5045], m_Asker_keepFollowed), j0, j0, (.aload_n 0, 1, 0, 0, 0, 0, [], j0m), (.getfield 47, 3, 0, 0, 0, 0, [2158], j0m), j0, j0, (.invokevirtual 104, 3, 9, 1, 1, 0, [5028, 3080, 3081, 1011, 3082], m_Tokens_advance), 
  j0, j0, (.iinc 2 1, 3, 2, 0, 0, 0, [], j0m), j0, j0, (.goto (-59), 3, 0, 34, 0, 0, [], j0m), j0, j0, (.aload_n 0, 1, 0, 0, 0, 0, [], j0m), (.getfield 47, 3, 0, 0, 0, 0, [2158], j0m), j0, j0, (.getfield 79, 3, 9, 4, 0, 4, [2099], j0m), 
  j0, j0, (.bipush 34, 2, 0, 0, 0, 0, [], j0m), j0, (.if_icmp .eq 12, 3, 0, 117, 0, 0, [], j0m), j0, j0, (.aload_n 0, 1, 0, 0, 0, 0, [], j0m), (.getfield 47, 3, 0, 0, 0, 0, [2158], j0m), j0, j0, (.iconst 1, 1, 0, 0, 0, 0, [], j0m), 
  (.invokevirtual 82, 3, 9, 2, 1, 0, [5003, 3173, 3174, 1011, 3175], m_Tokens_fail), j0, j0, (.ireturn, 1, 0, 0, 1, 0, [], j0m), (.aload_n 0, 1, 0, 0, 0, 0, [], j0m), (.getfield 47, 3, 0, 0, 0, 0, [2158], j0m), 
  j0, j0, (.invokevirtual 104, 3, 9, 1, 1, 0, [5028, 3080, 3081, 1011, 3082], m_Tokens_advance), j0, j0, (.iconst 1, 1, 0, 0, 0, 0, [], j0m), (.ireturn, 1, 0, 0, 1, 0, [], j0m)]
set_option maxRecDepth 20000 in
theorem t_Asker_readPhrase : okT m_Asker_readPhrase k_Asker_readPhrase = true := by decide +kernel
def k_Key_map : List jO := [
  (.aload_n 0, 1, 0, 0, 0, 0, [], j0m), (.aload_n 0, 1, 0, 0, 0, 0, [], j0m), (.getfield 9, 3, 3, 0, 0, 0, [1189], j0m), j0, j0, (.aload_n 1, 1, 1, 0, 0, 0, [], j0m), (.invokestatic 22, 3, 0, 2, 0, 0, [5041, 3239, 1009, 4000], m_Key_mapped), 
  j0, j0, (.putfield 9, 3, 3, 0, 0, 0, [1189], j0m), j0, j0, (.aload_n 0, 1, 0, 0, 0, 0, [], j0m), (.aload_n 0, 1, 0, 0, 0, 0, [], j0m), (.getfield 15, 3, 3, 1, 0, 1, [1195], j0m), j0, j0, (.aload_n 1, 1, 1, 0, 0, 0, [], j0m), 
  (.invokestatic 22, 3, 0, 2, 0, 0, [5041, 3239, 1009, 4000], m_Key_mapped), j0, j0, (.putfield 15, 3, 3, 1, 0, 1, [1195], j0m), j0, j0, (.return_, 1, 0, 0, 0, 0, [], j0m)]
set_option maxRecDepth 20000 in
theorem t_Key_map : okT m_Key_map k_Key_map = true := by decide +kernel
def k_Asker_keepFollowed : List jO := [
  (.iconst 0, 1, 0, 0, 0, 0, [], j0m), (.istore_n 3, 1, 3, 0, 0, 0, [], j0m), (.iload_n 3, 1, 3, 0, 0, 0, [], j0m), (.sipush 300, 3, 0, 0, 0, 0, [], j0m), j0, j0, (.if_icmp .ge 74, 3, 0, 80, 0, 0, [], j0m), 
  j0, j0, (.iload_n 3, 1, 3, 0, 0, 0, [], j0m), (.aload_n 1, 1, 1, 0, 0, 0, [], j0m), (.arraylength, 1, 0, 0, 0, 0, [], j0m), (.if_icmp .ge 68, 3, 0, 80, 0, 0, [], j0m), j0, j0, (.iload_n 3, 1, 3, 0, 0, 0, [], j0m), 
  (.iload_n 2, 1, 2, 0, 0, 0, [], j0m), (.iadd, 1, 0, 0, 0, 0, [], j0m), (.aload_n 0, 1, 0, 0, 0, 0, [], j0m), (.getfield 65, 3, 0, 4, 0, 4, [2162], j0m), j0, j0, (.getfield 198, 3, 10, 0, 0, 0, [1214], j0m), 
  j0, j0, (.if_icmp .ge 37, 3, 0, 62, 0, 0, [], j0m), j0, j0, (.aload_n 0, 1, 0, 0, 0, 0, [], j0m), (.getfield 65, 3, 0, 4, 0, 4, [2162], j0m), j0, j0, (.getfield 199, 3, 10, 1, 0, 1, [1218], j0m), j0, 
  j0, (.iload_n 3, 1, 3, 0, 0, 0, [], j0m), (.iload_n 2, 1, 2, 0, 0, 0, [], j0m), (.iadd, 1, 0, 0, 0, 0, [], j0m), (.aload_n 0, 1, 0, 0, 0, 0, [], j0m), (.getfield 12, 3, 0, 3, 0, 3, [2161], j0m), j0, 
  j0, (.getfield 167, 3, 3, 0, 0, 0, [1192], j0m), j0, j0, (.aload_n 0, 1, 0, 0, 0, 0, [], j0m), (.getfield 12, 3, 0, 3, 0, 3, [2161], j0m), j0, j0, (.getfield 171, 3, 3, 1, 0, 1, [1198], j0m), j0, j0, 
  (.invokevirtual 203, 3, 4, 4, 1, 0, [5046, 4219, 4220, 1004, 4221], m_KeyRow_holds), j0, j0, (.ifCond .eq 7, 3, 0, 62, 0, 0, [], j0m), j0, j0, (.iconst 1, 1, 0, 0, 0, 0, [], j0m), (.goto 4, 3, 0, 63, 0, 0, [], j0m), 
  j0, j0, (.iconst 0, 1, 0, 0, 0, 0, [], j0m), (.istore 4, 2, 4, 0, 0, 0, [], j0m), j0, (.iload 4, 2, 4, 0, 0, 0, [], j0m), j0, (.ifCond .ne 7, 3, 0, 74, 0, 0, [], j0m), j0, j0, (.aload_n 1, 1, 1, 0, 0, 0, [], j0m), 
  (.iload_n 3, 1, 3, 0, 0, 0, [], j0m), (.iconst 0, 1, 0, 0, 0, 0, [], j0m), (.bastore, 1, 0, 0, 2, 0, [], j0m), (.iinc 3 1, 3, 3, 0, 0, 0, [], j0m), j0, j0, (.goto (-75), 3, 0, 2, 0, 0, [], j0m), j0, 
  j0, (.return_, 1, 0, 0, 0, 0, [], j0m)]
set_option maxRecDepth 20000 in
theorem t_Asker_keepFollowed : okT m_Asker_keepFollowed k_Asker_keepFollowed = true := by decide +kernel
def k_Asker_markRoot : List jO := [
  (.aload_n 0, 1, 0, 0, 0, 0, [], j0m), (.getfield 51, 3, 0, 1, 0, 1, [2159], j0m), j0, j0, (.aload_n 0, 1, 0, 0, 0, 0, [], j0m), (.getfield 12, 3, 0, 3, 0, 3, [2161], j0m), j0, j0, (.getfield 167, 3, 3, 0, 0, 0, [1192], j0m), 
  j0, j0, (.aload_n 0, 1, 0, 0, 0, 0, [], j0m), (.getfield 12, 3, 0, 3, 0, 3, [2161], j0m), j0, j0, (.getfield 171, 3, 3, 1, 0, 1, [1198], j0m), j0, j0, (.invokevirtual 226, 3, 7, 3, 1, 0, [5051, 5052, 5053, 1003, 5054], m_Rules_rootNamed), 
  j0, j0, (.istore_n 2, 1, 2, 0, 0, 0, [], j0m), (.iload_n 2, 1, 2, 0, 0, 0, [], j0m), (.ifCond .lt 9, 3, 0, 32, 0, 0, [], j0m), j0, j0, (.iload_n 2, 1, 2, 0, 0, 0, [], j0m), (.bipush 20, 2, 0, 0, 0, 0, [], j0m), 
  j0, (.if_icmp .lt 4, 3, 0, 33, 0, 0, [], j0m), j0, j0, (.return_, 1, 0, 0, 0, 0, [], j0m), (.aload_n 0, 1, 0, 0, 0, 0, [], j0m), (.aload_n 1, 1, 1, 0, 0, 0, [], j0m), (.aload_n 0, 1, 0, 0, 0, 0, [], j0m), 
  (.getfield 12, 3, 0, 3, 0, 3, [2161], j0m), j0, j0, (.getfield 167, 3, 3, 0, 0, 0, [1192], j0m), j0, j0, (.aload_n 0, 1, 0, 0, 0, 0, [], j0m), (.getfield 12, 3, 0, 3, 0, 3, [2161], j0m), j0, j0, (.getfield 171, 3, 3, 1, 0, 1, [1198], j0m), 
  j0, j0, (.invokevirtual 178, 3, 0, 4, 1, 0, [5055, 5057, 32, 1013, 5058], m_Asker_mark), j0, j0, (.iconst 0, 1, 0, 0, 0, 0, [], j0m), (.istore_n 3, 1, 3, 0, 0, 0, [], j0m), (.iload_n 3, 1, 3, 0, 0, 0, [], j0m), 
  (.aload_n 0, 1, 0, 0, 0, 0, [], j0m), (.getfield 51, 3, 0, 1, 0, 1, [2159], j0m), j0, j0, (.getfield 230, 3, 7, 9, 0, 9, [1106], j0m), j0, j0, (.iload_n 2, 1, 2, 0, 0, 0, [], j0m), (.iaload, 1, 0, 0, 0, 0, [], j0m), 
  (.if_icmp .ge 52, 3, 0, 116, 0, 0, [], j0m), j0, j0, (.iload_n 3, 1, 3, 0, 0, 0, [], j0m), (.iconst 4, 1, 0, 0, 0, 0, [], j0m), (.if_icmp .ge 47, 3, 0, 116, 0, 0, [], j0m), j0, j0, (.iload_n 2, 1, 2, 0, 0, 0, [], j0m), 
  (.iconst 4, 1, 0, 0, 0, 0, [], j0m), (.imul, 1, 0, 0, 0, 0, [], j0m), (.iload_n 3, 1, 3, 0, 0, 0, [], j0m), (.iadd, 1, 0, 0, 0, 0, [], j0m), (.istore 4, 2, 4, 0, 0, 0, [], j0m), j0, (.aload_n 0, 1, 0, 0, 0, 0, [], j0m), 
  (.aload_n 1, 1, 1, 0, 0, 0, [], j0m), (.aload_n 0, 1, 0, 0, 0, 0, [], j0m), (.getfield 51, 3, 0, 1, 0, 1, [2159], j0m), j0, j0, (.getfield 233, 3, 7, 8, 0, 8, [1103], j0m), j0, j0, (.getfield 236, 3, 4, 0, 0, 0, [1054], j0m), 
  j0, j0, (.iload 4, 2, 4, 0, 0, 0, [], j0m), j0, (.laload, 1, 0, 0, 0, 0, [], j0m), (.aload_n 0, 1, 0, 0, 0, 0, [], j0m), (.getfield 51, 3, 0, 1, 0, 1, [2159], j0m), j0, j0, (.getfield 233, 3, 7, 8, 0, 8, [1103], j0m), 
  j0, j0, (.getfield 239, 3, 4, 1, 0, 1, [1060], j0m), j0, j0, (.iload 4, 2, 4, 0, 0, 0, [], j0m), j0, (.laload, 1, 0, 0, 0, 0, [], j0m), (.invokevirtual 178, 3, 0, 4, 1, 0, [5055, 5057, 32, 1013, 5058], m_Asker_mark), 
  j0, j0, (.iinc 3 1, 3, 3, 0, 0, 0, [], j0m), j0, j0, (.goto (-59), 3, 0, 54, 0, 0, [], j0m), j0, j0, (.return_, 1, 0, 0, 0, 0, [], j0m)]
set_option maxRecDepth 20000 in
theorem t_Asker_markRoot : okT m_Asker_markRoot k_Asker_markRoot = true := by decide +kernel
def k_Rules_rootNamed : List jO := [
  (.iconst 0, 1, 0, 0, 0, 0, [], j0m), (.istore 5, 2, 5, 0, 0, 0, [], j0m), j0, (.iload 5, 2, 5, 0, 0, 0, [], j0m), j0, (.aload_n 0, 1, 0, 0, 0, 0, [], j0m), (.getfield 40, 3, 7, 7, 0, 7, [1098], j0m), 
  j0, j0, (.if_icmp .ge 26, 3, 0, 35, 0, 0, [], j0m), j0, j0, (.aload_n 0, 1, 0, 0, 0, 0, [], j0m), (.getfield 37, 3, 7, 6, 0, 6, [1096], j0m), j0, j0, (.iload 5, 2, 5, 0, 0, 0, [], j0m), j0, (.lload_n 1, 1, 1, 0, 0, 0, [], j0m), 
  (.lload_n 3, 1, 3, 0, 0, 0, [], j0m), (.invokevirtual 80, 3, 4, 4, 1, 0, [4218, 4219, 4220, 1004, 4221], m_KeyRow_holds), j0, j0, (.ifCond .eq 6, 3, 0, 29, 0, 0, [], j0m), j0, j0, (.iload 5, 2, 5, 0, 0, 0, [], j0m), 
  j0, (.ireturn, 1, 0, 0, 0, 0, [], j0m), (.iinc 5 1, 3, 5, 0, 0, 0, [], j0m), j0, j0, (.goto (-29), 3, 0, 3, 0, 0, [], j0m), j0, j0, (.iconst (-1), 1, 0, 0, 0, 0, [], j0m), (.ireturn, 1, 0, 0, 0, 0, [], j0m)
  ]
set_option maxRecDepth 20000 in
theorem t_Rules_rootNamed : okT m_Rules_rootNamed k_Rules_rootNamed = true := by decide +kernel
def k_Asker_mark : List jO := [
  (.aload_n 0, 1, 0, 0, 0, 0, [], j0m), (.getfield 55, 3, 0, 2, 0, 2, [2160], j0m), j0, j0, (.getfield 209, 3, 1, 2, 0, 2, [2037], j0m), j0, j0, (.aload_n 0, 1, 0, 0, 0, 0, [], j0m), (.getfield 55, 3, 0, 2, 0, 2, [2160], j0m), 
  j0, j0, (.getfield 212, 3, 1, 1, 0, 1, [2034], j0m), j0, j0, (.lload_n 2, 1, 2, 0, 0, 0, [], j0m), (.lload 4, 2, 4, 0, 0, 0, [], j0m), j0, (.invokevirtual 215, 3, 4, 4, 1, 0, [5059, 4152, 4153, 1004, 4154], m_KeyRow_find), 
  j0, j0, (.istore 6, 2, 6, 0, 0, 0, [], j0m), j0, (.iconst 0, 1, 0, 0, 0, 0, [], j0m), (.istore 7, 2, 7, 0, 0, 0, [], j0m), j0, (.iload 7, 2, 7, 0, 0, 0, [], j0m), j0, (.aload_n 0, 1, 0, 0, 0, 0, [], j0m), 
  (.getfield 65, 3, 0, 4, 0, 4, [2162], j0m), j0, j0, (.iload 6, 2, 6, 0, 0, 0, [], j0m), j0, (.invokevirtual 219, 3, 10, 2, 1, 0, [5060, 4211, 4212, 1008, 4213], m_Words_oftenOf), j0, j0, (.if_icmp .ge 39, 3, 0, 75, 0, 0, [], j0m), 
  j0, j0, (.aload_n 0, 1, 0, 0, 0, 0, [], j0m), (.getfield 65, 3, 0, 4, 0, 4, [2162], j0m), j0, j0, (.iload 6, 2, 6, 0, 0, 0, [], j0m), j0, (.iload 7, 2, 7, 0, 0, 0, [], j0m), j0, (.invokevirtual 223, 3, 10, 3, 1, 0, [5061, 5062, 5063, 1008, 5064], m_Words_placeOf), 
  j0, j0, (.istore 8, 2, 8, 0, 0, 0, [], j0m), j0, (.iload 8, 2, 8, 0, 0, 0, [], j0m), j0, (.ifCond .lt 15, 3, 0, 69, 0, 0, [], j0m), j0, j0, (.iload 8, 2, 8, 0, 0, 0, [], j0m), j0, (.aload_n 1, 1, 1, 0, 0, 0, [], j0m), 
  (.arraylength, 1, 0, 0, 0, 0, [], j0m), (.if_icmp .ge 8, 3, 0, 69, 0, 0, [], j0m), j0, j0, (.aload_n 1, 1, 1, 0, 0, 0, [], j0m), (.iload 8, 2, 8, 0, 0, 0, [], j0m), j0, (.iconst 1, 1, 0, 0, 0, 0, [], j0m), 
  (.bastore, 1, 0, 0, 2, 0, [], j0m), (.iinc 7 1, 3, 7, 0, 0, 0, [], j0m), j0, j0, (.goto (-47), 3, 0, 25, 0, 0, [], j0m), j0, j0, (.return_, 1, 0, 0, 0, 0, [], j0m)]
set_option maxRecDepth 20000 in
theorem t_Asker_mark : okT m_Asker_mark k_Asker_mark = true := by decide +kernel
def k_Words_placeOf : List jO := [
  (.iload_n 1, 1, 1, 0, 0, 0, [], j0m), (.ifCond .lt 24, 3, 0, 25, 0, 0, [], j0m), j0, j0, (.iload_n 1, 1, 1, 0, 0, 0, [], j0m), (.sipush 600, 3, 0, 0, 0, 0, [], j0m), j0, j0, (.if_icmp .ge 17, 3, 0, 25, 0, 0, [], j0m), 
  j0, j0, (.iload_n 2, 1, 2, 0, 0, 0, [], j0m), (.ifCond .lt 13, 3, 0, 25, 0, 0, [], j0m), j0, j0, (.iload_n 2, 1, 2, 0, 0, 0, [], j0m), (.aload_n 0, 1, 0, 0, 0, 0, [], j0m), (.getfield 37, 3, 10, 6, 0, 6, [1231], j0m), 
  j0, j0, (.iload_n 1, 1, 1, 0, 0, 0, [], j0m), (.iaload, 1, 0, 0, 0, 0, [], j0m), (.if_icmp .lt 5, 3, 0, 27, 0, 0, [], j0m), j0, j0, (.iconst (-1), 1, 0, 0, 0, 0, [], j0m), (.ireturn, 1, 0, 0, 0, 0, [], j0m), 
  (.aload_n 0, 1, 0, 0, 0, 0, [], j0m), (.getfield 43, 3, 10, 8, 0, 8, [1234], j0m), j0, j0, (.iload_n 1, 1, 1, 0, 0, 0, [], j0m), (.iaload, 1, 0, 0, 0, 0, [], j0m), (.iload_n 2, 1, 2, 0, 0, 0, [], j0m), 
  (.iadd, 1, 0, 0, 0, 0, [], j0m), (.istore_n 3, 1, 3, 0, 0, 0, [], j0m), (.iload_n 3, 1, 3, 0, 0, 0, [], j0m), (.ifCond .lt 19, 3, 0, 56, 0, 0, [], j0m), j0, j0, (.iload_n 3, 1, 3, 0, 0, 0, [], j0m), 
  (.sipush 300, 3, 0, 0, 0, 0, [], j0m), j0, j0, (.if_icmp .ge 12, 3, 0, 56, 0, 0, [], j0m), j0, j0, (.aload_n 0, 1, 0, 0, 0, 0, [], j0m), (.getfield 40, 3, 10, 7, 0, 7, [1233], j0m), j0, j0, (.iload_n 3, 1, 3, 0, 0, 0, [], j0m), 
  (.iaload, 1, 0, 0, 0, 0, [], j0m), (.goto 4, 3, 0, 57, 0, 0, [], j0m), j0, j0, (.iconst (-1), 1, 0, 0, 0, 0, [], j0m), (.ireturn, 1, 0, 0, 0, 0, [], j0m)]
set_option maxRecDepth 20000 in
theorem t_Words_placeOf : okT m_Words_placeOf k_Words_placeOf = true := by decide +kernel
def k_Asker_isAway : List jO := [
  (.aload_n 0, 1, 0, 0, 0, 0, [], j0m), (.getfield 47, 3, 0, 0, 0, 0, [2158], j0m), j0, j0, (.getfield 79, 3, 9, 4, 0, 4, [2099], j0m), j0, j0, (.iconst 2, 1, 0, 0, 0, 0, [], j0m), (.if_icmp .eq 12, 3, 0, 20, 0, 0, [], j0m), 
  j0, j0, (.aload_n 0, 1, 0, 0, 0, 0, [], j0m), (.getfield 47, 3, 0, 0, 0, 0, [2158], j0m), j0, j0, (.iconst 1, 1, 0, 0, 0, 0, [], j0m), (.invokevirtual 82, 3, 9, 2, 1, 0, [5003, 3173, 3174, 1011, 3175], m_Tokens_fail), 
  j0, j0, (.ireturn, 1, 0, 0, 1, 0, [], j0m), (.aload_n 0, 1, 0, 0, 0, 0, [], j0m), (.getfield 47, 3, 0, 0, 0, 0, [2158], j0m), j0, j0, (.getfield 111, 3, 9, 5, 0, 5, [2101], j0m), j0, j0, (.iconst 1, 1, 0, 0, 0, 0, [], j0m), 
  (.if_icmp .lt 15, 3, 0, 43, 0, 0, [], j0m), j0, j0, (.aload_n 0, 1, 0, 0, 0, 0, [], j0m), (.getfield 47, 3, 0, 0, 0, 0, [2158], j0m), j0, j0, (.getfield 111, 3, 9, 5, 0, 5, [2101], j0m), j0, j0, (.bipush 50, 2, 0, 0, 0, 0, [], j0m), 
  j0, (.if_icmp .le 14, 3, 0, 54, 0, 0, [], j0m), j0, j0, (.aload_n 0, 1, 0, 0, 0, 0, [], j0m), (.getfield 47, 3, 0, 0, 0, 0, [2158], j0m), j0, j0, (.iconst 2, 1, 0, 0, 0, 0, [], j0m), (.invokevirtual 82, 3, 9, 2, 1, 0, [5003, 3173, 3174, 1011, 3175], m_Tokens_fail), 
  j0, j0, (.ifCond .eq 7, 3, 0, 58, 0, 0, [], j0m), j0, j0, (.iconst 1, 1, 0, 0, 0, 0, [], j0m), (.goto 4, 3, 0, 59, 0, 0, [], j0m), j0, j0, (.iconst 0, 1, 0, 0, 0, 0, [], j0m), (.ireturn, 1, 0, 0, 1, 0, [], j0m)
  ]
set_option maxRecDepth 20000 in
theorem t_Asker_isAway : okT m_Asker_isAway k_Asker_isAway = true := by decide +kernel
def k_Asker_work : List jO := [
  (.aload_n 0, 1, 0, 0, 0, 0, [], j0m), (.getfield 65, 3, 0, 4, 0, 4, [2162], j0m), j0, j0, (.getfield 198, 3, 10, 0, 0, 0, [1214], j0m), j0, j0, (.sipush 300, 3, 0, 0, 0, 0, [], j0m), j0, j0, (.invokestatic 182, 3, 0, 2, 1, 0, [5029, 3076, 1005, 3077], j0m), 
  j0, j0, (.istore 5, 2, 5, 0, 0, 0, [], j0m), j0, (.iload_n 1, 1, 1, 0, 0, 0, [], j0m), (.bipush 6, 2, 0, 0, 0, 0, [], j0m), j0, (.if_icmp .ne 48, 3, 0, 66, 0, 0, [], j0m), j0, j0, (.iconst 0, 1, 0, 0, 0, 0, [], j0m), 
  (.istore 6, 2, 6, 0, 0, 0, [], j0m), j0, (.iload 6, 2, 6, 0, 0, 0, [], j0m), j0, (.iload 5, 2, 5, 0, 0, 0, [], j0m), j0, (.if_icmp .ge 37, 3, 0, 65, 0, 0, [], j0m), j0, j0, (.iload 6, 2, 6, 0, 0, 0, [], j0m), 
  j0, (.aload_n 3, 1, 3, 0, 0, 0, [], j0m), (.arraylength, 1, 0, 0, 0, 0, [], j0m), (.if_icmp .ge 30, 3, 0, 65, 0, 0, [], j0m), j0, j0, (.iload 6, 2, 6, 0, 0, 0, [], j0m), j0, (.aload 4, 2, 4, 0, 0, 0, [], j0m), 
  j0, (.arraylength, 1, 0, 0, 0, 0, [], j0m), (.if_icmp .ge 22, 3, 0, 65, 0, 0, [], j0m), j0, j0, (.aload_n 3, 1, 3, 0, 0, 0, [], j0m), (.iload 6, 2, 6, 0, 0, 0, [], j0m), j0, (.dup2, 1, 0, 0, 0, 0, [], j0m), 
  (.baload, 1, 0, 0, 2, 0, [], j0m), (.aload 4, 2, 4, 0, 0, 0, [], j0m), j0, (.iload 6, 2, 6, 0, 0, 0, [], j0m), j0, (.baload, 1, 0, 0, 2, 0, [], j0m), (.ior, 1, 0, 0, 0, 0, [], j0m), (.i2b, 1, 0, 0, 0, 0, [], j0m), 
  (.bastore, 1, 0, 0, 2, 0, [], j0m), (.iinc 6 1, 3, 6, 0, 0, 0, [], j0m), j0, j0, (.goto (-38), 3, 0, 24, 0, 0, [], j0m), j0, j0, (.return_, 1, 0, 0, 0, 0, [], j0m), (.aload_n 0, 1, 0, 0, 0, 0, [], j0m), 
  (.getfield 27, 3, 0, 7, 0, 7, [2165], j0m), j0, j0, (.iconst 0, 1, 0, 0, 0, 0, [], j0m), (.invokestatic 158, 3, 0, 2, 0, 0, [5035, 3214, 1006, 3215], m_Arrays_fill2), j0, j0, (.iload_n 1, 1, 1, 0, 0, 0, [], j0m), 
  (.iconst 4, 1, 0, 0, 0, 0, [], j0m), (.if_icmp .eq 8, 3, 0, 84, 0, 0, [], j0m), j0, j0, (.iload_n 1, 1, 1, 0, 0, 0, [], j0m), (.iconst 5, 1, 0, 0, 0, 0, [], j0m), (.if_icmp .ne 14, 3, 0, 95, 0, 0, [], j0m), 
  j0, j0, (.aload_n 0, 1, 0, 0, 0, 0, [], j0m), (.aload 4, 2, 4, 0, 0, 0, [], j0m), j0, (.iload 5, 2, 5, 0, 0, 0, [], j0m), j0, (.invokevirtual 241, 3, 0, 3, 1, 0, [5074, 5076, 35, 1013, 5077], m_Asker_markSameLine), 
  j0, j0, (.goto 12, 3, 0, 104, 0, 0, [], j0m), j0, j0, (.aload_n 0, 1, 0, 0, 0, 0, [], j0m), (.aload 4, 2, 4, 0, 0, 0, [], j0m), j0, (.iload_n 2, 1, 2, 0, 0, 0, [], j0m), (.iload 5, 2, 5, 0, 0, 0, [], j0m), 
  j0, (.invokevirtual 244, 3, 0, 4, 1, 0, [5082, 5084, 36, 1013, 5085], m_Asker_markBehind), j0, j0, (.iload_n 1, 1, 1, 0, 0, 0, [], j0m), (.iconst 1, 1, 0, 0, 0, 0, [], j0m), (.if_icmp .eq 8, 3, 0, 114, 0, 0, [], j0m), 
  j0, j0, (.iload_n 1, 1, 1, 0, 0, 0, [], j0m), (.iconst 3, 1, 0, 0, 0, 0, [], j0m), (.if_icmp .ne 12, 3, 0, 123, 0, 0, [], j0m), j0, j0, (.aload_n 0, 1, 0, 0, 0, 0, [], j0m), (.aload 4, 2, 4, 0, 0, 0, [], j0m), 
  j0, (.iload_n 2, 1, 2, 0, 0, 0, [], j0m), (.iload 5, 2, 5, 0, 0, 0, [], j0m), j0, (.invokevirtual 248, 3, 0, 4, 1, 0, [5086, 5088, 37, 1013, 5089], m_Asker_markAhead), j0, j0, (.iload_n 1, 1, 1, 0, 0, 0, [], j0m), 
  (.iconst 3, 1, 0, 0, 0, 0, [], j0m), (.if_icmp .eq 8, 3, 0, 133, 0, 0, [], j0m), j0, j0, (.iload_n 1, 1, 1, 0, 0, 0, [], j0m), (.iconst 5, 1, 0, 0, 0, 0, [], j0m), (.if_icmp .ne 7, 3, 0, 137, 0, 0, [], j0m), 
  j0, j0, (.iconst 0, 1, 0, 0, 0, 0, [], j0m), (.goto 4, 3, 0, 138, 0, 0, [], j0m), j0, j0, (.iconst 1, 1, 0, 0, 0, 0, [], j0m), (.istore 6, 2, 6, 0, 0, 0, [], j0m), j0, (.iconst 0, 1, 0, 0, 0, 0, [], j0m), 
  (.istore 7, 2, 7, 0, 0, 0, [], j0m), j0, (.iload 7, 2, 7, 0, 0, 0, [], j0m), j0, (.iload 5, 2, 5, 0, 0, 0, [], j0m), j0, (.if_icmp .ge 41, 3, 0, 188, 0, 0, [], j0m), j0, j0, (.iload 7, 2, 7, 0, 0, 0, [], j0m), 
  j0, (.sipush 300, 3, 0, 0, 0, 0, [], j0m), j0, j0, (.if_icmp .ge 33, 3, 0, 188, 0, 0, [], j0m), j0, j0, (.iload 7, 2, 7, 0, 0, 0, [], j0m), j0, (.aload_n 3, 1, 3, 0, 0, 0, [], j0m), (.arraylength, 1, 0, 0, 0, 0, [], j0m), 
  (.if_icmp .ge 26, 3, 0, 188, 0, 0, [], j0m), j0, j0, (.aload_n 0, 1, 0, 0, 0, 0, [], j0m), (.getfield 27, 3, 0, 7, 0, 7, [2165], j0m), j0, j0, (.iload 7, 2, 7, 0, 0, 0, [], j0m), j0, (.baload, 1, 0, 0, 2, 0, [], j0m), 
  (.iload 6, 2, 6, 0, 0, 0, [], j0m), j0, (.if_icmp .eq 8, 3, 0, 182, 0, 0, [], j0m), j0, j0, (.aload_n 3, 1, 3, 0, 0, 0, [], j0m), (.iload 7, 2, 7, 0, 0, 0, [], j0m), j0, (.iconst 0, 1, 0, 0, 0, 0, [], j0m), 
  (.bastore, 1, 0, 0, 2, 0, [], j0m), (.iinc 7 1, 3, 7, 0, 0, 0, [], j0m), j0, j0, (.goto (-42), 3, 0, 143, 0, 0, [], j0m), j0, j0, (.return_, 1, 0, 0, 0, 0, [], j0m)]
set_option maxRecDepth 20000 in
theorem t_Asker_work : okT m_Asker_work k_Asker_work = true := by decide +kernel
def k_Asker_markSameLine : List jO := [
  (.aload_n 0, 1, 0, 0, 0, 0, [], j0m), (.getfield 31, 3, 0, 8, 0, 8, [2166], j0m), j0, j0, (.iconst 0, 1, 0, 0, 0, 0, [], j0m), (.invokestatic 158, 3, 0, 2, 0, 0, [5035, 3214, 1006, 3215], m_Arrays_fill2), 
  j0, j0, (.iconst 0, 1, 0, 0, 0, 0, [], j0m), (.istore_n 3, 1, 3, 0, 0, 0, [], j0m), (.iload_n 3, 1, 3, 0, 0, 0, [], j0m), (.iload_n 2, 1, 2, 0, 0, 0, [], j0m), (.if_icmp .ge 52, 3, 0, 64, 0, 0, [], j0m), 
  j0, j0, (.iload_n 3, 1, 3, 0, 0, 0, [], j0m), (.aload_n 1, 1, 1, 0, 0, 0, [], j0m), (.arraylength, 1, 0, 0, 0, 0, [], j0m), (.if_icmp .ge 46, 3, 0, 64, 0, 0, [], j0m), j0, j0, (.aload_n 0, 1, 0, 0, 0, 0, [], j0m), 
  (.getfield 65, 3, 0, 4, 0, 4, [2162], j0m), j0, j0, (.iload_n 3, 1, 3, 0, 0, 0, [], j0m), (.invokevirtual 251, 3, 10, 2, 1, 0, [5078, 5079, 5080, 1008, 5081], m_Words_lineOfPlace), j0, j0, (.istore 4, 2, 4, 0, 0, 0, [], j0m), 
  j0, (.iload 4, 2, 4, 0, 0, 0, [], j0m), j0, (.ifCond .lt 25, 3, 0, 58, 0, 0, [], j0m), j0, j0, (.iload 4, 2, 4, 0, 0, 0, [], j0m), j0, (.bipush 40, 2, 0, 0, 0, 0, [], j0m), j0, (.if_icmp .ge 18, 3, 0, 58, 0, 0, [], j0m), 
  j0, j0, (.aload_n 1, 1, 1, 0, 0, 0, [], j0m), (.iload_n 3, 1, 3, 0, 0, 0, [], j0m), (.baload, 1, 0, 0, 2, 0, [], j0m), (.iconst 1, 1, 0, 0, 0, 0, [], j0m), (.if_icmp .ne 11, 3, 0, 58, 0, 0, [], j0m), 
  j0, j0, (.aload_n 0, 1, 0, 0, 0, 0, [], j0m), (.getfield 31, 3, 0, 8, 0, 8, [2166], j0m), j0, j0, (.iload 4, 2, 4, 0, 0, 0, [], j0m), j0, (.iconst 1, 1, 0, 0, 0, 0, [], j0m), (.bastore, 1, 0, 0, 2, 0, [], j0m), 
  (.iinc 3 1, 3, 3, 0, 0, 0, [], j0m), j0, j0, (.goto (-51), 3, 0, 10, 0, 0, [], j0m), j0, j0, (.iconst 0, 1, 0, 0, 0, 0, [], j0m), (.istore_n 3, 1, 3, 0, 0, 0, [], j0m), (.iload_n 3, 1, 3, 0, 0, 0, [], j0m), 
  (.iload_n 2, 1, 2, 0, 0, 0, [], j0m), (.if_icmp .ge 51, 3, 0, 119, 0, 0, [], j0m), j0, j0, (.iload_n 3, 1, 3, 0, 0, 0, [], j0m), (.sipush 300, 3, 0, 0, 0, 0, [], j0m), j0, j0, (.if_icmp .ge 44, 3, 0, 119, 0, 0, [], j0m), 
  j0, j0, (.aload_n 0, 1, 0, 0, 0, 0, [], j0m), (.getfield 65, 3, 0, 4, 0, 4, [2162], j0m), j0, j0, (.iload_n 3, 1, 3, 0, 0, 0, [], j0m), (.invokevirtual 251, 3, 10, 2, 1, 0, [5078, 5079, 5080, 1008, 5081], m_Words_lineOfPlace), 
  j0, j0, (.istore 4, 2, 4, 0, 0, 0, [], j0m), j0, (.iload 4, 2, 4, 0, 0, 0, [], j0m), j0, (.ifCond .lt 23, 3, 0, 113, 0, 0, [], j0m), j0, j0, (.iload 4, 2, 4, 0, 0, 0, [], j0m), j0, (.bipush 40, 2, 0, 0, 0, 0, [], j0m), 
  j0, (.if_icmp .ge 16, 3, 0, 113, 0, 0, [], j0m), j0, j0, (.aload_n 0, 1, 0, 0, 0, 0, [], j0m), (.getfield 27, 3, 0, 7, 0, 7, [2165], j0m), j0, j0, (.iload_n 3, 1, 3, 0, 0, 0, [], j0m), (.aload_n 0, 1, 0, 0, 0, 0, [], j0m), 
  (.getfield 31, 3, 0, 8, 0, 8, [2166], j0m), j0, j0, (.iload 4, 2, 4, 0, 0, 0, [], j0m), j0, (.baload, 1, 0, 0, 2, 0, [], j0m), (.bastore, 1, 0, 0, 2, 0, [], j0m), (.iinc 3 1, 3, 3, 0, 0, 0, [], j0m), 
  j0, j0, (.goto (-50), 3, 0, 66, 0, 0, [], j0m), j0, j0, (.return_, 1, 0, 0, 0, 0, [], j0m)]
set_option maxRecDepth 20000 in
theorem t_Asker_markSameLine : okT m_Asker_markSameLine k_Asker_markSameLine = true := by decide +kernel
def k_Words_lineOfPlace : List jO := [
  (.iload_n 1, 1, 1, 0, 0, 0, [], j0m), (.ifCond .lt 19, 3, 0, 20, 0, 0, [], j0m), j0, j0, (.iload_n 1, 1, 1, 0, 0, 0, [], j0m), (.sipush 300, 3, 0, 0, 0, 0, [], j0m), j0, j0, (.if_icmp .ge 12, 3, 0, 20, 0, 0, [], j0m), 
  j0, j0, (.aload_n 0, 1, 0, 0, 0, 0, [], j0m), (.getfield 24, 3, 10, 2, 0, 2, [1220], j0m), j0, j0, (.iload_n 1, 1, 1, 0, 0, 0, [], j0m), (.iaload, 1, 0, 0, 0, 0, [], j0m), (.goto 4, 3, 0, 21, 0, 0, [], j0m), 
  j0, j0, (.iconst (-1), 1, 0, 0, 0, 0, [], j0m), (.ireturn, 1, 0, 0, 0, 0, [], j0m)]
set_option maxRecDepth 20000 in
theorem t_Words_lineOfPlace : okT m_Words_lineOfPlace k_Words_lineOfPlace = true := by decide +kernel
def k_Asker_markBehind : List jO := [
  (.iconst (-1), 1, 0, 0, 0, 0, [], j0m), (.istore 4, 2, 4, 0, 0, 0, [], j0m), j0, (.iload_n 3, 1, 3, 0, 0, 0, [], j0m), (.sipush 300, 3, 0, 0, 0, 0, [], j0m), j0, j0, (.aload_n 1, 1, 1, 0, 0, 0, [], j0m), 
  (.arraylength, 1, 0, 0, 0, 0, [], j0m), (.invokestatic 182, 3, 0, 2, 1, 0, [5029, 3076, 1005, 3077], j0m), j0, j0, (.invokestatic 182, 3, 0, 2, 1, 0, [5029, 3076, 1005, 3077], j0m), j0, j0, (.iconst 1, 1, 0, 0, 0, 0, [], j0m), 
  (.isub, 1, 0, 0, 0, 0, [], j0m), (.istore 5, 2, 5, 0, 0, 0, [], j0m), j0, (.iload 5, 2, 5, 0, 0, 0, [], j0m), j0, (.ifCond .lt 49, 3, 0, 70, 0, 0, [], j0m), j0, j0, (.iload 4, 2, 4, 0, 0, 0, [], j0m), 
  j0, (.iconst (-1), 1, 0, 0, 0, 0, [], j0m), (.if_icmp .eq 20, 3, 0, 47, 0, 0, [], j0m), j0, j0, (.iload 4, 2, 4, 0, 0, 0, [], j0m), j0, (.iload 5, 2, 5, 0, 0, 0, [], j0m), j0, (.isub, 1, 0, 0, 0, 0, [], j0m), 
  (.iload_n 2, 1, 2, 0, 0, 0, [], j0m), (.if_icmp .gt 11, 3, 0, 47, 0, 0, [], j0m), j0, j0, (.aload_n 0, 1, 0, 0, 0, 0, [], j0m), (.getfield 27, 3, 0, 7, 0, 7, [2165], j0m), j0, j0, (.iload 5, 2, 5, 0, 0, 0, [], j0m), 
  j0, (.iconst 1, 1, 0, 0, 0, 0, [], j0m), (.bastore, 1, 0, 0, 2, 0, [], j0m), (.aload_n 1, 1, 1, 0, 0, 0, [], j0m), (.iload 5, 2, 5, 0, 0, 0, [], j0m), j0, (.baload, 1, 0, 0, 2, 0, [], j0m), (.iconst 1, 1, 0, 0, 0, 0, [], j0m), 
  (.if_icmp .ne 8, 3, 0, 60, 0, 0, [], j0m), j0, j0, (.iload 5, 2, 5, 0, 0, 0, [], j0m), j0, (.goto 5, 3, 0, 62, 0, 0, [], j0m), j0, j0, (.iload 4, 2, 4, 0, 0, 0, [], j0m), j0, (.istore 4, 2, 4, 0, 0, 0, [], j0m), 
  j0, (.iinc 5 (-1), 3, 5, 0, 0, 0, [], j0m), j0, j0, (.goto (-48), 3, 0, 19, 0, 0, [], j0m), j0, j0, (.return_, 1, 0, 0, 0, 0, [], j0m)]
set_option maxRecDepth 20000 in
theorem t_Asker_markBehind : okT m_Asker_markBehind k_Asker_markBehind = true := by decide +kernel
def k_Asker_markAhead : List jO := [
  (.iconst (-1), 1, 0, 0, 0, 0, [], j0m), (.istore 4, 2, 4, 0, 0, 0, [], j0m), j0, (.iconst 0, 1, 0, 0, 0, 0, [], j0m), (.istore 5, 2, 5, 0, 0, 0, [], j0m), j0, (.iload 5, 2, 5, 0, 0, 0, [], j0m), j0, 
  (.iload_n 3, 1, 3, 0, 0, 0, [], j0m), (.if_icmp .ge 64, 3, 0, 73, 0, 0, [], j0m), j0, j0, (.iload 5, 2, 5, 0, 0, 0, [], j0m), j0, (.sipush 300, 3, 0, 0, 0, 0, [], j0m), j0, j0, (.if_icmp .ge 56, 3, 0, 73, 0, 0, [], j0m), 
  j0, j0, (.iload 5, 2, 5, 0, 0, 0, [], j0m), j0, (.aload_n 1, 1, 1, 0, 0, 0, [], j0m), (.arraylength, 1, 0, 0, 0, 0, [], j0m), (.if_icmp .ge 49, 3, 0, 73, 0, 0, [], j0m), j0, j0, (.iload 4, 2, 4, 0, 0, 0, [], j0m), 
  j0, (.iconst (-1), 1, 0, 0, 0, 0, [], j0m), (.if_icmp .eq 20, 3, 0, 50, 0, 0, [], j0m), j0, j0, (.iload 5, 2, 5, 0, 0, 0, [], j0m), j0, (.iload 4, 2, 4, 0, 0, 0, [], j0m), j0, (.isub, 1, 0, 0, 0, 0, [], j0m), 
  (.iload_n 2, 1, 2, 0, 0, 0, [], j0m), (.if_icmp .gt 11, 3, 0, 50, 0, 0, [], j0m), j0, j0, (.aload_n 0, 1, 0, 0, 0, 0, [], j0m), (.getfield 27, 3, 0, 7, 0, 7, [2165], j0m), j0, j0, (.iload 5, 2, 5, 0, 0, 0, [], j0m), 
  j0, (.iconst 1, 1, 0, 0, 0, 0, [], j0m), (.bastore, 1, 0, 0, 2, 0, [], j0m), (.aload_n 1, 1, 1, 0, 0, 0, [], j0m), (.iload 5, 2, 5, 0, 0, 0, [], j0m), j0, (.baload, 1, 0, 0, 2, 0, [], j0m), (.iconst 1, 1, 0, 0, 0, 0, [], j0m), 
  (.if_icmp .ne 8, 3, 0, 63, 0, 0, [], j0m), j0, j0, (.iload 5, 2, 5, 0, 0, 0, [], j0m), j0, (.goto 5, 3, 0, 65, 0, 0, [], j0m), j0, j0, (.iload 4, 2, 4, 0, 0, 0, [], j0m), j0, (.istore 4, 2, 4, 0, 0, 0, [], j0m), 
  j0, (.iinc 5 1, 3, 5, 0, 0, 0, [], j0m), j0, j0, (.goto (-64), 3, 0, 6, 0, 0, [], j0m), j0, j0, (.return_, 1, 0, 0, 0, 0, [], j0m)]
set_option maxRecDepth 20000 in
theorem t_Asker_markAhead : okT m_Asker_markAhead k_Asker_markAhead = true := by decide +kernel
def k_Asker_putDown : List jO := [
  (.aload_n 0, 1, 0, 0, 0, 0, [], j0m), (.iconst 0, 1, 0, 0, 0, 0, [], j0m), (.putfield 34, 3, 0, 9, 0, 9, [2167], j0m), j0, j0, (.iconst 0, 1, 0, 0, 0, 0, [], j0m), (.istore_n 2, 1, 2, 0, 0, 0, [], j0m), 
  (.aload_n 0, 1, 0, 0, 0, 0, [], j0m), (.getfield 65, 3, 0, 4, 0, 4, [2162], j0m), j0, j0, (.iload_n 2, 1, 2, 0, 0, 0, [], j0m), (.invokevirtual 89, 3, 10, 2, 1, 0, [5094, 4184, 4185, 1008, 4186], m_Words_has), 
  j0, j0, (.ifCond .eq 88, 3, 0, 103, 0, 0, [], j0m), j0, j0, (.iload_n 2, 1, 2, 0, 0, 0, [], j0m), (.aload_n 1, 1, 1, 0, 0, 0, [], j0m), (.arraylength, 1, 0, 0, 0, 0, [], j0m), (.if_icmp .ge 82, 3, 0, 103, 0, 0, [], j0m), 
  j0, j0, (.aload_n 0, 1, 0, 0, 0, 0, [], j0m), (.getfield 34, 3, 0, 9, 0, 9, [2167], j0m), j0, j0, (.sipush 300, 3, 0, 0, 0, 0, [], j0m), j0, j0, (.if_icmp .ge 72, 3, 0, 103, 0, 0, [], j0m), j0, j0, (.aload_n 1, 1, 1, 0, 0, 0, [], j0m), 
  (.iload_n 2, 1, 2, 0, 0, 0, [], j0m), (.baload, 1, 0, 0, 2, 0, [], j0m), (.iconst 1, 1, 0, 0, 0, 0, [], j0m), (.if_icmp .ne 59, 3, 0, 97, 0, 0, [], j0m), j0, j0, (.aload_n 0, 1, 0, 0, 0, 0, [], j0m), 
  (.getfield 37, 3, 0, 10, 0, 10, [2169], j0m), j0, j0, (.aload_n 0, 1, 0, 0, 0, 0, [], j0m), (.getfield 34, 3, 0, 9, 0, 9, [2167], j0m), j0, j0, (.iload_n 2, 1, 2, 0, 0, 0, [], j0m), (.iastore, 1, 0, 0, 0, 0, [], j0m), 
  (.aload_n 0, 1, 0, 0, 0, 0, [], j0m), (.getfield 41, 3, 0, 11, 0, 11, [2171], j0m), j0, j0, (.aload_n 0, 1, 0, 0, 0, 0, [], j0m), (.getfield 34, 3, 0, 9, 0, 9, [2167], j0m), j0, j0, (.aload_n 0, 1, 0, 0, 0, 0, [], j0m), 
  (.getfield 65, 3, 0, 4, 0, 4, [2162], j0m), j0, j0, (.getfield 94, 3, 10, 2, 0, 2, [1221], j0m), j0, j0, (.iload_n 2, 1, 2, 0, 0, 0, [], j0m), (.iaload, 1, 0, 0, 0, 0, [], j0m), (.iastore, 1, 0, 0, 0, 0, [], j0m), 
  (.aload_n 0, 1, 0, 0, 0, 0, [], j0m), (.getfield 44, 3, 0, 12, 0, 12, [2173], j0m), j0, j0, (.aload_n 0, 1, 0, 0, 0, 0, [], j0m), (.getfield 34, 3, 0, 9, 0, 9, [2167], j0m), j0, j0, (.aload_n 0, 1, 0, 0, 0, 0, [], j0m), 
  (.getfield 65, 3, 0, 4, 0, 4, [2162], j0m), j0, j0, (.getfield 95, 3, 10, 3, 0, 3, [1224], j0m), j0, j0, (.iload_n 2, 1, 2, 0, 0, 0, [], j0m), (.iaload, 1, 0, 0, 0, 0, [], j0m), (.iastore, 1, 0, 0, 0, 0, [], j0m), 
  (.aload_n 0, 1, 0, 0, 0, 0, [], j0m), (.dup, 1, 0, 0, 0, 0, [], j0m), (.getfield 34, 3, 0, 9, 0, 9, [2167], j0m), j0, j0, (.iconst 1, 1, 0, 0, 0, 0, [], j0m), (.iadd, 1, 0, 0, 0, 0, [], j0m), (.putfield 34, 3, 0, 9, 0, 9, [2167], j0m), 
  j0, j0, (.iinc 2 1, 3, 2, 0, 0, 0, [], j0m), j0, j0, (.goto (-93), 3, 0, 7, 0, 0, [], j0m), j0, j0, (.return_, 1, 0, 0, 0, 0, [], j0m)]
set_option maxRecDepth 20000 in
theorem t_Asker_putDown : okT m_Asker_putDown k_Asker_putDown = true := by decide +kernel
def k_Words_leastBits : List jO := [
  (.aload_n 0, 1, 0, 0, 0, 0, [], j0m), (.iload_n 1, 1, 1, 0, 0, 0, [], j0m), (.iconst 0, 1, 0, 0, 0, 0, [], j0m), (.invokevirtual 157, 3, 10, 3, 1, 0, [5116, 5117, 5118, 1008, 5119], m_Words_bits), j0, 
  j0, (.istore_n 2, 1, 2, 0, 0, 0, [], j0m), (.iconst 1, 1, 0, 0, 0, 0, [], j0m), (.istore_n 3, 1, 3, 0, 0, 0, [], j0m), (.iload_n 3, 1, 3, 0, 0, 0, [], j0m), (.bipush 10, 2, 0, 0, 0, 0, [], j0m), j0, 
  (.if_icmp .gt 20, 3, 0, 32, 0, 0, [], j0m), j0, j0, (.iload_n 2, 1, 2, 0, 0, 0, [], j0m), (.aload_n 0, 1, 0, 0, 0, 0, [], j0m), (.iload_n 1, 1, 1, 0, 0, 0, [], j0m), (.iload_n 3, 1, 3, 0, 0, 0, [], j0m), 
  (.invokevirtual 157, 3, 10, 3, 1, 0, [5116, 5117, 5118, 1008, 5119], m_Words_bits), j0, j0, (.invokestatic 145, 3, 0, 2, 1, 0, [4171, 3076, 1005, 3077], j0m), j0, j0, (.istore_n 2, 1, 2, 0, 0, 0, [], j0m), 
  (.iinc 3 1, 3, 3, 0, 0, 0, [], j0m), j0, j0, (.goto (-20), 3, 0, 9, 0, 0, [], j0m), j0, j0, (.iload_n 2, 1, 2, 0, 0, 0, [], j0m), (.ireturn, 1, 0, 0, 0, 0, [], j0m)]
set_option maxRecDepth 20000 in
theorem t_Words_leastBits : okT m_Words_leastBits k_Words_leastBits = true := by decide +kernel
def k_Words_bits : List jO := [
  (.iconst 0, 1, 0, 0, 0, 0, [], j0m), (.istore_n 3, 1, 3, 0, 0, 0, [], j0m), (.iconst (-1), 1, 0, 0, 0, 0, [], j0m), (.istore 4, 2, 4, 0, 0, 0, [], j0m), j0, (.iconst 0, 1, 0, 0, 0, 0, [], j0m), (.istore 5, 2, 5, 0, 0, 0, [], j0m), 
  j0, (.iload 5, 2, 5, 0, 0, 0, [], j0m), j0, (.aload_n 0, 1, 0, 0, 0, 0, [], j0m), (.iload_n 1, 1, 1, 0, 0, 0, [], j0m), (.invokevirtual 151, 3, 10, 2, 1, 0, [5120, 4211, 4212, 1008, 4213], m_Words_oftenOf), 
  j0, j0, (.if_icmp .ge 38, 3, 0, 53, 0, 0, [], j0m), j0, j0, (.aload_n 0, 1, 0, 0, 0, 0, [], j0m), (.iload_n 1, 1, 1, 0, 0, 0, [], j0m), (.iload 5, 2, 5, 0, 0, 0, [], j0m), j0, (.invokevirtual 154, 3, 10, 3, 1, 0, [5121, 5062, 5063, 1008, 5064], m_Words_placeOf), 
  j0, j0, (.istore 6, 2, 6, 0, 0, 0, [], j0m), j0, (.iload_n 3, 1, 3, 0, 0, 0, [], j0m), (.iload 6, 2, 6, 0, 0, 0, [], j0m), j0, (.iload 4, 2, 4, 0, 0, 0, [], j0m), j0, (.isub, 1, 0, 0, 0, 0, [], j0m), 
  (.iconst 1, 1, 0, 0, 0, 0, [], j0m), (.isub, 1, 0, 0, 0, 0, [], j0m), (.iload_n 2, 1, 2, 0, 0, 0, [], j0m), (.ishr, 1, 0, 0, 0, 0, [], j0m), (.iconst 1, 1, 0, 0, 0, 0, [], j0m), (.iadd, 1, 0, 0, 0, 0, [], j0m), 
  (.iload_n 2, 1, 2, 0, 0, 0, [], j0m), (.iadd, 1, 0, 0, 0, 0, [], j0m), (.iadd, 1, 0, 0, 0, 0, [], j0m), (.istore_n 3, 1, 3, 0, 0, 0, [], j0m), (.iload 6, 2, 6, 0, 0, 0, [], j0m), j0, (.istore 4, 2, 4, 0, 0, 0, [], j0m), 
  j0, (.iinc 5 1, 3, 5, 0, 0, 0, [], j0m), j0, j0, (.goto (-42), 3, 0, 8, 0, 0, [], j0m), j0, j0, (.iload_n 3, 1, 3, 0, 0, 0, [], j0m), (.ireturn, 1, 0, 0, 0, 0, [], j0m)]
set_option maxRecDepth 20000 in
theorem t_Words_bits : okT m_Words_bits k_Words_bits = true := by decide +kernel
def k_Words_divide : List jO := [
  (.iload_n 2, 1, 2, 0, 0, 0, [], j0m), (.bipush 40, 2, 0, 0, 0, 0, [], j0m), j0, (.invokestatic 145, 3, 0, 2, 1, 0, [4171, 3076, 1005, 3077], j0m), j0, j0, (.istore 4, 2, 4, 0, 0, 0, [], j0m), j0, (.iconst 0, 1, 0, 0, 0, 0, [], j0m), 
  (.istore 5, 2, 5, 0, 0, 0, [], j0m), j0, (.iload 5, 2, 5, 0, 0, 0, [], j0m), j0, (.sipush 300, 3, 0, 0, 0, 0, [], j0m), j0, j0, (.if_icmp .ge 22, 3, 0, 38, 0, 0, [], j0m), j0, j0, (.aload_n 0, 1, 0, 0, 0, 0, [], j0m), 
  (.iconst 0, 1, 0, 0, 0, 0, [], j0m), (.iload 4, 2, 4, 0, 0, 0, [], j0m), j0, (.iload 5, 2, 5, 0, 0, 0, [], j0m), j0, (.invokevirtual 160, 3, 10, 4, 1, 0, [5135, 5137, 40, 1008, 5138], m_Words_handsNeeded), 
  j0, j0, (.iload_n 1, 1, 1, 0, 0, 0, [], j0m), (.if_icmp .le 9, 3, 0, 38, 0, 0, [], j0m), j0, j0, (.iinc 5 1, 3, 5, 0, 0, 0, [], j0m), j0, j0, (.goto (-24), 3, 0, 11, 0, 0, [], j0m), j0, j0, (.iconst 0, 1, 0, 0, 0, 0, [], j0m), 
  (.istore 6, 2, 6, 0, 0, 0, [], j0m), j0, (.iconst 0, 1, 0, 0, 0, 0, [], j0m), (.istore 7, 2, 7, 0, 0, 0, [], j0m), j0, (.iload 7, 2, 7, 0, 0, 0, [], j0m), j0, (.iload_n 1, 1, 1, 0, 0, 0, [], j0m), (.if_icmp .ge 54, 3, 0, 101, 0, 0, [], j0m), 
  j0, j0, (.iload 7, 2, 7, 0, 0, 0, [], j0m), j0, (.aload_n 3, 1, 3, 0, 0, 0, [], j0m), (.arraylength, 1, 0, 0, 0, 0, [], j0m), (.if_icmp .ge 47, 3, 0, 101, 0, 0, [], j0m), j0, j0, (.aload_n 3, 1, 3, 0, 0, 0, [], j0m), 
  (.iload 7, 2, 7, 0, 0, 0, [], j0m), j0, (.iload 6, 2, 6, 0, 0, 0, [], j0m), j0, (.iastore, 1, 0, 0, 0, 0, [], j0m), (.iload 6, 2, 6, 0, 0, 0, [], j0m), j0, (.iload 4, 2, 4, 0, 0, 0, [], j0m), j0, (.if_icmp .ge 28, 3, 0, 95, 0, 0, [], j0m), 
  j0, j0, (.aload_n 0, 1, 0, 0, 0, 0, [], j0m), (.iload 6, 2, 6, 0, 0, 0, [], j0m), j0, (.iload 4, 2, 4, 0, 0, 0, [], j0m), j0, (.iload 5, 2, 5, 0, 0, 0, [], j0m), j0, (.invokevirtual 160, 3, 10, 4, 1, 0, [5135, 5137, 40, 1008, 5138], m_Words_handsNeeded), 
  j0, j0, (.iload_n 1, 1, 1, 0, 0, 0, [], j0m), (.iload 7, 2, 7, 0, 0, 0, [], j0m), j0, (.isub, 1, 0, 0, 0, 0, [], j0m), (.iconst 1, 1, 0, 0, 0, 0, [], j0m), (.isub, 1, 0, 0, 0, 0, [], j0m), (.if_icmp .le 9, 3, 0, 95, 0, 0, [], j0m), 
  j0, j0, (.iinc 6 1, 3, 6, 0, 0, 0, [], j0m), j0, j0, (.goto (-29), 3, 0, 63, 0, 0, [], j0m), j0, j0, (.iinc 7 1, 3, 7, 0, 0, 0, [], j0m), j0, j0, (.goto (-54), 3, 0, 44, 0, 0, [], j0m), j0, j0, (.iload 5, 2, 5, 0, 0, 0, [], j0m), 
  j0, (.ireturn, 1, 0, 0, 0, 0, [], j0m)]
set_option maxRecDepth 20000 in
theorem t_Words_divide : okT m_Words_divide k_Words_divide = true := by decide +kernel
def k_Words_handsNeeded : List jO := [
  (.iload_n 1, 1, 1, 0, 0, 0, [], j0m), (.iload_n 2, 1, 2, 0, 0, 0, [], j0m), (.if_icmp .ge 7, 3, 0, 9, 0, 0, [], j0m), j0, j0, (.iconst 1, 1, 0, 0, 0, 0, [], j0m), (.goto 4, 3, 0, 10, 0, 0, [], j0m), 
  j0, j0, (.iconst 0, 1, 0, 0, 0, 0, [], j0m), (.istore 4, 2, 4, 0, 0, 0, [], j0m), j0, (.iconst 0, 1, 0, 0, 0, 0, [], j0m), (.istore 5, 2, 5, 0, 0, 0, [], j0m), j0, (.iconst 0, 1, 0, 0, 0, 0, [], j0m), 
  (.iload_n 1, 1, 1, 0, 0, 0, [], j0m), (.invokestatic 164, 3, 0, 2, 2, 0, [5139, 1049, 1005, 1050], j0m), j0, j0, (.istore 6, 2, 6, 0, 0, 0, [], j0m), j0, (.iload 6, 2, 6, 0, 0, 0, [], j0m), j0, (.iload_n 2, 1, 2, 0, 0, 0, [], j0m), 
  (.if_icmp .ge 60, 3, 0, 85, 0, 0, [], j0m), j0, j0, (.iload 6, 2, 6, 0, 0, 0, [], j0m), j0, (.bipush 40, 2, 0, 0, 0, 0, [], j0m), j0, (.if_icmp .ge 53, 3, 0, 85, 0, 0, [], j0m), j0, j0, (.aload_n 0, 1, 0, 0, 0, 0, [], j0m), 
  (.getfield 49, 3, 10, 10, 0, 10, [1237], j0m), j0, j0, (.iload 6, 2, 6, 0, 0, 0, [], j0m), j0, (.iaload, 1, 0, 0, 0, 0, [], j0m), (.iload_n 3, 1, 3, 0, 0, 0, [], j0m), (.if_icmp .le 6, 3, 0, 49, 0, 0, [], j0m), 
  j0, j0, (.bipush 41, 2, 0, 0, 0, 0, [], j0m), j0, (.ireturn, 1, 0, 0, 0, 0, [], j0m), (.iload 5, 2, 5, 0, 0, 0, [], j0m), j0, (.aload_n 0, 1, 0, 0, 0, 0, [], j0m), (.getfield 49, 3, 10, 10, 0, 10, [1237], j0m), 
  j0, j0, (.iload 6, 2, 6, 0, 0, 0, [], j0m), j0, (.iaload, 1, 0, 0, 0, 0, [], j0m), (.iadd, 1, 0, 0, 0, 0, [], j0m), (.istore 5, 2, 5, 0, 0, 0, [], j0m), j0, (.iload 5, 2, 5, 0, 0, 0, [], j0m), j0, (.iload_n 3, 1, 3, 0, 0, 0, [], j0m), 
  (.if_icmp .le 15, 3, 0, 79, 0, 0, [], j0m), j0, j0, (.iinc 4 1, 3, 4, 0, 0, 0, [], j0m), j0, j0, (.aload_n 0, 1, 0, 0, 0, 0, [], j0m), (.getfield 49, 3, 10, 10, 0, 10, [1237], j0m), j0, j0, (.iload 6, 2, 6, 0, 0, 0, [], j0m), 
  j0, (.iaload, 1, 0, 0, 0, 0, [], j0m), (.istore 5, 2, 5, 0, 0, 0, [], j0m), j0, (.iinc 6 1, 3, 6, 0, 0, 0, [], j0m), j0, j0, (.goto (-60), 3, 0, 22, 0, 0, [], j0m), j0, j0, (.iload 4, 2, 4, 0, 0, 0, [], j0m), 
  j0, (.ireturn, 1, 0, 0, 0, 0, [], j0m)]
set_option maxRecDepth 20000 in
theorem t_Words_handsNeeded : okT m_Words_handsNeeded k_Words_handsNeeded = true := by decide +kernel
def k_Likeness_refresh : List jO := [
  (.aload_n 0, 1, 0, 0, 0, 0, [], j0m), (.getfield 9, 3, 5, 0, 0, 0, [2065], j0m), j0, j0, (.ifCond .eq 4, 3, 0, 8, 0, 0, [], j0m), j0, j0, (.return_, 1, 0, 0, 0, 0, [], j0m), (.aload_n 0, 1, 0, 0, 0, 0, [], j0m), 
  (.getfield 23, 3, 5, 3, 0, 3, [2071], j0m), j0, j0, (.lconst 0, 1, 0, 0, 0, 0, [], j0m), (.invokestatic 33, 3, 0, 2, 0, 0, [5156, 5157, 1006, 5158], m_Arrays_fill3), j0, j0, (.aload_n 0, 1, 0, 0, 0, 0, [], j0m), 
  (.getfield 30, 3, 5, 5, 0, 5, [2073], j0m), j0, j0, (.iconst 0, 1, 0, 0, 0, 0, [], j0m), (.invokestatic 39, 3, 0, 2, 0, 0, [5159, 1075, 1006, 1076], m_Arrays_fill), j0, j0, (.aload_n 1, 1, 1, 0, 0, 0, [], j0m), 
  (.getfield 42, 3, 10, 0, 0, 0, [1212], j0m), j0, j0, (.sipush 300, 3, 0, 0, 0, 0, [], j0m), j0, j0, (.invokestatic 47, 3, 0, 2, 1, 0, [5160, 3076, 1005, 3077], j0m), j0, j0, (.iconst 1, 1, 0, 0, 0, 0, [], j0m), 
  (.isub, 1, 0, 0, 0, 0, [], j0m), (.istore_n 3, 1, 3, 0, 0, 0, [], j0m), (.iload_n 3, 1, 3, 0, 0, 0, [], j0m), (.ifCond .lt 21, 3, 0, 59, 0, 0, [], j0m), j0, j0, (.aload_n 0, 1, 0, 0, 0, 0, [], j0m), 
  (.iload_n 3, 1, 3, 0, 0, 0, [], j0m), (.aload_n 1, 1, 1, 0, 0, 0, [], j0m), (.getfield 53, 3, 10, 5, 0, 5, [1229], j0m), j0, j0, (.iload_n 3, 1, 3, 0, 0, 0, [], j0m), (.iaload, 1, 0, 0, 0, 0, [], j0m), 
  (.aload_n 2, 1, 2, 0, 0, 0, [], j0m), (.invokevirtual 56, 3, 5, 4, 1, 0, [5161, 5163, 42, 1010, 5164], m_Likeness_fillRow), j0, j0, (.iinc 3 (-1), 3, 3, 0, 0, 0, [], j0m), j0, j0, (.goto (-19), 3, 0, 37, 0, 0, [], j0m), 
  j0, j0, (.aload_n 0, 1, 0, 0, 0, 0, [], j0m), (.aload_n 0, 1, 0, 0, 0, 0, [], j0m), (.getfield 30, 3, 5, 5, 0, 5, [2073], j0m), j0, j0, (.iconst 0, 1, 0, 0, 0, 0, [], j0m), (.iaload, 1, 0, 0, 0, 0, [], j0m), 
  (.putfield 15, 3, 5, 1, 0, 1, [2067], j0m), j0, j0, (.aload_n 0, 1, 0, 0, 0, 0, [], j0m), (.aload_n 1, 1, 1, 0, 0, 0, [], j0m), (.aload_n 2, 1, 2, 0, 0, 0, [], j0m), (.invokevirtual 60, 3, 5, 3, 1, 0, [5165, 5167, 43, 1010, 5168], m_Likeness_pairUp), 
  j0, j0, (.aload_n 0, 1, 0, 0, 0, 0, [], j0m), (.iconst 1, 1, 0, 0, 0, 0, [], j0m), (.putfield 9, 3, 5, 0, 0, 0, [2065], j0m), j0, j0, (.return_, 1, 0, 0, 0, 0, [], j0m)]
set_option maxRecDepth 20000 in
theorem t_Likeness_refresh : okT m_Likeness_refresh k_Likeness_refresh = true := by decide +kernel
def k_Likeness_fillRow : List jO := [
  (.aload_n 3, 1, 3, 0, 0, 0, [], j0m), (.getfield 42, 3, 10, 0, 0, 0, [1212], j0m), j0, j0, (.sipush 300, 3, 0, 0, 0, 0, [], j0m), j0, j0, (.invokestatic 47, 3, 0, 2, 1, 0, [5160, 3076, 1005, 3077], j0m), 
  j0, j0, (.istore 4, 2, 4, 0, 0, 0, [], j0m), j0, (.iload_n 1, 1, 1, 0, 0, 0, [], j0m), (.ifCond .lt 15, 3, 0, 28, 0, 0, [], j0m), j0, j0, (.iload_n 1, 1, 1, 0, 0, 0, [], j0m), (.sipush 300, 3, 0, 0, 0, 0, [], j0m), 
  j0, j0, (.if_icmp .ge 8, 3, 0, 28, 0, 0, [], j0m), j0, j0, (.iload 4, 2, 4, 0, 0, 0, [], j0m), j0, (.ifCond .ge 4, 3, 0, 29, 0, 0, [], j0m), j0, j0, (.return_, 1, 0, 0, 0, 0, [], j0m), (.aload_n 0, 1, 0, 0, 0, 0, [], j0m), 
  (.getfield 27, 3, 5, 4, 0, 4, [2072], j0m), j0, j0, (.iload 4, 2, 4, 0, 0, 0, [], j0m), j0, (.iconst 0, 1, 0, 0, 0, 0, [], j0m), (.iastore, 1, 0, 0, 0, 0, [], j0m), (.iload 4, 2, 4, 0, 0, 0, [], j0m), 
  j0, (.iconst 1, 1, 0, 0, 0, 0, [], j0m), (.isub, 1, 0, 0, 0, 0, [], j0m), (.istore 5, 2, 5, 0, 0, 0, [], j0m), j0, (.iload 5, 2, 5, 0, 0, 0, [], j0m), j0, (.ifCond .lt 117, 3, 0, 162, 0, 0, [], j0m), 
  j0, j0, (.aload_n 3, 1, 3, 0, 0, 0, [], j0m), (.getfield 53, 3, 10, 5, 0, 5, [1229], j0m), j0, j0, (.iload 5, 2, 5, 0, 0, 0, [], j0m), j0, (.iaload, 1, 0, 0, 0, 0, [], j0m), (.iload_n 2, 1, 2, 0, 0, 0, [], j0m), 
  (.if_icmp .ne 24, 3, 0, 80, 0, 0, [], j0m), j0, j0, (.aload_n 0, 1, 0, 0, 0, 0, [], j0m), (.getfield 27, 3, 5, 4, 0, 4, [2072], j0m), j0, j0, (.iload 5, 2, 5, 0, 0, 0, [], j0m), j0, (.aload_n 0, 1, 0, 0, 0, 0, [], j0m), 
  (.getfield 30, 3, 5, 5, 0, 5, [2073], j0m), j0, j0, (.iload 5, 2, 5, 0, 0, 0, [], j0m), j0, (.iconst 1, 1, 0, 0, 0, 0, [], j0m), (.iadd, 1, 0, 0, 0, 0, [], j0m), (.iaload, 1, 0, 0, 0, 0, [], j0m), (.iconst 1, 1, 0, 0, 0, 0, [], j0m), 
  (.iadd, 1, 0, 0, 0, 0, [], j0m), (.iastore, 1, 0, 0, 0, 0, [], j0m), (.goto 79, 3, 0, 156, 0, 0, [], j0m), j0, j0, (.aload_n 0, 1, 0, 0, 0, 0, [], j0m), (.getfield 30, 3, 5, 5, 0, 5, [2073], j0m), j0, 
  j0, (.iload 5, 2, 5, 0, 0, 0, [], j0m), j0, (.iaload, 1, 0, 0, 0, 0, [], j0m), (.aload_n 0, 1, 0, 0, 0, 0, [], j0m), (.getfield 27, 3, 5, 4, 0, 4, [2072], j0m), j0, j0, (.iload 5, 2, 5, 0, 0, 0, [], j0m), 
  j0, (.iconst 1, 1, 0, 0, 0, 0, [], j0m), (.iadd, 1, 0, 0, 0, 0, [], j0m), (.iaload, 1, 0, 0, 0, 0, [], j0m), (.if_icmp .lt 44, 3, 0, 140, 0, 0, [], j0m), j0, j0, (.aload_n 0, 1, 0, 0, 0, 0, [], j0m), 
  (.getfield 27, 3, 5, 4, 0, 4, [2072], j0m), j0, j0, (.iload 5, 2, 5, 0, 0, 0, [], j0m), j0, (.aload_n 0, 1, 0, 0, 0, 0, [], j0m), (.getfield 30, 3, 5, 5, 0, 5, [2073], j0m), j0, j0, (.iload 5, 2, 5, 0, 0, 0, [], j0m), 
  j0, (.iaload, 1, 0, 0, 0, 0, [], j0m), (.iastore, 1, 0, 0, 0, 0, [], j0m), (.aload_n 0, 1, 0, 0, 0, 0, [], j0m), (.getfield 23, 3, 5, 3, 0, 3, [2071], j0m), j0, j0, (.iload_n 1, 1, 1, 0, 0, 0, [], j0m), 
  (.iconst 5, 1, 0, 0, 0, 0, [], j0m), (.imul, 1, 0, 0, 0, 0, [], j0m), (.iload 5, 2, 5, 0, 0, 0, [], j0m), j0, (.bipush 64, 2, 0, 0, 0, 0, [], j0m), j0, (.idiv, 1, 0, 0, 0, 0, [], j0m), (.iadd, 1, 0, 0, 0, 0, [], j0m), 
  (.dup2, 1, 0, 0, 0, 0, [], j0m), (.laload, 1, 0, 0, 0, 0, [], j0m), (.lconst 1, 1, 0, 0, 0, 1, [], j0m), (.iload 5, 2, 5, 0, 0, 0, [], j0m), j0, (.bipush 64, 2, 0, 0, 0, 0, [], j0m), j0, (.irem, 1, 0, 0, 0, 0, [], j0m), 
  (.lshl, 1, 0, 0, 0, 0, [], j0m), (.lor, 1, 0, 0, 0, 0, [], j0m), (.lastore, 1, 0, 0, 0, 0, [], j0m), (.goto 19, 3, 0, 156, 0, 0, [], j0m), j0, j0, (.aload_n 0, 1, 0, 0, 0, 0, [], j0m), (.getfield 27, 3, 5, 4, 0, 4, [2072], j0m), 
  j0, j0, (.iload 5, 2, 5, 0, 0, 0, [], j0m), j0, (.aload_n 0, 1, 0, 0, 0, 0, [], j0m), (.getfield 27, 3, 5, 4, 0, 4, [2072], j0m), j0, j0, (.iload 5, 2, 5, 0, 0, 0, [], j0m), j0, (.iconst 1, 1, 0, 0, 0, 0, [], j0m), 
  (.iadd, 1, 0, 0, 0, 0, [], j0m), (.iaload, 1, 0, 0, 0, 0, [], j0m), (.iastore, 1, 0, 0, 0, 0, [], j0m), (.iinc 5 (-1), 3, 5, 0, 0, 0, [], j0m), j0, j0, (.goto (-116), 3, 0, 43, 0, 0, [], j0m), j0, j0, 
  (.aload_n 0, 1, 0, 0, 0, 0, [], j0m), (.getfield 27, 3, 5, 4, 0, 4, [2072], j0m), j0, j0, (.astore 5, 2, 5, 0, 0, 0, [], j0m), j0, (.aload_n 0, 1, 0, 0, 0, 0, [], j0m), (.aload_n 0, 1, 0, 0, 0, 0, [], j0m), 
  (.getfield 30, 3, 5, 5, 0, 5, [2073], j0m), j0, j0, (.putfield 27, 3, 5, 4, 0, 4, [2072], j0m), j0, j0, (.aload_n 0, 1, 0, 0, 0, 0, [], j0m), (.aload 5, 2, 5, 0, 0, 0, [], j0m), j0, (.putfield 30, 3, 5, 5, 0, 5, [2073], j0m), 
  j0, j0, (.return_, 1, 0, 0, 0, 0, [], j0m)]
set_option maxRecDepth 20000 in
theorem t_Likeness_fillRow : okT m_Likeness_fillRow k_Likeness_fillRow = true := by decide +kernel
def k_Likeness_pairUp : List jO := [
  (.aload_n 0, 1, 0, 0, 0, 0, [], j0m), (.getfield 19, 3, 5, 2, 0, 2, [2069], j0m), j0, j0, (.iconst (-1), 1, 0, 0, 0, 0, [], j0m), (.invokestatic 39, 3, 0, 2, 0, 0, [5159, 1075, 1006, 1076], m_Arrays_fill), 
  j0, j0, (.iconst 0, 1, 0, 0, 0, 0, [], j0m), (.istore_n 3, 1, 3, 0, 0, 0, [], j0m), (.iconst 0, 1, 0, 0, 0, 0, [], j0m), (.istore 4, 2, 4, 0, 0, 0, [], j0m), j0, (.iload_n 3, 1, 3, 0, 0, 0, [], j0m), 
  (.aload_n 1, 1, 1, 0, 0, 0, [], j0m), (.getfield 42, 3, 10, 0, 0, 0, [1212], j0m), j0, j0, (.if_icmp .ge 99, 3, 0, 117, 0, 0, [], j0m), j0, j0, (.iload 4, 2, 4, 0, 0, 0, [], j0m), j0, (.aload_n 2, 1, 2, 0, 0, 0, [], j0m), 
  (.getfield 42, 3, 10, 0, 0, 0, [1212], j0m), j0, j0, (.if_icmp .ge 90, 3, 0, 117, 0, 0, [], j0m), j0, j0, (.iload_n 3, 1, 3, 0, 0, 0, [], j0m), (.sipush 300, 3, 0, 0, 0, 0, [], j0m), j0, j0, (.if_icmp .ge 83, 3, 0, 117, 0, 0, [], j0m), 
  j0, j0, (.iload 4, 2, 4, 0, 0, 0, [], j0m), j0, (.sipush 300, 3, 0, 0, 0, 0, [], j0m), j0, j0, (.if_icmp .ge 75, 3, 0, 117, 0, 0, [], j0m), j0, j0, (.aload_n 1, 1, 1, 0, 0, 0, [], j0m), (.getfield 53, 3, 10, 5, 0, 5, [1229], j0m), 
  j0, j0, (.iload_n 3, 1, 3, 0, 0, 0, [], j0m), (.iaload, 1, 0, 0, 0, 0, [], j0m), (.aload_n 2, 1, 2, 0, 0, 0, [], j0m), (.getfield 53, 3, 10, 5, 0, 5, [1229], j0m), j0, j0, (.iload 4, 2, 4, 0, 0, 0, [], j0m), 
  j0, (.iaload, 1, 0, 0, 0, 0, [], j0m), (.if_icmp .ne 20, 3, 0, 78, 0, 0, [], j0m), j0, j0, (.aload_n 0, 1, 0, 0, 0, 0, [], j0m), (.getfield 19, 3, 5, 2, 0, 2, [2069], j0m), j0, j0, (.iload_n 3, 1, 3, 0, 0, 0, [], j0m), 
  (.iload 4, 2, 4, 0, 0, 0, [], j0m), j0, (.iastore, 1, 0, 0, 0, 0, [], j0m), (.iinc 3 1, 3, 3, 0, 0, 0, [], j0m), j0, j0, (.iinc 4 1, 3, 4, 0, 0, 0, [], j0m), j0, j0, (.goto (-62), 3, 0, 13, 0, 0, [], j0m), 
  j0, j0, (.aload_n 0, 1, 0, 0, 0, 0, [], j0m), (.getfield 23, 3, 5, 3, 0, 3, [2071], j0m), j0, j0, (.iload_n 3, 1, 3, 0, 0, 0, [], j0m), (.iconst 5, 1, 0, 0, 0, 0, [], j0m), (.imul, 1, 0, 0, 0, 0, [], j0m), 
  (.iload 4, 2, 4, 0, 0, 0, [], j0m), j0, (.bipush 64, 2, 0, 0, 0, 0, [], j0m), j0, (.idiv, 1, 0, 0, 0, 0, [], j0m), (.iadd, 1, 0, 0, 0, 0, [], j0m), (.laload, 1, 0, 0, 0, 0, [], j0m), (.iload 4, 2, 4, 0, 0, 0, [], j0m), 
  j0, (.bipush 64, 2, 0, 0, 0, 0, [], j0m), j0, (.irem, 1, 0, 0, 0, 0, [], j0m), (.lshr, 1, 0, 0, 0, 0, [], j0m), (.lconst 1, 1, 0, 0, 0, 1, [], j0m), (.land, 1, 0, 0, 0, 0, [], j0m), (.lconst 1, 1, 0, 0, 0, 1, [], j0m), 
  (.lcmp, 1, 0, 0, 0, 0, [], j0m), (.ifCond .ne 9, 3, 0, 111, 0, 0, [], j0m), j0, j0, (.iinc 3 1, 3, 3, 0, 0, 0, [], j0m), j0, j0, (.goto (-95), 3, 0, 13, 0, 0, [], j0m), j0, j0, (.iinc 4 1, 3, 4, 0, 0, 0, [], j0m), 
  j0, j0, (.goto (-101), 3, 0, 13, 0, 0, [], j0m), j0, j0, (.return_, 1, 0, 0, 0, 0, [], j0m)]
set_option maxRecDepth 20000 in
theorem t_Likeness_pairUp : okT m_Likeness_pairUp k_Likeness_pairUp = true := by decide +kernel
def k_Image_slipAt : List jO := [
  (.iload_n 0, 1, 0, 0, 0, 0, [], j0m), (.sipush 300, 3, 0, 0, 0, 0, [], j0m), j0, j0, (.imul, 1, 0, 0, 0, 0, [], j0m), (.iload_n 1, 1, 1, 0, 0, 0, [], j0m), (.iadd, 1, 0, 0, 0, 0, [], j0m), (.ireturn, 1, 0, 0, 0, 0, [], j0m)
  ]
set_option maxRecDepth 20000 in
theorem t_Image_slipAt : okT m_Image_slipAt k_Image_slipAt = true := by decide +kernel
def k_Image_slipHigh : List jO := [
  (.iload_n 1, 1, 1, 0, 0, 0, [], j0m), (.ifCond .lt 37, 3, 0, 38, 0, 0, [], j0m), j0, j0, (.iload_n 1, 1, 1, 0, 0, 0, [], j0m), (.aload_n 0, 1, 0, 0, 0, 0, [], j0m), (.getfield 40, 3, 2, 6, 0, 6, [1149], j0m), 
  j0, j0, (.getfield 96, 3, 4, 0, 0, 0, [1055], j0m), j0, j0, (.arraylength, 1, 0, 0, 0, 0, [], j0m), (.if_icmp .ge 25, 3, 0, 38, 0, 0, [], j0m), j0, j0, (.aload_n 0, 1, 0, 0, 0, 0, [], j0m), (.getfield 40, 3, 2, 6, 0, 6, [1149], j0m), 
  j0, j0, (.getfield 96, 3, 4, 0, 0, 0, [1055], j0m), j0, j0, (.iload_n 1, 1, 1, 0, 0, 0, [], j0m), (.laload, 1, 0, 0, 0, 0, [], j0m), (.aload_n 0, 1, 0, 0, 0, 0, [], j0m), (.getfield 12, 3, 2, 0, 0, 0, [1140], j0m), 
  j0, j0, (.getfield 100, 3, 7, 1, 0, 1, [1084], j0m), j0, j0, (.invokestatic 103, 3, 0, 2, 0, 0, [5210, 3239, 1009, 4000], m_Key_mapped), j0, j0, (.goto 4, 3, 0, 39, 0, 0, [], j0m), j0, j0, (.lconst 0, 1, 0, 0, 0, 0, [], j0m), 
  (.lreturn, 1, 0, 0, 0, 0, [], j0m)]
set_option maxRecDepth 20000 in
theorem t_Image_slipHigh : okT m_Image_slipHigh k_Image_slipHigh = true := by decide +kernel
def k_Image_slipLow : List jO := [
  (.iload_n 1, 1, 1, 0, 0, 0, [], j0m), (.ifCond .lt 37, 3, 0, 38, 0, 0, [], j0m), j0, j0, (.iload_n 1, 1, 1, 0, 0, 0, [], j0m), (.aload_n 0, 1, 0, 0, 0, 0, [], j0m), (.getfield 40, 3, 2, 6, 0, 6, [1149], j0m), 
  j0, j0, (.getfield 109, 3, 4, 1, 0, 1, [1061], j0m), j0, j0, (.arraylength, 1, 0, 0, 0, 0, [], j0m), (.if_icmp .ge 25, 3, 0, 38, 0, 0, [], j0m), j0, j0, (.aload_n 0, 1, 0, 0, 0, 0, [], j0m), (.getfield 40, 3, 2, 6, 0, 6, [1149], j0m), 
  j0, j0, (.getfield 109, 3, 4, 1, 0, 1, [1061], j0m), j0, j0, (.iload_n 1, 1, 1, 0, 0, 0, [], j0m), (.laload, 1, 0, 0, 0, 0, [], j0m), (.aload_n 0, 1, 0, 0, 0, 0, [], j0m), (.getfield 12, 3, 2, 0, 0, 0, [1140], j0m), 
  j0, j0, (.getfield 100, 3, 7, 1, 0, 1, [1084], j0m), j0, j0, (.invokestatic 103, 3, 0, 2, 0, 0, [5210, 3239, 1009, 4000], m_Key_mapped), j0, j0, (.goto 4, 3, 0, 39, 0, 0, [], j0m), j0, j0, (.lconst 0, 1, 0, 0, 0, 0, [], j0m), 
  (.lreturn, 1, 0, 0, 0, 0, [], j0m)]
set_option maxRecDepth 20000 in
theorem t_Image_slipLow : okT m_Image_slipLow k_Image_slipLow = true := by decide +kernel
def k_Image_hasSlip : List jO := [
  (.aload_n 0, 1, 0, 0, 0, 0, [], j0m), (.getfield 40, 3, 2, 6, 0, 6, [1149], j0m), j0, j0, (.iload_n 1, 1, 1, 0, 0, 0, [], j0m), (.iload_n 2, 1, 2, 0, 0, 0, [], j0m), (.invokestatic 89, 3, 0, 2, 0, 0, [5224, 5199, 1002, 5200], m_Image_slipAt), 
  j0, j0, (.lconst 0, 1, 0, 0, 0, 0, [], j0m), (.lconst 0, 1, 0, 0, 0, 0, [], j0m), (.invokevirtual 92, 3, 4, 4, 1, 0, [5225, 4219, 4220, 1004, 4221], m_KeyRow_holds), j0, j0, (.ifCond .ne 7, 3, 0, 21, 0, 0, [], j0m), 
  j0, j0, (.iconst 1, 1, 0, 0, 0, 0, [], j0m), (.goto 4, 3, 0, 22, 0, 0, [], j0m), j0, j0, (.iconst 0, 1, 0, 0, 0, 0, [], j0m), (.ireturn, 1, 0, 0, 1, 0, [], j0m)]
set_option maxRecDepth 20000 in
theorem t_Image_hasSlip : okT m_Image_hasSlip k_Image_hasSlip = true := by decide +kernel
def k_Words_clearWorths : List jO := [
  (.aload_n 0, 1, 0, 0, 0, 0, [], j0m), (.getfield 52, 3, 10, 11, 0, 11, [1238], j0m), j0, j0, (.iconst 0, 1, 0, 0, 0, 0, [], j0m), (.invokestatic 66, 3, 0, 2, 0, 0, [4119, 1075, 1006, 1076], m_Arrays_fill), 
  j0, j0, (.aload_n 0, 1, 0, 0, 0, 0, [], j0m), (.getfield 55, 3, 10, 12, 0, 12, [2000], j0m), j0, j0, (.iconst 0, 1, 0, 0, 0, 0, [], j0m), (.invokestatic 167, 3, 0, 2, 0, 0, [6002, 3214, 1006, 3215], m_Arrays_fill2), 
  j0, j0, (.return_, 1, 0, 0, 0, 0, [], j0m)]
set_option maxRecDepth 20000 in
theorem t_Words_clearWorths : okT m_Words_clearWorths k_Words_clearWorths = true := by decide +kernel
def k_Words_addWorths : List jO := [
  (.iload_n 1, 1, 1, 0, 0, 0, [], j0m), (.ifCond .lt 19, 3, 0, 20, 0, 0, [], j0m), j0, j0, (.iload_n 1, 1, 1, 0, 0, 0, [], j0m), (.sipush 600, 3, 0, 0, 0, 0, [], j0m), j0, j0, (.if_icmp .ge 12, 3, 0, 20, 0, 0, [], j0m), 
  j0, j0, (.aload_n 0, 1, 0, 0, 0, 0, [], j0m), (.getfield 55, 3, 10, 12, 0, 12, [2000], j0m), j0, j0, (.iload_n 1, 1, 1, 0, 0, 0, [], j0m), (.baload, 1, 0, 0, 2, 0, [], j0m), (.ifCond .eq 4, 3, 0, 21, 0, 0, [], j0m), 
  j0, j0, (.return_, 1, 0, 0, 0, 0, [], j0m), (.aload_n 0, 1, 0, 0, 0, 0, [], j0m), (.getfield 55, 3, 10, 12, 0, 12, [2000], j0m), j0, j0, (.iload_n 1, 1, 1, 0, 0, 0, [], j0m), (.iconst 1, 1, 0, 0, 0, 0, [], j0m), 
  (.bastore, 1, 0, 0, 2, 0, [], j0m), (.aload_n 0, 1, 0, 0, 0, 0, [], j0m), (.iload_n 1, 1, 1, 0, 0, 0, [], j0m), (.invokevirtual 170, 3, 10, 2, 1, 0, [6013, 6015, 51, 1008, 6016], m_Words_linesWith), 
  j0, j0, (.istore_n 2, 1, 2, 0, 0, 0, [], j0m), (.iconst (-1), 1, 0, 0, 0, 0, [], j0m), (.istore_n 3, 1, 3, 0, 0, 0, [], j0m), (.iconst 0, 1, 0, 0, 0, 0, [], j0m), (.istore 4, 2, 4, 0, 0, 0, [], j0m), 
  j0, (.iload 4, 2, 4, 0, 0, 0, [], j0m), j0, (.aload_n 0, 1, 0, 0, 0, 0, [], j0m), (.iload_n 1, 1, 1, 0, 0, 0, [], j0m), (.invokevirtual 151, 3, 10, 2, 1, 0, [5120, 4211, 4212, 1008, 4213], m_Words_oftenOf), 
  j0, j0, (.if_icmp .ge 62, 3, 0, 108, 0, 0, [], j0m), j0, j0, (.iload_n 2, 1, 2, 0, 0, 0, [], j0m), (.ifCond .le 58, 3, 0, 108, 0, 0, [], j0m), j0, j0, (.aload_n 0, 1, 0, 0, 0, 0, [], j0m), (.aload_n 0, 1, 0, 0, 0, 0, [], j0m), 
  (.iload_n 1, 1, 1, 0, 0, 0, [], j0m), (.iload 4, 2, 4, 0, 0, 0, [], j0m), j0, (.invokevirtual 154, 3, 10, 3, 1, 0, [5121, 5062, 5063, 1008, 5064], m_Words_placeOf), j0, j0, (.invokevirtual 173, 3, 10, 2, 1, 0, [6017, 5079, 5080, 1008, 5081], m_Words_lineOfPlace), 
  j0, j0, (.istore 5, 2, 5, 0, 0, 0, [], j0m), j0, (.iload 5, 2, 5, 0, 0, 0, [], j0m), j0, (.iload_n 3, 1, 3, 0, 0, 0, [], j0m), (.if_icmp .eq 30, 3, 0, 99, 0, 0, [], j0m), j0, j0, (.iload 5, 2, 5, 0, 0, 0, [], j0m), 
  j0, (.ifCond .lt 25, 3, 0, 99, 0, 0, [], j0m), j0, j0, (.iload 5, 2, 5, 0, 0, 0, [], j0m), j0, (.bipush 40, 2, 0, 0, 0, 0, [], j0m), j0, (.if_icmp .ge 18, 3, 0, 99, 0, 0, [], j0m), j0, j0, (.aload_n 0, 1, 0, 0, 0, 0, [], j0m), 
  (.getfield 52, 3, 10, 11, 0, 11, [1238], j0m), j0, j0, (.iload 5, 2, 5, 0, 0, 0, [], j0m), j0, (.dup2, 1, 0, 0, 0, 0, [], j0m), (.iaload, 1, 0, 0, 0, 0, [], j0m), (.sipush 1000, 3, 0, 0, 0, 0, [], j0m), 
  j0, j0, (.iload_n 2, 1, 2, 0, 0, 0, [], j0m), (.idiv, 1, 0, 0, 0, 0, [], j0m), (.iadd, 1, 0, 0, 0, 0, [], j0m), (.iastore, 1, 0, 0, 0, 0, [], j0m), (.iload 5, 2, 5, 0, 0, 0, [], j0m), j0, (.istore_n 3, 1, 3, 0, 0, 0, [], j0m), 
  (.iinc 4 1, 3, 4, 0, 0, 0, [], j0m), j0, j0, (.goto (-66), 3, 0, 39, 0, 0, [], j0m), j0, j0, (.return_, 1, 0, 0, 0, 0, [], j0m)]
set_option maxRecDepth 20000 in
theorem t_Words_addWorths : okT m_Words_addWorths k_Words_addWorths = true := by decide +kernel
def k_Words_linesWith : List jO := [
  (.iconst 0, 1, 0, 0, 0, 0, [], j0m), (.istore_n 2, 1, 2, 0, 0, 0, [], j0m), (.iconst (-1), 1, 0, 0, 0, 0, [], j0m), (.istore_n 3, 1, 3, 0, 0, 0, [], j0m), (.iconst 0, 1, 0, 0, 0, 0, [], j0m), (.istore 4, 2, 4, 0, 0, 0, [], j0m), 
  j0, (.iload 4, 2, 4, 0, 0, 0, [], j0m), j0, (.aload_n 0, 1, 0, 0, 0, 0, [], j0m), (.iload_n 1, 1, 1, 0, 0, 0, [], j0m), (.invokevirtual 151, 3, 10, 2, 1, 0, [5120, 4211, 4212, 1008, 4213], m_Words_oftenOf), 
  j0, j0, (.if_icmp .ge 39, 3, 0, 53, 0, 0, [], j0m), j0, j0, (.aload_n 0, 1, 0, 0, 0, 0, [], j0m), (.aload_n 0, 1, 0, 0, 0, 0, [], j0m), (.iload_n 1, 1, 1, 0, 0, 0, [], j0m), (.iload 4, 2, 4, 0, 0, 0, [], j0m), 
  j0, (.invokevirtual 154, 3, 10, 3, 1, 0, [5121, 5062, 5063, 1008, 5064], m_Words_placeOf), j0, j0, (.invokevirtual 173, 3, 10, 2, 1, 0, [6017, 5079, 5080, 1008, 5081], m_Words_lineOfPlace), j0, j0, (.istore 5, 2, 5, 0, 0, 0, [], j0m), 
  j0, (.iload_n 2, 1, 2, 0, 0, 0, [], j0m), (.iload 5, 2, 5, 0, 0, 0, [], j0m), j0, (.iload_n 3, 1, 3, 0, 0, 0, [], j0m), (.if_icmp .eq 7, 3, 0, 41, 0, 0, [], j0m), j0, j0, (.iconst 1, 1, 0, 0, 0, 0, [], j0m), 
  (.goto 4, 3, 0, 42, 0, 0, [], j0m), j0, j0, (.iconst 0, 1, 0, 0, 0, 0, [], j0m), (.iadd, 1, 0, 0, 0, 0, [], j0m), (.istore_n 2, 1, 2, 0, 0, 0, [], j0m), (.iload 5, 2, 5, 0, 0, 0, [], j0m), j0, (.istore_n 3, 1, 3, 0, 0, 0, [], j0m), 
  (.iinc 4 1, 3, 4, 0, 0, 0, [], j0m), j0, j0, (.goto (-43), 3, 0, 7, 0, 0, [], j0m), j0, j0, (.iload_n 2, 1, 2, 0, 0, 0, [], j0m), (.ireturn, 1, 0, 0, 0, 0, [], j0m)]
set_option maxRecDepth 20000 in
theorem t_Words_linesWith : okT m_Words_linesWith k_Words_linesWith = true := by decide +kernel
def k_Book_beginsWith : List jO := [
  (.aload_n 0, 1, 0, 0, 0, 0, [], j0m), (.iload_n 1, 1, 1, 0, 0, 0, [], j0m), (.invokevirtual 106, 3, 1, 2, 1, 0, [6034, 4200, 4201, 1007, 4202], m_Book_has), j0, j0, (.ifCond .ne 5, 3, 0, 10, 0, 0, [], j0m), 
  j0, j0, (.iconst 0, 1, 0, 0, 0, 0, [], j0m), (.ireturn, 1, 0, 0, 1, 0, [], j0m), (.aload_n 2, 1, 2, 0, 0, 0, [], j0m), (.getfield 110, 3, 3, 2, 0, 2, [1202], j0m), j0, j0, (.invokestatic 113, 3, 0, 1, 0, 0, [6035, 6036, 1009, 6037], m_Key_firstBits), 
  j0, j0, (.lstore_n 3, 1, 3, 0, 0, 0, [], j0m), (.aload_n 2, 1, 2, 0, 0, 0, [], j0m), (.getfield 110, 3, 3, 2, 0, 2, [1202], j0m), j0, j0, (.bipush 10, 2, 0, 0, 0, 0, [], j0m), j0, (.isub, 1, 0, 0, 0, 0, [], j0m), 
  (.invokestatic 113, 3, 0, 1, 0, 0, [6035, 6036, 1009, 6037], m_Key_firstBits), j0, j0, (.lstore 5, 2, 5, 0, 0, 0, [], j0m), j0, (.aload_n 0, 1, 0, 0, 0, 0, [], j0m), (.getfield 24, 3, 1, 2, 0, 2, [2036], j0m), 
  j0, j0, (.getfield 79, 3, 4, 0, 0, 0, [1052], j0m), j0, j0, (.iload_n 1, 1, 1, 0, 0, 0, [], j0m), (.laload, 1, 0, 0, 0, 0, [], j0m), (.lload_n 3, 1, 3, 0, 0, 0, [], j0m), (.land, 1, 0, 0, 0, 0, [], j0m), 
  (.aload_n 2, 1, 2, 0, 0, 0, [], j0m), (.getfield 117, 3, 3, 0, 0, 0, [1191], j0m), j0, j0, (.lcmp, 1, 0, 0, 0, 0, [], j0m), (.ifCond .ne 27, 3, 0, 73, 0, 0, [], j0m), j0, j0, (.aload_n 0, 1, 0, 0, 0, 0, [], j0m), 
  (.getfield 24, 3, 1, 2, 0, 2, [2036], j0m), j0, j0, (.getfield 83, 3, 4, 1, 0, 1, [1058], j0m), j0, j0, (.iload_n 1, 1, 1, 0, 0, 0, [], j0m), (.laload, 1, 0, 0, 0, 0, [], j0m), (.lload 5, 2, 5, 0, 0, 0, [], j0m), 
  j0, (.land, 1, 0, 0, 0, 0, [], j0m), (.aload_n 2, 1, 2, 0, 0, 0, [], j0m), (.getfield 120, 3, 3, 1, 0, 1, [1197], j0m), j0, j0, (.lcmp, 1, 0, 0, 0, 0, [], j0m), (.ifCond .ne 7, 3, 0, 73, 0, 0, [], j0m), 
  j0, j0, (.iconst 1, 1, 0, 0, 0, 0, [], j0m), (.goto 4, 3, 0, 74, 0, 0, [], j0m), j0, j0, (.iconst 0, 1, 0, 0, 0, 0, [], j0m), (.ireturn, 1, 0, 0, 1, 0, [], j0m)]
set_option maxRecDepth 20000 in
theorem t_Book_beginsWith : okT m_Book_beginsWith k_Book_beginsWith = true := by decide +kernel
def k_Key_firstBits : List jO := [
  (.iconst 0, 1, 0, 0, 0, 0, [], j0m), (.bipush 10, 2, 0, 0, 0, 0, [], j0m), j0, (.iload_n 0, 1, 0, 0, 0, 0, [], j0m), (.invokestatic 32, 3, 0, 2, 1, 0, [6038, 3076, 1005, 3077], j0m), j0, j0, (.invokestatic 38, 3, 0, 2, 2, 0, [6039, 1049, 1005, 1050], j0m), 
  j0, j0, (.istore_n 1, 1, 1, 0, 0, 0, [], j0m), (.ldc2_w 41, 3, 0, 0, 0, 1125899906842623, [6040], j0m), j0, j0, (.lconst 1, 1, 0, 0, 0, 1, [], j0m), (.bipush 50, 2, 0, 0, 0, 0, [], j0m), j0, (.iconst 5, 1, 0, 0, 0, 0, [], j0m), 
  (.iload_n 1, 1, 1, 0, 0, 0, [], j0m), (.imul, 1, 0, 0, 0, 0, [], j0m), (.isub, 1, 0, 0, 0, 0, [], j0m), (.lshl, 1, 0, 0, 0, 0, [], j0m), (.lconst 1, 1, 0, 0, 0, 1, [], j0m), (.lsub, 1, 0, 0, 0, 0, [], j0m), 
  (.ldc2_w 43, 3, 0, 0, 0, (-1), [6041], j0m), j0, j0, (.lxor, 1, 0, 0, 0, 0, [], j0m), (.land, 1, 0, 0, 0, 0, [], j0m), (.lreturn, 1, 0, 0, 0, 0, [], j0m)]
set_option maxRecDepth 20000 in
theorem t_Key_firstBits : okT m_Key_firstBits k_Key_firstBits = true := by decide +kernel
def k_Image_slipCount : List jO := [
  (.iconst 0, 1, 0, 0, 0, 0, [], j0m), (.istore_n 1, 1, 1, 0, 0, 0, [], j0m), (.iconst 0, 1, 0, 0, 0, 0, [], j0m), (.istore_n 2, 1, 2, 0, 0, 0, [], j0m), (.iload_n 2, 1, 2, 0, 0, 0, [], j0m), (.iconst 4, 1, 0, 0, 0, 0, [], j0m), 
  (.if_icmp .ge 41, 3, 0, 47, 0, 0, [], j0m), j0, j0, (.iconst 0, 1, 0, 0, 0, 0, [], j0m), (.istore_n 3, 1, 3, 0, 0, 0, [], j0m), (.iload_n 3, 1, 3, 0, 0, 0, [], j0m), (.sipush 300, 3, 0, 0, 0, 0, [], j0m), 
  j0, j0, (.if_icmp .ge 26, 3, 0, 41, 0, 0, [], j0m), j0, j0, (.iload_n 1, 1, 1, 0, 0, 0, [], j0m), (.aload_n 0, 1, 0, 0, 0, 0, [], j0m), (.iload_n 2, 1, 2, 0, 0, 0, [], j0m), (.iload_n 3, 1, 3, 0, 0, 0, [], j0m), 
  (.invokevirtual 112, 3, 2, 3, 1, 0, [6066, 5221, 5222, 1002, 5223], m_Image_hasSlip), j0, j0, (.ifCond .eq 7, 3, 0, 32, 0, 0, [], j0m), j0, j0, (.iconst 1, 1, 0, 0, 0, 0, [], j0m), (.goto 4, 3, 0, 33, 0, 0, [], j0m), 
  j0, j0, (.iconst 0, 1, 0, 0, 0, 0, [], j0m), (.iadd, 1, 0, 0, 0, 0, [], j0m), (.istore_n 1, 1, 1, 0, 0, 0, [], j0m), (.iinc 3 1, 3, 3, 0, 0, 0, [], j0m), j0, j0, (.goto (-27), 3, 0, 11, 0, 0, [], j0m), 
  j0, j0, (.iinc 2 1, 3, 2, 0, 0, 0, [], j0m), j0, j0, (.goto (-40), 3, 0, 4, 0, 0, [], j0m), j0, j0, (.iload_n 1, 1, 1, 0, 0, 0, [], j0m), (.ireturn, 1, 0, 0, 0, 0, [], j0m)]
set_option maxRecDepth 20000 in
theorem t_Image_slipCount : okT m_Image_slipCount k_Image_slipCount = true := by decide +kernel
def k_Slots_filled : List jO := [
  (.iconst 0, 1, 0, 0, 0, 0, [], j0m), (.istore_n 1, 1, 1, 0, 0, 0, [], j0m), (.iconst 0, 1, 0, 0, 0, 0, [], j0m), (.istore_n 2, 1, 2, 0, 0, 0, [], j0m), (.iload_n 2, 1, 2, 0, 0, 0, [], j0m), (.iconst 4, 1, 0, 0, 0, 0, [], j0m), 
  (.if_icmp .ge 25, 3, 0, 31, 0, 0, [], j0m), j0, j0, (.iload_n 1, 1, 1, 0, 0, 0, [], j0m), (.aload_n 0, 1, 0, 0, 0, 0, [], j0m), (.iload_n 2, 1, 2, 0, 0, 0, [], j0m), (.invokevirtual 36, 3, 8, 2, 1, 0, [4100, 4088, 4089, 1014, 4090], m_Slots_isEmpty), 
  j0, j0, (.ifCond .eq 7, 3, 0, 22, 0, 0, [], j0m), j0, j0, (.iconst 0, 1, 0, 0, 0, 0, [], j0m), (.goto 4, 3, 0, 23, 0, 0, [], j0m), j0, j0, (.iconst 1, 1, 0, 0, 0, 0, [], j0m), (.iadd, 1, 0, 0, 0, 0, [], j0m), 
  (.istore_n 1, 1, 1, 0, 0, 0, [], j0m), (.iinc 2 1, 3, 2, 0, 0, 0, [], j0m), j0, j0, (.goto (-24), 3, 0, 4, 0, 0, [], j0m), j0, j0, (.iload_n 1, 1, 1, 0, 0, 0, [], j0m), (.ireturn, 1, 0, 0, 0, 0, [], j0m)
  ]
set_option maxRecDepth 20000 in
theorem t_Slots_filled : okT m_Slots_filled k_Slots_filled = true := by decide +kernel
def k_Image_copyFrom : List jO := [
  (.aload_n 0, 1, 0, 0, 0, 0, [], j0m), (.getfield 12, 3, 2, 0, 0, 0, [1140], j0m), j0, j0, (.aload_n 1, 1, 1, 0, 0, 0, [], j0m), (.getfield 12, 3, 2, 0, 0, 0, [1140], j0m), j0, j0, (.invokevirtual 44, 3, 7, 2, 1, 0, [6079, 4004, 4005, 1003, 4006], m_Rules_copyFrom), 
  j0, j0, (.aload_n 1, 1, 1, 0, 0, 0, [], j0m), (.getfield 18, 3, 2, 1, 0, 1, [1144], j0m), j0, j0, (.iconst 0, 1, 0, 0, 0, 0, [], j0m), (.aload_n 0, 1, 0, 0, 0, 0, [], j0m), (.getfield 18, 3, 2, 1, 0, 1, [1144], j0m), 
  j0, j0, (.iconst 0, 1, 0, 0, 0, 0, [], j0m), (.sipush 4800, 3, 0, 0, 0, 0, [], j0m), j0, j0, (.invokestatic 48, 3, 2, 5, 3, 0, [4066, 4009, 4008, 1020], j0m), j0, j0, (.aload_n 1, 1, 1, 0, 0, 0, [], j0m), 
  (.getfield 22, 3, 2, 2, 0, 2, [1145], j0m), j0, j0, (.iconst 0, 1, 0, 0, 0, 0, [], j0m), (.aload_n 0, 1, 0, 0, 0, 0, [], j0m), (.getfield 22, 3, 2, 2, 0, 2, [1145], j0m), j0, j0, (.iconst 0, 1, 0, 0, 0, 0, [], j0m), 
  (.bipush 80, 2, 0, 0, 0, 0, [], j0m), j0, (.invokestatic 48, 3, 1, 5, 3, 0, [4066, 4009, 4008, 1020], j0m), j0, j0, (.aload_n 1, 1, 1, 0, 0, 0, [], j0m), (.getfield 26, 3, 2, 3, 0, 3, [1146], j0m), j0, 
  j0, (.iconst 0, 1, 0, 0, 0, 0, [], j0m), (.aload_n 0, 1, 0, 0, 0, 0, [], j0m), (.getfield 26, 3, 2, 3, 0, 3, [1146], j0m), j0, j0, (.iconst 0, 1, 0, 0, 0, 0, [], j0m), (.bipush 80, 2, 0, 0, 0, 0, [], j0m), 
  j0, (.invokestatic 48, 3, 1, 5, 3, 0, [4066, 4009, 4008, 1020], j0m), j0, j0, (.aload_n 1, 1, 1, 0, 0, 0, [], j0m), (.getfield 29, 3, 2, 4, 0, 4, [1147], j0m), j0, j0, (.iconst 0, 1, 0, 0, 0, 0, [], j0m), 
  (.aload_n 0, 1, 0, 0, 0, 0, [], j0m), (.getfield 29, 3, 2, 4, 0, 4, [1147], j0m), j0, j0, (.iconst 0, 1, 0, 0, 0, 0, [], j0m), (.bipush 80, 2, 0, 0, 0, 0, [], j0m), j0, (.invokestatic 48, 3, 2, 5, 3, 0, [4066, 4009, 4008, 1020], j0m), 
  j0, j0, (.aload_n 1, 1, 1, 0, 0, 0, [], j0m), (.getfield 32, 3, 2, 5, 0, 5, [1148], j0m), j0, j0, (.iconst 0, 1, 0, 0, 0, 0, [], j0m), (.aload_n 0, 1, 0, 0, 0, 0, [], j0m), (.getfield 32, 3, 2, 5, 0, 5, [1148], j0m), 
  j0, j0, (.iconst 0, 1, 0, 0, 0, 0, [], j0m), (.iconst 2, 1, 0, 0, 0, 0, [], j0m), (.invokestatic 48, 3, 1, 5, 3, 0, [4066, 4009, 4008, 1020], j0m), j0, j0, (.aload_n 0, 1, 0, 0, 0, 0, [], j0m), (.getfield 40, 3, 2, 6, 0, 6, [1149], j0m), 
  j0, j0, (.aload_n 1, 1, 1, 0, 0, 0, [], j0m), (.getfield 40, 3, 2, 6, 0, 6, [1149], j0m), j0, j0, (.invokevirtual 54, 3, 4, 2, 1, 0, [6080, 4011, 4012, 1004, 4013], m_KeyRow_copyFrom), j0, j0, (.return_, 1, 0, 0, 0, 0, [], j0m)
  ]
set_option maxRecDepth 20000 in
theorem t_Image_copyFrom : okT m_Image_copyFrom k_Image_copyFrom = true := by decide +kernel
def k_Slots_make : List jO := [
  (.aload_n 0, 1, 0, 0, 0, 0, [], j0m), (.iload_n 1, 1, 1, 0, 0, 0, [], j0m), (.invokevirtual 32, 3, 8, 2, 1, 0, [4091, 4084, 4085, 1014, 4086], m_Slots_isSlot), j0, j0, (.ifCond .eq 13, 3, 0, 18, 0, 0, [], j0m), 
  j0, j0, (.iload_n 3, 1, 3, 0, 0, 0, [], j0m), (.ifCond .lt 9, 3, 0, 18, 0, 0, [], j0m), j0, j0, (.iload_n 3, 1, 3, 0, 0, 0, [], j0m), (.bipush 60, 2, 0, 0, 0, 0, [], j0m), j0, (.if_icmp .le 4, 3, 0, 19, 0, 0, [], j0m), 
  j0, j0, (.return_, 1, 0, 0, 0, 0, [], j0m), (.aload_n 0, 1, 0, 0, 0, 0, [], j0m), (.getfield 15, 3, 8, 1, 0, 1, [2212], j0m), j0, j0, (.iload_n 1, 1, 1, 0, 0, 0, [], j0m), (.iload_n 2, 1, 2, 0, 0, 0, [], j0m), 
  (.iastore, 1, 0, 0, 0, 0, [], j0m), (.aload_n 0, 1, 0, 0, 0, 0, [], j0m), (.getfield 19, 3, 8, 2, 0, 2, [2213], j0m), j0, j0, (.iload_n 1, 1, 1, 0, 0, 0, [], j0m), (.iload_n 3, 1, 3, 0, 0, 0, [], j0m), 
  (.iastore, 1, 0, 0, 0, 0, [], j0m), (.aload_n 0, 1, 0, 0, 0, 0, [], j0m), (.getfield 9, 3, 8, 0, 0, 0, [2211], j0m), j0, j0, (.iload_n 1, 1, 1, 0, 0, 0, [], j0m), (.bipush 60, 2, 0, 0, 0, 0, [], j0m), 
  j0, (.imul, 1, 0, 0, 0, 0, [], j0m), (.iload_n 1, 1, 1, 0, 0, 0, [], j0m), (.bipush 60, 2, 0, 0, 0, 0, [], j0m), j0, (.imul, 1, 0, 0, 0, 0, [], j0m), (.iload_n 3, 1, 3, 0, 0, 0, [], j0m), (.iadd, 1, 0, 0, 0, 0, [], j0m), 
  (.lconst 0, 1, 0, 0, 0, 0, [], j0m), (.invokestatic 39, 3, 0, 4, 0, 0, [6093, 6094, 1006, 6095], m_Arrays_fill4), j0, j0, (.return_, 1, 0, 0, 0, 0, [], j0m)]
set_option maxRecDepth 20000 in
theorem t_Slots_make : okT m_Slots_make k_Slots_make = true := by decide +kernel
def k_Slots_put : List jO := [
  (.aload_n 0, 1, 0, 0, 0, 0, [], j0m), (.iload_n 1, 1, 1, 0, 0, 0, [], j0m), (.invokevirtual 32, 3, 8, 2, 1, 0, [4091, 4084, 4085, 1014, 4086], m_Slots_isSlot), j0, j0, (.ifCond .eq 23, 3, 0, 28, 0, 0, [], j0m), 
  j0, j0, (.iload_n 2, 1, 2, 0, 0, 0, [], j0m), (.ifCond .lt 19, 3, 0, 28, 0, 0, [], j0m), j0, j0, (.iload_n 2, 1, 2, 0, 0, 0, [], j0m), (.aload_n 0, 1, 0, 0, 0, 0, [], j0m), (.getfield 19, 3, 8, 2, 0, 2, [2213], j0m), 
  j0, j0, (.iload_n 1, 1, 1, 0, 0, 0, [], j0m), (.iaload, 1, 0, 0, 0, 0, [], j0m), (.if_icmp .ge 9, 3, 0, 28, 0, 0, [], j0m), j0, j0, (.iload_n 2, 1, 2, 0, 0, 0, [], j0m), (.bipush 60, 2, 0, 0, 0, 0, [], j0m), 
  j0, (.if_icmp .lt 5, 3, 0, 30, 0, 0, [], j0m), j0, j0, (.iconst 0, 1, 0, 0, 0, 0, [], j0m), (.ireturn, 1, 0, 0, 1, 0, [], j0m), (.aload_n 0, 1, 0, 0, 0, 0, [], j0m), (.getfield 9, 3, 8, 0, 0, 0, [2211], j0m), 
  j0, j0, (.iload_n 1, 1, 1, 0, 0, 0, [], j0m), (.bipush 60, 2, 0, 0, 0, 0, [], j0m), j0, (.imul, 1, 0, 0, 0, 0, [], j0m), (.iload_n 2, 1, 2, 0, 0, 0, [], j0m), (.iadd, 1, 0, 0, 0, 0, [], j0m), (.lload_n 3, 1, 3, 0, 0, 0, [], j0m), 
  (.aload_n 0, 1, 0, 0, 0, 0, [], j0m), (.getfield 15, 3, 8, 1, 0, 1, [2212], j0m), j0, j0, (.iload_n 1, 1, 1, 0, 0, 0, [], j0m), (.iaload, 1, 0, 0, 0, 0, [], j0m), (.invokestatic 42, 3, 0, 2, 0, 0, [6107, 6108, 1014, 6109], m_Slots_cut), 
  j0, j0, (.lastore, 1, 0, 0, 0, 0, [], j0m), (.iconst 1, 1, 0, 0, 0, 0, [], j0m), (.ireturn, 1, 0, 0, 1, 0, [], j0m)]
set_option maxRecDepth 20000 in
theorem t_Slots_put : okT m_Slots_put k_Slots_put = true := by decide +kernel
def k_Slots_cut : List jO := [
  (.iload_n 2, 1, 2, 0, 0, 0, [], j0m), (.tableswitch 41 0 2 #[27, 32, 37], 27, 0, 0, 0, 0, [], j0m), j0, j0, j0, j0, j0, j0, j0, j0, j0, j0, j0, j0, j0, j0, j0, j0, j0, j0, j0, j0, j0, j0, j0, j0, j0, 
  j0, (.lload_n 0, 1, 0, 0, 0, 0, [], j0m), (.l2i, 1, 0, 0, 0, 0, [], j0m), (.i2b, 1, 0, 0, 0, 0, [], j0m), (.i2l, 1, 0, 0, 0, 0, [], j0m), (.lreturn, 1, 0, 0, 0, 0, [], j0m), (.lload_n 0, 1, 0, 0, 0, 0, [], j0m), 
  (.l2i, 1, 0, 0, 0, 0, [], j0m), (.i2s, 1, 0, 0, 0, 0, [], j0m), (.i2l, 1, 0, 0, 0, 0, [], j0m), (.lreturn, 1, 0, 0, 0, 0, [], j0m), (.lload_n 0, 1, 0, 0, 0, 0, [], j0m), (.l2i, 1, 0, 0, 0, 0, [], j0m), 
  (.i2l, 1, 0, 0, 0, 0, [], j0m), (.lreturn, 1, 0, 0, 0, 0, [], j0m), (.lload_n 0, 1, 0, 0, 0, 0, [], j0m), (.lreturn, 1, 0, 0, 0, 0, [], j0m)]
set_option maxRecDepth 20000 in
theorem t_Slots_cut : okT m_Slots_cut k_Slots_cut = true := by decide +kernel
def k_Slots_move : List jO := [
  (.aload_n 0, 1, 0, 0, 0, 0, [], j0m), (.iload_n 1, 1, 1, 0, 0, 0, [], j0m), (.iload_n 2, 1, 2, 0, 0, 0, [], j0m), (.iload 5, 2, 5, 0, 0, 0, [], j0m), j0, (.invokevirtual 46, 3, 8, 4, 1, 0, [6118, 6120, 54, 1014, 6121], m_Slots_hasAll), 
  j0, j0, (.ifCond .eq 15, 3, 0, 23, 0, 0, [], j0m), j0, j0, (.aload_n 0, 1, 0, 0, 0, 0, [], j0m), (.iload_n 3, 1, 3, 0, 0, 0, [], j0m), (.iload 4, 2, 4, 0, 0, 0, [], j0m), j0, (.iload 5, 2, 5, 0, 0, 0, [], j0m), 
  j0, (.invokevirtual 46, 3, 8, 4, 1, 0, [6118, 6120, 54, 1014, 6121], m_Slots_hasAll), j0, j0, (.ifCond .ne 5, 3, 0, 25, 0, 0, [], j0m), j0, j0, (.iconst 0, 1, 0, 0, 0, 0, [], j0m), (.ireturn, 1, 0, 0, 1, 0, [], j0m), 
  (.aload_n 0, 1, 0, 0, 0, 0, [], j0m), (.getfield 9, 3, 8, 0, 0, 0, [2211], j0m), j0, j0, (.iload_n 1, 1, 1, 0, 0, 0, [], j0m), (.bipush 60, 2, 0, 0, 0, 0, [], j0m), j0, (.imul, 1, 0, 0, 0, 0, [], j0m), 
  (.iload_n 2, 1, 2, 0, 0, 0, [], j0m), (.iadd, 1, 0, 0, 0, 0, [], j0m), (.aload_n 0, 1, 0, 0, 0, 0, [], j0m), (.getfield 9, 3, 8, 0, 0, 0, [2211], j0m), j0, j0, (.iload_n 3, 1, 3, 0, 0, 0, [], j0m), (.bipush 60, 2, 0, 0, 0, 0, [], j0m), 
  j0, (.imul, 1, 0, 0, 0, 0, [], j0m), (.iload 4, 2, 4, 0, 0, 0, [], j0m), j0, (.iadd, 1, 0, 0, 0, 0, [], j0m), (.iload 5, 2, 5, 0, 0, 0, [], j0m), j0, (.invokestatic 50, 3, 4, 5, 3, 0, [6122, 4009, 4008, 1020], j0m), 
  j0, j0, (.iconst 1, 1, 0, 0, 0, 0, [], j0m), (.ireturn, 1, 0, 0, 1, 0, [], j0m)]
set_option maxRecDepth 20000 in
theorem t_Slots_move : okT m_Slots_move k_Slots_move = true := by decide +kernel
def k_Slots_hasAll : List jO := [
  (.aload_n 0, 1, 0, 0, 0, 0, [], j0m), (.iload_n 1, 1, 1, 0, 0, 0, [], j0m), (.invokevirtual 32, 3, 8, 2, 1, 0, [4091, 4084, 4085, 1014, 4086], m_Slots_isSlot), j0, j0, (.ifCond .eq 17, 3, 0, 22, 0, 0, [], j0m), 
  j0, j0, (.aload_n 0, 1, 0, 0, 0, 0, [], j0m), (.getfield 19, 3, 8, 2, 0, 2, [2213], j0m), j0, j0, (.iload_n 1, 1, 1, 0, 0, 0, [], j0m), (.iaload, 1, 0, 0, 0, 0, [], j0m), (.bipush 60, 2, 0, 0, 0, 0, [], j0m), 
  j0, (.invokestatic 56, 3, 0, 2, 1, 0, [4101, 3076, 1005, 3077], j0m), j0, j0, (.goto 4, 3, 0, 23, 0, 0, [], j0m), j0, j0, (.iconst (-1), 1, 0, 0, 0, 0, [], j0m), (.istore 4, 2, 4, 0, 0, 0, [], j0m), 
  j0, (.iload_n 2, 1, 2, 0, 0, 0, [], j0m), (.ifCond .lt 25, 3, 0, 51, 0, 0, [], j0m), j0, j0, (.iload_n 3, 1, 3, 0, 0, 0, [], j0m), (.ifCond .lt 21, 3, 0, 51, 0, 0, [], j0m), j0, j0, (.iload_n 2, 1, 2, 0, 0, 0, [], j0m), 
  (.iload 4, 2, 4, 0, 0, 0, [], j0m), j0, (.if_icmp .gt 15, 3, 0, 51, 0, 0, [], j0m), j0, j0, (.iload_n 3, 1, 3, 0, 0, 0, [], j0m), (.iload 4, 2, 4, 0, 0, 0, [], j0m), j0, (.iload_n 2, 1, 2, 0, 0, 0, [], j0m), 
  (.isub, 1, 0, 0, 0, 0, [], j0m), (.if_icmp .gt 7, 3, 0, 51, 0, 0, [], j0m), j0, j0, (.iconst 1, 1, 0, 0, 0, 0, [], j0m), (.goto 4, 3, 0, 52, 0, 0, [], j0m), j0, j0, (.iconst 0, 1, 0, 0, 0, 0, [], j0m), 
  (.ireturn, 1, 0, 0, 1, 0, [], j0m)]
set_option maxRecDepth 20000 in
theorem t_Slots_hasAll : okT m_Slots_hasAll k_Slots_hasAll = true := by decide +kernel

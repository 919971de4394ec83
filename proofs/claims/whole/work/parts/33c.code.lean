/-! Code tables -/
def k_Model_init : List jO := [
  (.aload_n 0, 1, 0, 0, 0, 0, [], j0m), (.invokespecial 7, 3, 0, 1, 0, 0, [6128, 1028, 1029], j0m), j0, j0, (.aload_n 0, 1, 0, 0, 0, 0, [], j0m), (.sipush 32677, 3, 0, 0, 0, 0, [], j0m), j0, j0, (.newarray .int, 2, 0, 0, 1, 0, [1137], j0m), 
  j0, (.putfield 13, 3, 12, 1, 0, 1, [6192], j0m), j0, j0, (.aload_n 0, 1, 0, 0, 0, 0, [], j0m), (.ldc 17, 2, 0, 0, 0, 98031, [6129], j0m), j0, (.newarray .int, 2, 0, 0, 1, 0, [1137], j0m), j0, (.putfield 18, 3, 12, 2, 0, 2, [6193], j0m), 
  j0, j0, (.aload_n 0, 1, 0, 0, 0, 0, [], j0m), (.iconst 3, 1, 0, 0, 0, 0, [], j0m), (.newarray .boolean, 2, 0, 0, 3, 0, [1210], j0m), j0, (.putfield 21, 3, 12, 3, 0, 3, [6194], j0m), j0, j0, (.aload_n 0, 1, 0, 0, 0, 0, [], j0m), 
  (.iconst 2, 1, 0, 0, 0, 0, [], j0m), (.newarray .int, 2, 0, 0, 1, 0, [1137], j0m), j0, (.putfield 25, 3, 12, 4, 0, 4, [6195], j0m), j0, j0, (.aload_n 0, 1, 0, 0, 0, 0, [], j0m), (.sipush 680, 3, 0, 0, 0, 0, [], j0m), 
  j0, j0, (.newarray .int, 2, 0, 0, 1, 0, [1137], j0m), j0, (.putfield 28, 3, 12, 5, 0, 5, [6196], j0m), j0, j0, (.aload_n 0, 1, 0, 0, 0, 0, [], j0m), (.sipush 680, 3, 0, 0, 0, 0, [], j0m), j0, j0, (.newarray .int, 2, 0, 0, 1, 0, [1137], j0m), 
  j0, (.putfield 31, 3, 12, 6, 0, 6, [6197], j0m), j0, j0, (.aload_n 0, 1, 0, 0, 0, 0, [], j0m), (.sipush 680, 3, 0, 0, 0, 0, [], j0m), j0, j0, (.newarray .int, 2, 0, 0, 1, 0, [1137], j0m), j0, (.putfield 34, 3, 12, 7, 0, 7, [6198], j0m), 
  j0, j0, (.aload_n 0, 1, 0, 0, 0, 0, [], j0m), (.sipush 14280, 3, 0, 0, 0, 0, [], j0m), j0, j0, (.newarray .int, 2, 0, 0, 1, 0, [1137], j0m), j0, (.putfield 37, 3, 12, 8, 0, 8, [6199], j0m), j0, j0, (.aload_n 0, 1, 0, 0, 0, 0, [], j0m), 
  (.sipush 14280, 3, 0, 0, 0, 0, [], j0m), j0, j0, (.newarray .int, 2, 0, 0, 1, 0, [1137], j0m), j0, (.putfield 40, 3, 12, 9, 0, 9, [6200], j0m), j0, j0, (.aload_n 0, 1, 0, 0, 0, 0, [], j0m), (.sipush 680, 3, 0, 0, 0, 0, [], j0m), 
  j0, j0, (.newarray .int, 2, 0, 0, 1, 0, [1137], j0m), j0, (.putfield 43, 3, 12, 11, 0, 11, [6202], j0m), j0, j0, (.aload_n 0, 1, 0, 0, 0, 0, [], j0m), (.bipush 26, 2, 0, 0, 0, 0, [], j0m), j0, (.newarray .int, 2, 0, 0, 1, 0, [1137], j0m), 
  j0, (.dup, 1, 0, 0, 0, 0, [], j0m), (.iconst 0, 1, 0, 0, 0, 0, [], j0m), (.iconst 0, 1, 0, 0, 0, 0, [], j0m), (.iastore, 1, 0, 0, 0, 0, [], j0m), (.dup, 1, 0, 0, 0, 0, [], j0m), (.iconst 1, 1, 0, 0, 0, 0, [], j0m), 
  (.iconst 1, 1, 0, 0, 0, 0, [], j0m), (.iastore, 1, 0, 0, 0, 0, [], j0m), (.dup, 1, 0, 0, 0, 0, [], j0m), (.iconst 2, 1, 0, 0, 0, 0, [], j0m), (.iconst 2, 1, 0, 0, 0, 0, [], j0m), (.iastore, 1, 0, 0, 0, 0, [], j0m), 
  (.dup, 1, 0, 0, 0, 0, [], j0m), (.iconst 3, 1, 0, 0, 0, 0, [], j0m), (.iconst 3, 1, 0, 0, 0, 0, [], j0m), (.iastore, 1, 0, 0, 0, 0, [], j0m), (.dup, 1, 0, 0, 0, 0, [], j0m), (.iconst 4, 1, 0, 0, 0, 0, [], j0m), 
  (.iconst 4, 1, 0, 0, 0, 0, [], j0m), (.iastore, 1, 0, 0, 0, 0, [], j0m), (.dup, 1, 0, 0, 0, 0, [], j0m), (.iconst 5, 1, 0, 0, 0, 0, [], j0m), (.iconst 5, 1, 0, 0, 0, 0, [], j0m), (.iastore, 1, 0, 0, 0, 0, [], j0m), 
  (.dup, 1, 0, 0, 0, 0, [], j0m), (.bipush 6, 2, 0, 0, 0, 0, [], j0m), j0, (.bipush 6, 2, 0, 0, 0, 0, [], j0m), j0, (.iastore, 1, 0, 0, 0, 0, [], j0m), (.dup, 1, 0, 0, 0, 0, [], j0m), (.bipush 7, 2, 0, 0, 0, 0, [], j0m), 
  j0, (.bipush 7, 2, 0, 0, 0, 0, [], j0m), j0, (.iastore, 1, 0, 0, 0, 0, [], j0m), (.dup, 1, 0, 0, 0, 0, [], j0m), (.bipush 8, 2, 0, 0, 0, 0, [], j0m), j0, (.bipush 8, 2, 0, 0, 0, 0, [], j0m), j0, (.iastore, 1, 0, 0, 0, 0, [], j0m), 
  (.dup, 1, 0, 0, 0, 0, [], j0m), (.bipush 9, 2, 0, 0, 0, 0, [], j0m), j0, (.bipush 9, 2, 0, 0, 0, 0, [], j0m), j0, (.iastore, 1, 0, 0, 0, 0, [], j0m), (.dup, 1, 0, 0, 0, 0, [], j0m), (.bipush 10, 2, 0, 0, 0, 0, [], j0m), 
  j0, (.bipush 10, 2, 0, 0, 0, 0, [], j0m), j0, (.iastore, 1, 0, 0, 0, 0, [], j0m), (.dup, 1, 0, 0, 0, 0, [], j0m), (.bipush 11, 2, 0, 0, 0, 0, [], j0m), j0, (.bipush 11, 2, 0, 0, 0, 0, [], j0m), j0, (.iastore, 1, 0, 0, 0, 0, [], j0m), 
  (.dup, 1, 0, 0, 0, 0, [], j0m), (.bipush 12, 2, 0, 0, 0, 0, [], j0m), j0, (.bipush 12, 2, 0, 0, 0, 0, [], j0m), j0, (.iastore, 1, 0, 0, 0, 0, [], j0m), (.dup, 1, 0, 0, 0, 0, [], j0m), (.bipush 13, 2, 0, 0, 0, 0, [], j0m), 
  j0, (.bipush 13, 2, 0, 0, 0, 0, [], j0m), j0, (.iastore, 1, 0, 0, 0, 0, [], j0m), (.dup, 1, 0, 0, 0, 0, [], j0m), (.bipush 14, 2, 0, 0, 0, 0, [], j0m), j0, (.bipush 14, 2, 0, 0, 0, 0, [], j0m), j0, (.iastore, 1, 0, 0, 0, 0, [], j0m), 
  (.dup, 1, 0, 0, 0, 0, [], j0m), (.bipush 15, 2, 0, 0, 0, 0, [], j0m), j0, (.bipush 15, 2, 0, 0, 0, 0, [], j0m), j0, (.iastore, 1, 0, 0, 0, 0, [], j0m), (.dup, 1, 0, 0, 0, 0, [], j0m), (.bipush 16, 2, 0, 0, 0, 0, [], j0m), 
  j0, (.bipush 16, 2, 0, 0, 0, 0, [], j0m), j0, (.iastore, 1, 0, 0, 0, 0, [], j0m), (.dup, 1, 0, 0, 0, 0, [], j0m), (.bipush 17, 2, 0, 0, 0, 0, [], j0m), j0, (.bipush 17, 2, 0, 0, 0, 0, [], j0m), j0, (.iastore, 1, 0, 0, 0, 0, [], j0m), 
  (.dup, 1, 0, 0, 0, 0, [], j0m), (.bipush 18, 2, 0, 0, 0, 0, [], j0m), j0, (.bipush 18, 2, 0, 0, 0, 0, [], j0m), j0, (.iastore, 1, 0, 0, 0, 0, [], j0m), (.dup, 1, 0, 0, 0, 0, [], j0m), (.bipush 19, 2, 0, 0, 0, 0, [], j0m), 
  j0, (.bipush 19, 2, 0, 0, 0, 0, [], j0m), j0, (.iastore, 1, 0, 0, 0, 0, [], j0m), (.dup, 1, 0, 0, 0, 0, [], j0m), (.bipush 20, 2, 0, 0, 0, 0, [], j0m), j0, (.bipush 20, 2, 0, 0, 0, 0, [], j0m), j0, (.iastore, 1, 0, 0, 0, 0, [], j0m), 
  (.dup, 1, 0, 0, 0, 0, [], j0m), (.bipush 21, 2, 0, 0, 0, 0, [], j0m), j0, (.bipush 21, 2, 0, 0, 0, 0, [], j0m), j0, (.iastore, 1, 0, 0, 0, 0, [], j0m), (.dup, 1, 0, 0, 0, 0, [], j0m), (.bipush 22, 2, 0, 0, 0, 0, [], j0m), 
  j0, (.bipush 22, 2, 0, 0, 0, 0, [], j0m), j0, (.iastore, 1, 0, 0, 0, 0, [], j0m), (.dup, 1, 0, 0, 0, 0, [], j0m), (.bipush 23, 2, 0, 0, 0, 0, [], j0m), j0, (.bipush 23, 2, 0, 0, 0, 0, [], j0m), j0, (.iastore, 1, 0, 0, 0, 0, [], j0m), 
  (.dup, 1, 0, 0, 0, 0, [], j0m), (.bipush 24, 2, 0, 0, 0, 0, [], j0m), j0, (.bipush 24, 2, 0, 0, 0, 0, [], j0m), j0, (.iastore, 1, 0, 0, 0, 0, [], j0m), (.dup, 1, 0, 0, 0, 0, [], j0m), (.bipush 25, 2, 0, 0, 0, 0, [], j0m), 
  j0, (.bipush 25, 2, 0, 0, 0, 0, [], j0m), j0, (.iastore, 1, 0, 0, 0, 0, [], j0m), (.putfield 46, 3, 12, 12, 0, 12, [6203], j0m), j0, j0, (.aload_n 0, 1, 0, 0, 0, 0, [], j0m), (.bipush 21, 2, 0, 0, 0, 0, [], j0m), 
  j0, (.newarray .int, 2, 0, 0, 1, 0, [1137], j0m), j0, (.putfield 49, 3, 12, 13, 0, 13, [6204], j0m), j0, j0, (.aload_n 0, 1, 0, 0, 0, 0, [], j0m), (.sipush 400, 3, 0, 0, 0, 0, [], j0m), j0, j0, (.newarray .byte, 2, 0, 0, 2, 0, [1068], j0m), 
  j0, (.putfield 52, 3, 12, 14, 0, 14, [6205], j0m), j0, j0, (.aload_n 0, 1, 0, 0, 0, 0, [], j0m), (.iconst 5, 1, 0, 0, 0, 0, [], j0m), (.newarray .int, 2, 0, 0, 1, 0, [1137], j0m), j0, (.putfield 56, 3, 12, 16, 0, 16, [6207], j0m), 
  j0, j0, (.aload_n 0, 1, 0, 0, 0, 0, [], j0m), (.iconst (-1), 1, 0, 0, 0, 0, [], j0m), (.putfield 59, 3, 12, 23, 0, 23, [6214], j0m), j0, j0, (.aload_n 0, 1, 0, 0, 0, 0, [], j0m), (.sipush 2597, 3, 0, 0, 0, 0, [], j0m), 
  j0, j0, (.newarray .int, 2, 0, 0, 1, 0, [1137], j0m), j0, (.putfield 62, 3, 12, 24, 0, 24, [6215], j0m), j0, j0, (.aload_n 0, 1, 0, 0, 0, 0, [], j0m), (.bipush 61, 2, 0, 0, 0, 0, [], j0m), j0, (.newarray .int, 2, 0, 0, 1, 0, [1137], j0m), 
  j0, (.putfield 65, 3, 12, 26, 0, 26, [6217], j0m), j0, j0, (.aload_n 0, 1, 0, 0, 0, 0, [], j0m), (.bipush 60, 2, 0, 0, 0, 0, [], j0m), j0, (.newarray .int, 2, 0, 0, 1, 0, [1137], j0m), j0, (.putfield 68, 3, 12, 27, 0, 27, [6218], j0m), 
  j0, j0, (.aload_n 0, 1, 0, 0, 0, 0, [], j0m), (.bipush 10, 2, 0, 0, 0, 0, [], j0m), j0, (.sipush 340, 3, 0, 0, 0, 0, [], j0m), j0, j0, (.multianewarray 71 2, 4, 0, 0, 3, 0, [6130, 1210], j0m), j0, j0, 
  j0, (.putfield 73, 3, 12, 28, 0, 28, [6219], j0m), j0, j0, (.aload_n 0, 1, 0, 0, 0, 0, [], j0m), (.bipush 21, 2, 0, 0, 0, 0, [], j0m), j0, (.newarray .int, 2, 0, 0, 1, 0, [1137], j0m), j0, (.putfield 76, 3, 12, 31, 0, 31, [6222], j0m), 
  j0, j0, (.aload_n 0, 1, 0, 0, 0, 0, [], j0m), (.sipush 1020, 3, 0, 0, 0, 0, [], j0m), j0, j0, (.newarray .int, 2, 0, 0, 1, 0, [1137], j0m), j0, (.putfield 79, 3, 12, 32, 0, 32, [6223], j0m), j0, j0, 
  (.aload_n 0, 1, 0, 0, 0, 0, [], j0m), (.bipush 40, 2, 0, 0, 0, 0, [], j0m), j0, (.newarray .int, 2, 0, 0, 1, 0, [1137], j0m), j0, (.putfield 82, 3, 12, 34, 0, 34, [6225], j0m), j0, j0, (.aload_n 0, 1, 0, 0, 0, 0, [], j0m), 
  (.bipush 8, 2, 0, 0, 0, 0, [], j0m), j0, (.newarray .int, 2, 0, 0, 1, 0, [1137], j0m), j0, (.putfield 85, 3, 12, 35, 0, 35, [6226], j0m), j0, j0, (.aload_n 0, 1, 0, 0, 0, 0, [], j0m), (.ldc 88, 2, 0, 0, 0, 90601, [6132], j0m), 
  j0, (.newarray .int, 2, 0, 0, 1, 0, [1137], j0m), j0, (.putfield 89, 3, 12, 37, 0, 37, [6228], j0m), j0, j0, (.aload_n 0, 1, 0, 0, 0, 0, [], j0m), (.sipush 680, 3, 0, 0, 0, 0, [], j0m), j0, j0, (.newarray .boolean, 2, 0, 0, 3, 0, [1210], j0m), 
  j0, (.putfield 92, 3, 12, 38, 0, 38, [6229], j0m), j0, j0, (.aload_n 0, 1, 0, 0, 0, 0, [], j0m), (.bipush 40, 2, 0, 0, 0, 0, [], j0m), j0, (.newarray .int, 2, 0, 0, 1, 0, [1137], j0m), j0, (.putfield 95, 3, 12, 39, 0, 39, [6230], j0m), 
  j0, j0, (.aload_n 0, 1, 0, 0, 0, 0, [], j0m), (.bipush 40, 2, 0, 0, 0, 0, [], j0m), j0, (.newarray .int, 2, 0, 0, 1, 0, [1137], j0m), j0, (.putfield 98, 3, 12, 40, 0, 40, [6231], j0m), j0, j0, (.aload_n 0, 1, 0, 0, 0, 0, [], j0m), 
  (.sipush 680, 3, 0, 0, 0, 0, [], j0m), j0, j0, (.newarray .int, 2, 0, 0, 1, 0, [1137], j0m), j0, (.putfield 101, 3, 12, 42, 0, 42, [6233], j0m), j0, j0, (.aload_n 0, 1, 0, 0, 0, 0, [], j0m), (.sipush 400, 3, 0, 0, 0, 0, [], j0m), 
  j0, j0, (.newarray .int, 2, 0, 0, 1, 0, [1137], j0m), j0, (.putfield 104, 3, 12, 44, 0, 44, [6235], j0m), j0, j0, (.aload_n 0, 1, 0, 0, 0, 0, [], j0m), (.sipush 680, 3, 0, 0, 0, 0, [], j0m), j0, j0, 
  (.newarray .int, 2, 0, 0, 1, 0, [1137], j0m), j0, (.putfield 107, 3, 12, 45, 0, 45, [6236], j0m), j0, j0, (.aload_n 0, 1, 0, 0, 0, 0, [], j0m), (.iconst 4, 1, 0, 0, 0, 0, [], j0m), (.newarray .int, 2, 0, 0, 1, 0, [1137], j0m), 
  j0, (.dup, 1, 0, 0, 0, 0, [], j0m), (.iconst 0, 1, 0, 0, 0, 0, [], j0m), (.iconst (-1), 1, 0, 0, 0, 0, [], j0m), (.iastore, 1, 0, 0, 0, 0, [], j0m), (.dup, 1, 0, 0, 0, 0, [], j0m), (.iconst 1, 1, 0, 0, 0, 0, [], j0m), 
  (.iconst (-1), 1, 0, 0, 0, 0, [], j0m), (.iastore, 1, 0, 0, 0, 0, [], j0m), (.dup, 1, 0, 0, 0, 0, [], j0m), (.iconst 2, 1, 0, 0, 0, 0, [], j0m), (.iconst (-1), 1, 0, 0, 0, 0, [], j0m), (.iastore, 1, 0, 0, 0, 0, [], j0m), 
  (.dup, 1, 0, 0, 0, 0, [], j0m), (.iconst 3, 1, 0, 0, 0, 0, [], j0m), (.iconst (-1), 1, 0, 0, 0, 0, [], j0m), (.iastore, 1, 0, 0, 0, 0, [], j0m), (.putfield 110, 3, 12, 47, 0, 47, [6238], j0m), j0, j0, 
  (.aload_n 0, 1, 0, 0, 0, 0, [], j0m), (.iconst 4, 1, 0, 0, 0, 0, [], j0m), (.newarray .int, 2, 0, 0, 1, 0, [1137], j0m), j0, (.putfield 113, 3, 12, 48, 0, 48, [6239], j0m), j0, j0, (.aload_n 0, 1, 0, 0, 0, 0, [], j0m), 
  (.sipush 240, 3, 0, 0, 0, 0, [], j0m), j0, j0, (.newarray .long, 2, 0, 0, 4, 0, [1069], j0m), j0, (.putfield 116, 3, 12, 49, 0, 49, [7000], j0m), j0, j0, (.aload_n 0, 1, 0, 0, 0, 0, [], j0m), (.bipush 60, 2, 0, 0, 0, 0, [], j0m), 
  j0, (.newarray .long, 2, 0, 0, 4, 0, [1069], j0m), j0, (.putfield 120, 3, 12, 50, 0, 50, [7001], j0m), j0, j0, (.aload_n 0, 1, 0, 0, 0, 0, [], j0m), (.getfield 13, 3, 12, 1, 0, 1, [6192], j0m), j0, j0, 
  (.invokestatic 123, 3, 0, 1, 0, 0, [6133, 6134, 1015, 6135], m_Model_plain), j0, j0, (.aload_n 0, 1, 0, 0, 0, 0, [], j0m), (.invokevirtual 127, 3, 12, 1, 1, 0, [6136, 6138, 55, 1015, 6139], m_Model_makes), 
  j0, j0, (.return_, 1, 0, 0, 0, 0, [], j0m)]
set_option maxRecDepth 20000 in
theorem t_Model_init : okT m_Model_init k_Model_init = true := by decide +kernel
def k_Model_plain : List jO := [
  (.iconst 0, 1, 0, 0, 0, 0, [], j0m), (.istore_n 1, 1, 1, 0, 0, 0, [], j0m), (.iload_n 1, 1, 1, 0, 0, 0, [], j0m), (.sipush 2597, 3, 0, 0, 0, 0, [], j0m), j0, j0, (.if_icmp .ge 29, 3, 0, 35, 0, 0, [], j0m), 
  j0, j0, (.aload_n 0, 1, 0, 0, 0, 0, [], j0m), (.iload_n 1, 1, 1, 0, 0, 0, [], j0m), (.iload_n 1, 1, 1, 0, 0, 0, [], j0m), (.iconst 3, 1, 0, 0, 0, 0, [], j0m), (.if_icmp .lt 14, 3, 0, 27, 0, 0, [], j0m), 
  j0, j0, (.iload_n 1, 1, 1, 0, 0, 0, [], j0m), (.iconst 5, 1, 0, 0, 0, 0, [], j0m), (.if_icmp .ge 9, 3, 0, 27, 0, 0, [], j0m), j0, j0, (.aload_n 0, 1, 0, 0, 0, 0, [], j0m), (.iload_n 1, 1, 1, 0, 0, 0, [], j0m), 
  (.iaload, 1, 0, 0, 0, 0, [], j0m), (.goto 4, 3, 0, 28, 0, 0, [], j0m), j0, j0, (.iconst 0, 1, 0, 0, 0, 0, [], j0m), (.iastore, 1, 0, 0, 0, 0, [], j0m), (.iinc 1 1, 3, 1, 0, 0, 0, [], j0m), j0, j0, (.goto (-30), 3, 0, 2, 0, 0, [], j0m), 
  j0, j0, (.iconst 0, 1, 0, 0, 0, 0, [], j0m), (.istore_n 1, 1, 1, 0, 0, 0, [], j0m), (.iload_n 1, 1, 1, 0, 0, 0, [], j0m), (.bipush 26, 2, 0, 0, 0, 0, [], j0m), j0, (.if_icmp .ge 22, 3, 0, 62, 0, 0, [], j0m), 
  j0, j0, (.aload_n 0, 1, 0, 0, 0, 0, [], j0m), (.iconst 5, 1, 0, 0, 0, 0, [], j0m), (.iload_n 1, 1, 1, 0, 0, 0, [], j0m), (.iadd, 1, 0, 0, 0, 0, [], j0m), (.iconst (-1), 1, 0, 0, 0, 0, [], j0m), (.iastore, 1, 0, 0, 0, 0, [], j0m), 
  (.aload_n 0, 1, 0, 0, 0, 0, [], j0m), (.bipush 31, 2, 0, 0, 0, 0, [], j0m), j0, (.iload_n 1, 1, 1, 0, 0, 0, [], j0m), (.iadd, 1, 0, 0, 0, 0, [], j0m), (.iload_n 1, 1, 1, 0, 0, 0, [], j0m), (.iastore, 1, 0, 0, 0, 0, [], j0m), 
  (.iinc 1 1, 3, 1, 0, 0, 0, [], j0m), j0, j0, (.goto (-22), 3, 0, 37, 0, 0, [], j0m), j0, j0, (.return_, 1, 0, 0, 0, 0, [], j0m)]
set_option maxRecDepth 20000 in
theorem t_Model_plain : okT m_Model_plain k_Model_plain = true := by decide +kernel
def k_Model_makes : List jO := [
  (.aload_n 0, 1, 0, 0, 0, 0, [], j0m), (.iconst 0, 1, 0, 0, 0, 0, [], j0m), (.putfield 169, 3, 12, 10, 0, 10, [6201], j0m), j0, j0, (.iconst 0, 1, 0, 0, 0, 0, [], j0m), (.istore_n 1, 1, 1, 0, 0, 0, [], j0m), 
  (.iload_n 1, 1, 1, 0, 0, 0, [], j0m), (.iconst 2, 1, 0, 0, 0, 0, [], j0m), (.if_icmp .ge 46, 3, 0, 55, 0, 0, [], j0m), j0, j0, (.aload_n 0, 1, 0, 0, 0, 0, [], j0m), (.iload_n 1, 1, 1, 0, 0, 0, [], j0m), 
  (.invokevirtual 184, 3, 12, 2, 1, 0, [6140, 6142, 56, 1015, 6143], m_Model_makesWords), j0, j0, (.iconst 0, 1, 0, 0, 0, 0, [], j0m), (.istore_n 2, 1, 2, 0, 0, 0, [], j0m), (.iload_n 2, 1, 2, 0, 0, 0, [], j0m), 
  (.aload_n 0, 1, 0, 0, 0, 0, [], j0m), (.getfield 25, 3, 12, 4, 0, 4, [6195], j0m), j0, j0, (.iload_n 1, 1, 1, 0, 0, 0, [], j0m), (.iaload, 1, 0, 0, 0, 0, [], j0m), (.if_icmp .ge 23, 3, 0, 49, 0, 0, [], j0m), 
  j0, j0, (.aload_n 0, 1, 0, 0, 0, 0, [], j0m), (.bipush 21, 2, 0, 0, 0, 0, [], j0m), j0, (.sipush 340, 3, 0, 0, 0, 0, [], j0m), j0, j0, (.iload_n 1, 1, 1, 0, 0, 0, [], j0m), (.imul, 1, 0, 0, 0, 0, [], j0m), 
  (.iload_n 2, 1, 2, 0, 0, 0, [], j0m), (.iadd, 1, 0, 0, 0, 0, [], j0m), (.imul, 1, 0, 0, 0, 0, [], j0m), (.invokevirtual 188, 3, 12, 2, 1, 0, [6178, 6180, 64, 1015, 6181], m_Model_comes), j0, j0, (.iinc 2 1, 3, 2, 0, 0, 0, [], j0m), 
  j0, j0, (.goto (-27), 3, 0, 19, 0, 0, [], j0m), j0, j0, (.iinc 1 1, 3, 1, 0, 0, 0, [], j0m), j0, j0, (.goto (-45), 3, 0, 7, 0, 0, [], j0m), j0, j0, (.iconst 0, 1, 0, 0, 0, 0, [], j0m), (.istore_n 1, 1, 1, 0, 0, 0, [], j0m), 
  (.iload_n 1, 1, 1, 0, 0, 0, [], j0m), (.iconst 2, 1, 0, 0, 0, 0, [], j0m), (.if_icmp .ge 57, 3, 0, 116, 0, 0, [], j0m), j0, j0, (.iconst 0, 1, 0, 0, 0, 0, [], j0m), (.istore_n 2, 1, 2, 0, 0, 0, [], j0m), 
  (.iload_n 2, 1, 2, 0, 0, 0, [], j0m), (.aload_n 0, 1, 0, 0, 0, 0, [], j0m), (.getfield 25, 3, 12, 4, 0, 4, [6195], j0m), j0, j0, (.iload_n 1, 1, 1, 0, 0, 0, [], j0m), (.iaload, 1, 0, 0, 0, 0, [], j0m), 
  (.if_icmp .ge 39, 3, 0, 110, 0, 0, [], j0m), j0, j0, (.aload_n 0, 1, 0, 0, 0, 0, [], j0m), (.getfield 28, 3, 12, 5, 0, 5, [6196], j0m), j0, j0, (.sipush 340, 3, 0, 0, 0, 0, [], j0m), j0, j0, (.iload_n 1, 1, 1, 0, 0, 0, [], j0m), 
  (.imul, 1, 0, 0, 0, 0, [], j0m), (.iload_n 2, 1, 2, 0, 0, 0, [], j0m), (.iadd, 1, 0, 0, 0, 0, [], j0m), (.aload_n 0, 1, 0, 0, 0, 0, [], j0m), (.aload_n 0, 1, 0, 0, 0, 0, [], j0m), (.getfield 37, 3, 12, 8, 0, 8, [6199], j0m), 
  j0, j0, (.bipush 21, 2, 0, 0, 0, 0, [], j0m), j0, (.sipush 340, 3, 0, 0, 0, 0, [], j0m), j0, j0, (.iload_n 1, 1, 1, 0, 0, 0, [], j0m), (.imul, 1, 0, 0, 0, 0, [], j0m), (.iload_n 2, 1, 2, 0, 0, 0, [], j0m), 
  (.iadd, 1, 0, 0, 0, 0, [], j0m), (.imul, 1, 0, 0, 0, 0, [], j0m), (.invokevirtual 176, 3, 12, 3, 1, 0, [6182, 6184, 65, 1015, 6185], m_Model_find), j0, j0, (.iastore, 1, 0, 0, 0, 0, [], j0m), (.iinc 2 1, 3, 2, 0, 0, 0, [], j0m), 
  j0, j0, (.goto (-43), 3, 0, 64, 0, 0, [], j0m), j0, j0, (.iinc 1 1, 3, 1, 0, 0, 0, [], j0m), j0, j0, (.goto (-56), 3, 0, 57, 0, 0, [], j0m), j0, j0, (.iconst 0, 1, 0, 0, 0, 0, [], j0m), (.istore_n 1, 1, 1, 0, 0, 0, [], j0m), 
  (.iload_n 1, 1, 1, 0, 0, 0, [], j0m), (.aload_n 0, 1, 0, 0, 0, 0, [], j0m), (.getfield 169, 3, 12, 10, 0, 10, [6201], j0m), j0, j0, (.if_icmp .ge 77, 3, 0, 200, 0, 0, [], j0m), j0, j0, (.iload_n 1, 1, 1, 0, 0, 0, [], j0m), 
  (.istore_n 2, 1, 2, 0, 0, 0, [], j0m), (.iload_n 2, 1, 2, 0, 0, 0, [], j0m), (.ifCond .le 58, 3, 0, 187, 0, 0, [], j0m), j0, j0, (.aload_n 0, 1, 0, 0, 0, 0, [], j0m), (.getfield 40, 3, 12, 9, 0, 9, [6200], j0m), 
  j0, j0, (.bipush 21, 2, 0, 0, 0, 0, [], j0m), j0, (.iload_n 1, 1, 1, 0, 0, 0, [], j0m), (.imul, 1, 0, 0, 0, 0, [], j0m), (.aload_n 0, 1, 0, 0, 0, 0, [], j0m), (.getfield 40, 3, 12, 9, 0, 9, [6200], j0m), 
  j0, j0, (.bipush 21, 2, 0, 0, 0, 0, [], j0m), j0, (.aload_n 0, 1, 0, 0, 0, 0, [], j0m), (.getfield 43, 3, 12, 11, 0, 11, [6202], j0m), j0, j0, (.iload_n 2, 1, 2, 0, 0, 0, [], j0m), (.iconst 1, 1, 0, 0, 0, 0, [], j0m), 
  (.isub, 1, 0, 0, 0, 0, [], j0m), (.iaload, 1, 0, 0, 0, 0, [], j0m), (.imul, 1, 0, 0, 0, 0, [], j0m), (.aload_n 0, 1, 0, 0, 0, 0, [], j0m), (.getfield 13, 3, 12, 1, 0, 1, [6192], j0m), j0, j0, (.bipush 31, 2, 0, 0, 0, 0, [], j0m), 
  j0, (.invokestatic 172, 3, 0, 6, 0, 0, [6186, 6187, 1015, 6188], m_Model_compare), j0, j0, (.ifCond .ge 23, 3, 0, 187, 0, 0, [], j0m), j0, j0, (.aload_n 0, 1, 0, 0, 0, 0, [], j0m), (.getfield 43, 3, 12, 11, 0, 11, [6202], j0m), 
  j0, j0, (.iload_n 2, 1, 2, 0, 0, 0, [], j0m), (.aload_n 0, 1, 0, 0, 0, 0, [], j0m), (.getfield 43, 3, 12, 11, 0, 11, [6202], j0m), j0, j0, (.iload_n 2, 1, 2, 0, 0, 0, [], j0m), (.iconst 1, 1, 0, 0, 0, 0, [], j0m), 
  (.isub, 1, 0, 0, 0, 0, [], j0m), (.iaload, 1, 0, 0, 0, 0, [], j0m), (.iastore, 1, 0, 0, 0, 0, [], j0m), (.iinc 2 (-1), 3, 2, 0, 0, 0, [], j0m), j0, j0, (.goto (-56), 3, 0, 128, 0, 0, [], j0m), j0, j0, 
  (.aload_n 0, 1, 0, 0, 0, 0, [], j0m), (.getfield 43, 3, 12, 11, 0, 11, [6202], j0m), j0, j0, (.iload_n 2, 1, 2, 0, 0, 0, [], j0m), (.iload_n 1, 1, 1, 0, 0, 0, [], j0m), (.iastore, 1, 0, 0, 0, 0, [], j0m), 
  (.iinc 1 1, 3, 1, 0, 0, 0, [], j0m), j0, j0, (.goto (-79), 3, 0, 118, 0, 0, [], j0m), j0, j0, (.return_, 1, 0, 0, 0, 0, [], j0m)]
set_option maxRecDepth 20000 in
theorem t_Model_makes : okT m_Model_makes k_Model_makes = true := by decide +kernel
def k_Model_makesWords : List jO := [
  (.aload_n 0, 1, 0, 0, 0, 0, [], j0m), (.getfield 25, 3, 12, 4, 0, 4, [6195], j0m), j0, j0, (.iload_n 1, 1, 1, 0, 0, 0, [], j0m), (.iconst 0, 1, 0, 0, 0, 0, [], j0m), (.iastore, 1, 0, 0, 0, 0, [], j0m), 
  (.iconst 0, 1, 0, 0, 0, 0, [], j0m), (.istore_n 2, 1, 2, 0, 0, 0, [], j0m), (.iconst 0, 1, 0, 0, 0, 0, [], j0m), (.istore_n 3, 1, 3, 0, 0, 0, [], j0m), (.iload_n 3, 1, 3, 0, 0, 0, [], j0m), (.aload_n 0, 1, 0, 0, 0, 0, [], j0m), 
  (.iload_n 1, 1, 1, 0, 0, 0, [], j0m), (.invokevirtual 148, 3, 12, 2, 1, 0, [6144, 6146, 57, 1015, 6147], m_Model_linesOf), j0, j0, (.if_icmp .ge 185, 3, 0, 202, 0, 0, [], j0m), j0, j0, (.aload_n 0, 1, 0, 0, 0, 0, [], j0m), 
  (.iload_n 1, 1, 1, 0, 0, 0, [], j0m), (.iload_n 3, 1, 3, 0, 0, 0, [], j0m), (.iconst 0, 1, 0, 0, 0, 0, [], j0m), (.invokevirtual 152, 3, 12, 4, 1, 0, [6148, 6150, 58, 1015, 6151], m_Model_runFrom), j0, 
  j0, (.istore 4, 2, 4, 0, 0, 0, [], j0m), j0, (.iload 4, 2, 4, 0, 0, 0, [], j0m), j0, (.iconst (-1), 1, 0, 0, 0, 0, [], j0m), (.if_icmp .eq 164, 3, 0, 196, 0, 0, [], j0m), j0, j0, (.aload_n 0, 1, 0, 0, 0, 0, [], j0m), 
  (.iload_n 1, 1, 1, 0, 0, 0, [], j0m), (.iload_n 3, 1, 3, 0, 0, 0, [], j0m), (.iload 4, 2, 4, 0, 0, 0, [], j0m), j0, (.invokevirtual 158, 3, 12, 4, 1, 0, [6162, 6164, 60, 1015, 6165], m_Model_runEnd), 
  j0, j0, (.istore 5, 2, 5, 0, 0, 0, [], j0m), j0, (.sipush 340, 3, 0, 0, 0, 0, [], j0m), j0, j0, (.iload_n 1, 1, 1, 0, 0, 0, [], j0m), (.imul, 1, 0, 0, 0, 0, [], j0m), (.aload_n 0, 1, 0, 0, 0, 0, [], j0m), 
  (.getfield 25, 3, 12, 4, 0, 4, [6195], j0m), j0, j0, (.iload_n 1, 1, 1, 0, 0, 0, [], j0m), (.iaload, 1, 0, 0, 0, 0, [], j0m), (.iadd, 1, 0, 0, 0, 0, [], j0m), (.iload_n 2, 1, 2, 0, 0, 0, [], j0m), (.ifCond .eq 7, 3, 0, 65, 0, 0, [], j0m), 
  j0, j0, (.iconst 1, 1, 0, 0, 0, 0, [], j0m), (.goto 4, 3, 0, 66, 0, 0, [], j0m), j0, j0, (.iconst 0, 1, 0, 0, 0, 0, [], j0m), (.isub, 1, 0, 0, 0, 0, [], j0m), (.istore 6, 2, 6, 0, 0, 0, [], j0m), j0, 
  (.iload_n 2, 1, 2, 0, 0, 0, [], j0m), (.ifCond .ne 40, 3, 0, 110, 0, 0, [], j0m), j0, j0, (.aload_n 0, 1, 0, 0, 0, 0, [], j0m), (.getfield 25, 3, 12, 4, 0, 4, [6195], j0m), j0, j0, (.iload_n 1, 1, 1, 0, 0, 0, [], j0m), 
  (.dup2, 1, 0, 0, 0, 0, [], j0m), (.iaload, 1, 0, 0, 0, 0, [], j0m), (.iconst 1, 1, 0, 0, 0, 0, [], j0m), (.iadd, 1, 0, 0, 0, 0, [], j0m), (.iastore, 1, 0, 0, 0, 0, [], j0m), (.aload_n 0, 1, 0, 0, 0, 0, [], j0m), 
  (.getfield 37, 3, 12, 8, 0, 8, [6199], j0m), j0, j0, (.bipush 21, 2, 0, 0, 0, 0, [], j0m), j0, (.iload 6, 2, 6, 0, 0, 0, [], j0m), j0, (.imul, 1, 0, 0, 0, 0, [], j0m), (.iconst 0, 1, 0, 0, 0, 0, [], j0m), 
  (.iastore, 1, 0, 0, 0, 0, [], j0m), (.aload_n 0, 1, 0, 0, 0, 0, [], j0m), (.getfield 31, 3, 12, 6, 0, 6, [6197], j0m), j0, j0, (.iload 6, 2, 6, 0, 0, 0, [], j0m), j0, (.iload_n 3, 1, 3, 0, 0, 0, [], j0m), 
  (.iastore, 1, 0, 0, 0, 0, [], j0m), (.aload_n 0, 1, 0, 0, 0, 0, [], j0m), (.getfield 34, 3, 12, 7, 0, 7, [6198], j0m), j0, j0, (.iload 6, 2, 6, 0, 0, 0, [], j0m), j0, (.iconst 0, 1, 0, 0, 0, 0, [], j0m), 
  (.iastore, 1, 0, 0, 0, 0, [], j0m), (.iload 4, 2, 4, 0, 0, 0, [], j0m), j0, (.istore 7, 2, 7, 0, 0, 0, [], j0m), j0, (.iload 7, 2, 7, 0, 0, 0, [], j0m), j0, (.iload 5, 2, 5, 0, 0, 0, [], j0m), j0, (.if_icmp .ge 26, 3, 0, 144, 0, 0, [], j0m), 
  j0, j0, (.aload_n 0, 1, 0, 0, 0, 0, [], j0m), (.bipush 21, 2, 0, 0, 0, 0, [], j0m), j0, (.iload 6, 2, 6, 0, 0, 0, [], j0m), j0, (.imul, 1, 0, 0, 0, 0, [], j0m), (.aload_n 0, 1, 0, 0, 0, 0, [], j0m), 
  (.iload_n 1, 1, 1, 0, 0, 0, [], j0m), (.iload_n 3, 1, 3, 0, 0, 0, [], j0m), (.iload 7, 2, 7, 0, 0, 0, [], j0m), j0, (.invokevirtual 140, 3, 12, 4, 1, 0, [6155, 6157, 59, 1015, 6158], m_Model_byteOf), 
  j0, j0, (.invokevirtual 161, 3, 12, 3, 1, 0, [6166, 6168, 61, 1015, 6169], m_Model_adds), j0, j0, (.iinc 7 1, 3, 7, 0, 0, 0, [], j0m), j0, j0, (.goto (-27), 3, 0, 114, 0, 0, [], j0m), j0, j0, (.aload_n 0, 1, 0, 0, 0, 0, [], j0m), 
  (.iload_n 1, 1, 1, 0, 0, 0, [], j0m), (.iload_n 3, 1, 3, 0, 0, 0, [], j0m), (.iload 5, 2, 5, 0, 0, 0, [], j0m), j0, (.invokevirtual 165, 3, 12, 4, 1, 0, [6174, 6176, 63, 1015, 6177], m_Model_isCut), 
  j0, j0, (.istore_n 2, 1, 2, 0, 0, 0, [], j0m), (.aload_n 0, 1, 0, 0, 0, 0, [], j0m), (.getfield 34, 3, 12, 7, 0, 7, [6198], j0m), j0, j0, (.iload 6, 2, 6, 0, 0, 0, [], j0m), j0, (.iload_n 2, 1, 2, 0, 0, 0, [], j0m), 
  (.ifCond .eq 7, 3, 0, 167, 0, 0, [], j0m), j0, j0, (.iconst 1, 1, 0, 0, 0, 0, [], j0m), (.goto 10, 3, 0, 174, 0, 0, [], j0m), j0, j0, (.aload_n 0, 1, 0, 0, 0, 0, [], j0m), (.getfield 34, 3, 12, 7, 0, 7, [6198], j0m), 
  j0, j0, (.iload 6, 2, 6, 0, 0, 0, [], j0m), j0, (.iaload, 1, 0, 0, 0, 0, [], j0m), (.iastore, 1, 0, 0, 0, 0, [], j0m), (.iload_n 2, 1, 2, 0, 0, 0, [], j0m), (.ifCond .eq 7, 3, 0, 183, 0, 0, [], j0m), 
  j0, j0, (.iconst (-1), 1, 0, 0, 0, 0, [], j0m), (.goto 11, 3, 0, 191, 0, 0, [], j0m), j0, j0, (.aload_n 0, 1, 0, 0, 0, 0, [], j0m), (.iload_n 1, 1, 1, 0, 0, 0, [], j0m), (.iload_n 3, 1, 3, 0, 0, 0, [], j0m), 
  (.iload 5, 2, 5, 0, 0, 0, [], j0m), j0, (.invokevirtual 152, 3, 12, 4, 1, 0, [6148, 6150, 58, 1015, 6151], m_Model_runFrom), j0, j0, (.istore 4, 2, 4, 0, 0, 0, [], j0m), j0, (.goto (-164), 3, 0, 29, 0, 0, [], j0m), 
  j0, j0, (.iinc 3 1, 3, 3, 0, 0, 0, [], j0m), j0, j0, (.goto (-188), 3, 0, 11, 0, 0, [], j0m), j0, j0, (.return_, 1, 0, 0, 0, 0, [], j0m)]
set_option maxRecDepth 20000 in
theorem t_Model_makesWords : okT m_Model_makesWords k_Model_makesWords = true := by decide +kernel
def k_Model_linesOf : List jO := [
  (.aload_n 0, 1, 0, 0, 0, 0, [], j0m), (.getfield 13, 3, 12, 1, 0, 1, [6192], j0m), j0, j0, (.iconst 3, 1, 0, 0, 0, 0, [], j0m), (.iload_n 1, 1, 1, 0, 0, 0, [], j0m), (.iadd, 1, 0, 0, 0, 0, [], j0m), 
  (.iaload, 1, 0, 0, 0, 0, [], j0m), (.ireturn, 1, 0, 0, 0, 0, [], j0m)]
set_option maxRecDepth 20000 in
theorem t_Model_linesOf : okT m_Model_linesOf k_Model_linesOf = true := by decide +kernel
def k_Model_runFrom : List jO := [
  (.iload_n 3, 1, 3, 0, 0, 0, [], j0m), (.istore 4, 2, 4, 0, 0, 0, [], j0m), j0, (.iload 4, 2, 4, 0, 0, 0, [], j0m), j0, (.aload_n 0, 1, 0, 0, 0, 0, [], j0m), (.getfield 13, 3, 12, 1, 0, 1, [6192], j0m), 
  j0, j0, (.iload_n 1, 1, 1, 0, 0, 0, [], j0m), (.iload_n 2, 1, 2, 0, 0, 0, [], j0m), (.invokestatic 136, 3, 0, 2, 0, 0, [6152, 6153, 1015, 6154], m_Model_lineAt), j0, j0, (.iaload, 1, 0, 0, 0, 0, [], j0m), 
  (.if_icmp .ge 26, 3, 0, 41, 0, 0, [], j0m), j0, j0, (.aload_n 0, 1, 0, 0, 0, 0, [], j0m), (.iload_n 1, 1, 1, 0, 0, 0, [], j0m), (.iload_n 2, 1, 2, 0, 0, 0, [], j0m), (.iload 4, 2, 4, 0, 0, 0, [], j0m), 
  j0, (.invokevirtual 140, 3, 12, 4, 1, 0, [6155, 6157, 59, 1015, 6158], m_Model_byteOf), j0, j0, (.invokestatic 144, 3, 0, 1, 0, 0, [6159, 6160, 1015, 6161], m_Model_isLetter), j0, j0, (.ifCond .eq 6, 3, 0, 35, 0, 0, [], j0m), 
  j0, j0, (.iload 4, 2, 4, 0, 0, 0, [], j0m), j0, (.ireturn, 1, 0, 0, 0, 0, [], j0m), (.iinc 4 1, 3, 4, 0, 0, 0, [], j0m), j0, j0, (.goto (-35), 3, 0, 3, 0, 0, [], j0m), j0, j0, (.iconst (-1), 1, 0, 0, 0, 0, [], j0m), 
  (.ireturn, 1, 0, 0, 0, 0, [], j0m)]
set_option maxRecDepth 20000 in
theorem t_Model_runFrom : okT m_Model_runFrom k_Model_runFrom = true := by decide +kernel
def k_Model_lineAt : List jO := [
  (.sipush 2597, 3, 0, 0, 0, 0, [], j0m), j0, j0, (.bipush 61, 2, 0, 0, 0, 0, [], j0m), j0, (.bipush 40, 2, 0, 0, 0, 0, [], j0m), j0, (.iload_n 0, 1, 0, 0, 0, 0, [], j0m), (.imul, 1, 0, 0, 0, 0, [], j0m), 
  (.iload_n 1, 1, 1, 0, 0, 0, [], j0m), (.iadd, 1, 0, 0, 0, 0, [], j0m), (.imul, 1, 0, 0, 0, 0, [], j0m), (.iadd, 1, 0, 0, 0, 0, [], j0m), (.ireturn, 1, 0, 0, 0, 0, [], j0m)]
set_option maxRecDepth 20000 in
theorem t_Model_lineAt : okT m_Model_lineAt k_Model_lineAt = true := by decide +kernel
def k_Model_byteOf : List jO := [
  (.iload_n 3, 1, 3, 0, 0, 0, [], j0m), (.aload_n 0, 1, 0, 0, 0, 0, [], j0m), (.getfield 13, 3, 12, 1, 0, 1, [6192], j0m), j0, j0, (.iload_n 1, 1, 1, 0, 0, 0, [], j0m), (.iload_n 2, 1, 2, 0, 0, 0, [], j0m), 
  (.invokestatic 136, 3, 0, 2, 0, 0, [6152, 6153, 1015, 6154], m_Model_lineAt), j0, j0, (.iaload, 1, 0, 0, 0, 0, [], j0m), (.if_icmp .ge 20, 3, 0, 31, 0, 0, [], j0m), j0, j0, (.aload_n 0, 1, 0, 0, 0, 0, [], j0m), 
  (.getfield 13, 3, 12, 1, 0, 1, [6192], j0m), j0, j0, (.iload_n 1, 1, 1, 0, 0, 0, [], j0m), (.iload_n 2, 1, 2, 0, 0, 0, [], j0m), (.invokestatic 136, 3, 0, 2, 0, 0, [6152, 6153, 1015, 6154], m_Model_lineAt), 
  j0, j0, (.iconst 1, 1, 0, 0, 0, 0, [], j0m), (.iadd, 1, 0, 0, 0, 0, [], j0m), (.iload_n 3, 1, 3, 0, 0, 0, [], j0m), (.iadd, 1, 0, 0, 0, 0, [], j0m), (.iaload, 1, 0, 0, 0, 0, [], j0m), (.goto 4, 3, 0, 32, 0, 0, [], j0m), 
  j0, j0, (.iconst (-1), 1, 0, 0, 0, 0, [], j0m), (.ireturn, 1, 0, 0, 0, 0, [], j0m)]
set_option maxRecDepth 20000 in
theorem t_Model_byteOf : okT m_Model_byteOf k_Model_byteOf = true := by decide +kernel
def k_Model_isLetter : List jO := [
  (.iload_n 0, 1, 0, 0, 0, 0, [], j0m), (.bipush 97, 2, 0, 0, 0, 0, [], j0m), j0, (.if_icmp .lt 13, 3, 0, 16, 0, 0, [], j0m), j0, j0, (.iload_n 0, 1, 0, 0, 0, 0, [], j0m), (.bipush 122, 2, 0, 0, 0, 0, [], j0m), 
  j0, (.if_icmp .gt 7, 3, 0, 16, 0, 0, [], j0m), j0, j0, (.iconst 1, 1, 0, 0, 0, 0, [], j0m), (.goto 4, 3, 0, 17, 0, 0, [], j0m), j0, j0, (.iconst 0, 1, 0, 0, 0, 0, [], j0m), (.ireturn, 1, 0, 0, 1, 0, [], j0m)
  ]
set_option maxRecDepth 20000 in
theorem t_Model_isLetter : okT m_Model_isLetter k_Model_isLetter = true := by decide +kernel
def k_Model_runEnd : List jO := [
  (.iload_n 3, 1, 3, 0, 0, 0, [], j0m), (.istore 4, 2, 4, 0, 0, 0, [], j0m), j0, (.aload_n 0, 1, 0, 0, 0, 0, [], j0m), (.iload_n 1, 1, 1, 0, 0, 0, [], j0m), (.iload_n 2, 1, 2, 0, 0, 0, [], j0m), (.iload 4, 2, 4, 0, 0, 0, [], j0m), 
  j0, (.invokevirtual 140, 3, 12, 4, 1, 0, [6155, 6157, 59, 1015, 6158], m_Model_byteOf), j0, j0, (.invokestatic 144, 3, 0, 1, 0, 0, [6159, 6160, 1015, 6161], m_Model_isLetter), j0, j0, (.ifCond .eq 9, 3, 0, 23, 0, 0, [], j0m), 
  j0, j0, (.iinc 4 1, 3, 4, 0, 0, 0, [], j0m), j0, j0, (.goto (-17), 3, 0, 3, 0, 0, [], j0m), j0, j0, (.iload 4, 2, 4, 0, 0, 0, [], j0m), j0, (.ireturn, 1, 0, 0, 0, 0, [], j0m)]
set_option maxRecDepth 20000 in
theorem t_Model_runEnd : okT m_Model_runEnd k_Model_runEnd = true := by decide +kernel
def k_Model_adds : List jO := [
  (.aload_n 0, 1, 0, 0, 0, 0, [], j0m), (.getfield 37, 3, 12, 8, 0, 8, [6199], j0m), j0, j0, (.iload_n 1, 1, 1, 0, 0, 0, [], j0m), (.iaload, 1, 0, 0, 0, 0, [], j0m), (.bipush 20, 2, 0, 0, 0, 0, [], j0m), 
  j0, (.if_icmp .ne 4, 3, 0, 12, 0, 0, [], j0m), j0, j0, (.return_, 1, 0, 0, 0, 0, [], j0m), (.aload_n 0, 1, 0, 0, 0, 0, [], j0m), (.getfield 37, 3, 12, 8, 0, 8, [6199], j0m), j0, j0, (.iload_n 1, 1, 1, 0, 0, 0, [], j0m), 
  (.dup2, 1, 0, 0, 0, 0, [], j0m), (.iaload, 1, 0, 0, 0, 0, [], j0m), (.iconst 1, 1, 0, 0, 0, 0, [], j0m), (.iadd, 1, 0, 0, 0, 0, [], j0m), (.iastore, 1, 0, 0, 0, 0, [], j0m), (.aload_n 0, 1, 0, 0, 0, 0, [], j0m), 
  (.getfield 37, 3, 12, 8, 0, 8, [6199], j0m), j0, j0, (.iload_n 1, 1, 1, 0, 0, 0, [], j0m), (.aload_n 0, 1, 0, 0, 0, 0, [], j0m), (.getfield 37, 3, 12, 8, 0, 8, [6199], j0m), j0, j0, (.iload_n 1, 1, 1, 0, 0, 0, [], j0m), 
  (.iaload, 1, 0, 0, 0, 0, [], j0m), (.iadd, 1, 0, 0, 0, 0, [], j0m), (.aload_n 0, 1, 0, 0, 0, 0, [], j0m), (.iload_n 2, 1, 2, 0, 0, 0, [], j0m), (.bipush 97, 2, 0, 0, 0, 0, [], j0m), j0, (.isub, 1, 0, 0, 0, 0, [], j0m), 
  (.invokevirtual 155, 3, 12, 2, 1, 0, [6170, 6172, 62, 1015, 6173], m_Model_folded), j0, j0, (.iastore, 1, 0, 0, 0, 0, [], j0m), (.return_, 1, 0, 0, 0, 0, [], j0m)]
set_option maxRecDepth 20000 in
theorem t_Model_adds : okT m_Model_adds k_Model_adds = true := by decide +kernel
def k_Model_folded : List jO := [
  (.aload_n 0, 1, 0, 0, 0, 0, [], j0m), (.getfield 13, 3, 12, 1, 0, 1, [6192], j0m), j0, j0, (.iconst 5, 1, 0, 0, 0, 0, [], j0m), (.iload_n 1, 1, 1, 0, 0, 0, [], j0m), (.iadd, 1, 0, 0, 0, 0, [], j0m), 
  (.iaload, 1, 0, 0, 0, 0, [], j0m), (.istore_n 2, 1, 2, 0, 0, 0, [], j0m), (.iload_n 2, 1, 2, 0, 0, 0, [], j0m), (.iconst (-1), 1, 0, 0, 0, 0, [], j0m), (.if_icmp .ne 7, 3, 0, 18, 0, 0, [], j0m), j0, 
  j0, (.iload_n 1, 1, 1, 0, 0, 0, [], j0m), (.goto 4, 3, 0, 19, 0, 0, [], j0m), j0, j0, (.iload_n 2, 1, 2, 0, 0, 0, [], j0m), (.ireturn, 1, 0, 0, 0, 0, [], j0m)]
set_option maxRecDepth 20000 in
theorem t_Model_folded : okT m_Model_folded k_Model_folded = true := by decide +kernel
def k_Model_isCut : List jO := [
  (.aload_n 0, 1, 0, 0, 0, 0, [], j0m), (.iload_n 1, 1, 1, 0, 0, 0, [], j0m), (.iload_n 2, 1, 2, 0, 0, 0, [], j0m), (.iload_n 3, 1, 3, 0, 0, 0, [], j0m), (.invokevirtual 140, 3, 12, 4, 1, 0, [6155, 6157, 59, 1015, 6158], m_Model_byteOf), 
  j0, j0, (.bipush 45, 2, 0, 0, 0, 0, [], j0m), j0, (.if_icmp .ne 47, 3, 0, 56, 0, 0, [], j0m), j0, j0, (.iload_n 3, 1, 3, 0, 0, 0, [], j0m), (.aload_n 0, 1, 0, 0, 0, 0, [], j0m), (.getfield 13, 3, 12, 1, 0, 1, [6192], j0m), 
  j0, j0, (.iload_n 1, 1, 1, 0, 0, 0, [], j0m), (.iload_n 2, 1, 2, 0, 0, 0, [], j0m), (.invokestatic 136, 3, 0, 2, 0, 0, [6152, 6153, 1015, 6154], m_Model_lineAt), j0, j0, (.iaload, 1, 0, 0, 0, 0, [], j0m), 
  (.iconst 1, 1, 0, 0, 0, 0, [], j0m), (.isub, 1, 0, 0, 0, 0, [], j0m), (.if_icmp .ne 31, 3, 0, 56, 0, 0, [], j0m), j0, j0, (.iload_n 2, 1, 2, 0, 0, 0, [], j0m), (.iconst 1, 1, 0, 0, 0, 0, [], j0m), (.iadd, 1, 0, 0, 0, 0, [], j0m), 
  (.aload_n 0, 1, 0, 0, 0, 0, [], j0m), (.iload_n 1, 1, 1, 0, 0, 0, [], j0m), (.invokevirtual 148, 3, 12, 2, 1, 0, [6144, 6146, 57, 1015, 6147], m_Model_linesOf), j0, j0, (.if_icmp .ge 20, 3, 0, 56, 0, 0, [], j0m), 
  j0, j0, (.aload_n 0, 1, 0, 0, 0, 0, [], j0m), (.iload_n 1, 1, 1, 0, 0, 0, [], j0m), (.iload_n 2, 1, 2, 0, 0, 0, [], j0m), (.iconst 1, 1, 0, 0, 0, 0, [], j0m), (.iadd, 1, 0, 0, 0, 0, [], j0m), (.iconst 0, 1, 0, 0, 0, 0, [], j0m), 
  (.invokevirtual 152, 3, 12, 4, 1, 0, [6148, 6150, 58, 1015, 6151], m_Model_runFrom), j0, j0, (.iconst (-1), 1, 0, 0, 0, 0, [], j0m), (.if_icmp .eq 7, 3, 0, 56, 0, 0, [], j0m), j0, j0, (.iconst 1, 1, 0, 0, 0, 0, [], j0m), 
  (.goto 4, 3, 0, 57, 0, 0, [], j0m), j0, j0, (.iconst 0, 1, 0, 0, 0, 0, [], j0m), (.ireturn, 1, 0, 0, 1, 0, [], j0m)]
set_option maxRecDepth 20000 in
theorem t_Model_isCut : okT m_Model_isCut k_Model_isCut = true := by decide +kernel
def k_Model_comes : List jO := [
  (.aload_n 0, 1, 0, 0, 0, 0, [], j0m), (.aload_n 0, 1, 0, 0, 0, 0, [], j0m), (.getfield 37, 3, 12, 8, 0, 8, [6199], j0m), j0, j0, (.iload_n 1, 1, 1, 0, 0, 0, [], j0m), (.invokevirtual 176, 3, 12, 3, 1, 0, [6182, 6184, 65, 1015, 6185], m_Model_find), 
  j0, j0, (.iconst (-1), 1, 0, 0, 0, 0, [], j0m), (.if_icmp .eq 4, 3, 0, 14, 0, 0, [], j0m), j0, j0, (.return_, 1, 0, 0, 0, 0, [], j0m), (.aload_n 0, 1, 0, 0, 0, 0, [], j0m), (.getfield 169, 3, 12, 10, 0, 10, [6201], j0m), 
  j0, j0, (.istore_n 2, 1, 2, 0, 0, 0, [], j0m), (.iload_n 2, 1, 2, 0, 0, 0, [], j0m), (.ifCond .le 56, 3, 0, 76, 0, 0, [], j0m), j0, j0, (.aload_n 0, 1, 0, 0, 0, 0, [], j0m), (.getfield 37, 3, 12, 8, 0, 8, [6199], j0m), 
  j0, j0, (.iload_n 1, 1, 1, 0, 0, 0, [], j0m), (.aload_n 0, 1, 0, 0, 0, 0, [], j0m), (.getfield 40, 3, 12, 9, 0, 9, [6200], j0m), j0, j0, (.bipush 21, 2, 0, 0, 0, 0, [], j0m), j0, (.iload_n 2, 1, 2, 0, 0, 0, [], j0m), 
  (.iconst 1, 1, 0, 0, 0, 0, [], j0m), (.isub, 1, 0, 0, 0, 0, [], j0m), (.imul, 1, 0, 0, 0, 0, [], j0m), (.aload_n 0, 1, 0, 0, 0, 0, [], j0m), (.getfield 46, 3, 12, 12, 0, 12, [6203], j0m), j0, j0, (.iconst 0, 1, 0, 0, 0, 0, [], j0m), 
  (.invokestatic 172, 3, 0, 6, 0, 0, [6186, 6187, 1015, 6188], m_Model_compare), j0, j0, (.ifCond .ge 30, 3, 0, 76, 0, 0, [], j0m), j0, j0, (.aload_n 0, 1, 0, 0, 0, 0, [], j0m), (.getfield 40, 3, 12, 9, 0, 9, [6200], j0m), 
  j0, j0, (.bipush 21, 2, 0, 0, 0, 0, [], j0m), j0, (.iload_n 2, 1, 2, 0, 0, 0, [], j0m), (.iconst 1, 1, 0, 0, 0, 0, [], j0m), (.isub, 1, 0, 0, 0, 0, [], j0m), (.imul, 1, 0, 0, 0, 0, [], j0m), (.aload_n 0, 1, 0, 0, 0, 0, [], j0m), 
  (.getfield 40, 3, 12, 9, 0, 9, [6200], j0m), j0, j0, (.bipush 21, 2, 0, 0, 0, 0, [], j0m), j0, (.iload_n 2, 1, 2, 0, 0, 0, [], j0m), (.imul, 1, 0, 0, 0, 0, [], j0m), (.invokestatic 180, 3, 0, 4, 0, 0, [6189, 6190, 1015, 6191], m_Model_copies), 
  j0, j0, (.iinc 2 (-1), 3, 2, 0, 0, 0, [], j0m), j0, j0, (.goto (-54), 3, 0, 19, 0, 0, [], j0m), j0, j0, (.aload_n 0, 1, 0, 0, 0, 0, [], j0m), (.getfield 37, 3, 12, 8, 0, 8, [6199], j0m), j0, j0, (.iload_n 1, 1, 1, 0, 0, 0, [], j0m), 
  (.aload_n 0, 1, 0, 0, 0, 0, [], j0m), (.getfield 40, 3, 12, 9, 0, 9, [6200], j0m), j0, j0, (.bipush 21, 2, 0, 0, 0, 0, [], j0m), j0, (.iload_n 2, 1, 2, 0, 0, 0, [], j0m), (.imul, 1, 0, 0, 0, 0, [], j0m), 
  (.invokestatic 180, 3, 0, 4, 0, 0, [6189, 6190, 1015, 6191], m_Model_copies), j0, j0, (.aload_n 0, 1, 0, 0, 0, 0, [], j0m), (.dup, 1, 0, 0, 0, 0, [], j0m), (.getfield 169, 3, 12, 10, 0, 10, [6201], j0m), 
  j0, j0, (.iconst 1, 1, 0, 0, 0, 0, [], j0m), (.iadd, 1, 0, 0, 0, 0, [], j0m), (.putfield 169, 3, 12, 10, 0, 10, [6201], j0m), j0, j0, (.return_, 1, 0, 0, 0, 0, [], j0m)]
set_option maxRecDepth 20000 in
theorem t_Model_comes : okT m_Model_comes k_Model_comes = true := by decide +kernel
def k_Model_find : List jO := [
  (.iconst 0, 1, 0, 0, 0, 0, [], j0m), (.istore_n 3, 1, 3, 0, 0, 0, [], j0m), (.aload_n 0, 1, 0, 0, 0, 0, [], j0m), (.getfield 169, 3, 12, 10, 0, 10, [6201], j0m), j0, j0, (.iconst 1, 1, 0, 0, 0, 0, [], j0m), 
  (.isub, 1, 0, 0, 0, 0, [], j0m), (.istore 4, 2, 4, 0, 0, 0, [], j0m), j0, (.iload_n 3, 1, 3, 0, 0, 0, [], j0m), (.iload 4, 2, 4, 0, 0, 0, [], j0m), j0, (.if_icmp .gt 62, 3, 0, 75, 0, 0, [], j0m), j0, 
  j0, (.iload_n 3, 1, 3, 0, 0, 0, [], j0m), (.iload 4, 2, 4, 0, 0, 0, [], j0m), j0, (.iadd, 1, 0, 0, 0, 0, [], j0m), (.iconst 2, 1, 0, 0, 0, 0, [], j0m), (.idiv, 1, 0, 0, 0, 0, [], j0m), (.istore 5, 2, 5, 0, 0, 0, [], j0m), 
  j0, (.aload_n 0, 1, 0, 0, 0, 0, [], j0m), (.getfield 40, 3, 12, 9, 0, 9, [6200], j0m), j0, j0, (.bipush 21, 2, 0, 0, 0, 0, [], j0m), j0, (.iload 5, 2, 5, 0, 0, 0, [], j0m), j0, (.imul, 1, 0, 0, 0, 0, [], j0m), 
  (.aload_n 1, 1, 1, 0, 0, 0, [], j0m), (.iload_n 2, 1, 2, 0, 0, 0, [], j0m), (.aload_n 0, 1, 0, 0, 0, 0, [], j0m), (.getfield 46, 3, 12, 12, 0, 12, [6203], j0m), j0, j0, (.iconst 0, 1, 0, 0, 0, 0, [], j0m), 
  (.invokestatic 172, 3, 0, 6, 0, 0, [6186, 6187, 1015, 6188], m_Model_compare), j0, j0, (.istore 6, 2, 6, 0, 0, 0, [], j0m), j0, (.iload 6, 2, 6, 0, 0, 0, [], j0m), j0, (.ifCond .ne 6, 3, 0, 53, 0, 0, [], j0m), 
  j0, j0, (.iload 5, 2, 5, 0, 0, 0, [], j0m), j0, (.ireturn, 1, 0, 0, 0, 0, [], j0m), (.iload 6, 2, 6, 0, 0, 0, [], j0m), j0, (.ifCond .ge 11, 3, 0, 66, 0, 0, [], j0m), j0, j0, (.iload 5, 2, 5, 0, 0, 0, [], j0m), 
  j0, (.iconst 1, 1, 0, 0, 0, 0, [], j0m), (.iadd, 1, 0, 0, 0, 0, [], j0m), (.istore_n 3, 1, 3, 0, 0, 0, [], j0m), (.goto 9, 3, 0, 72, 0, 0, [], j0m), j0, j0, (.iload 5, 2, 5, 0, 0, 0, [], j0m), j0, (.iconst 1, 1, 0, 0, 0, 0, [], j0m), 
  (.isub, 1, 0, 0, 0, 0, [], j0m), (.istore 4, 2, 4, 0, 0, 0, [], j0m), j0, (.goto (-62), 3, 0, 10, 0, 0, [], j0m), j0, j0, (.iconst (-1), 1, 0, 0, 0, 0, [], j0m), (.ireturn, 1, 0, 0, 0, 0, [], j0m)]
set_option maxRecDepth 20000 in
theorem t_Model_find : okT m_Model_find k_Model_find = true := by decide +kernel
def k_Model_compare : List jO := [
  (.iconst 1, 1, 0, 0, 0, 0, [], j0m), (.istore 6, 2, 6, 0, 0, 0, [], j0m), j0, (.iload 6, 2, 6, 0, 0, 0, [], j0m), j0, (.aload_n 0, 1, 0, 0, 0, 0, [], j0m), (.iload_n 1, 1, 1, 0, 0, 0, [], j0m), (.iaload, 1, 0, 0, 0, 0, [], j0m), 
  (.if_icmp .gt 52, 3, 0, 60, 0, 0, [], j0m), j0, j0, (.iload 6, 2, 6, 0, 0, 0, [], j0m), j0, (.aload_n 2, 1, 2, 0, 0, 0, [], j0m), (.iload_n 3, 1, 3, 0, 0, 0, [], j0m), (.iaload, 1, 0, 0, 0, 0, [], j0m), 
  (.if_icmp .gt 44, 3, 0, 60, 0, 0, [], j0m), j0, j0, (.aload 4, 2, 4, 0, 0, 0, [], j0m), j0, (.iload 5, 2, 5, 0, 0, 0, [], j0m), j0, (.aload_n 0, 1, 0, 0, 0, 0, [], j0m), (.iload_n 1, 1, 1, 0, 0, 0, [], j0m), 
  (.iload 6, 2, 6, 0, 0, 0, [], j0m), j0, (.iadd, 1, 0, 0, 0, 0, [], j0m), (.iaload, 1, 0, 0, 0, 0, [], j0m), (.iadd, 1, 0, 0, 0, 0, [], j0m), (.iaload, 1, 0, 0, 0, 0, [], j0m), (.aload 4, 2, 4, 0, 0, 0, [], j0m), 
  j0, (.iload 5, 2, 5, 0, 0, 0, [], j0m), j0, (.aload_n 2, 1, 2, 0, 0, 0, [], j0m), (.iload_n 3, 1, 3, 0, 0, 0, [], j0m), (.iload 6, 2, 6, 0, 0, 0, [], j0m), j0, (.iadd, 1, 0, 0, 0, 0, [], j0m), (.iaload, 1, 0, 0, 0, 0, [], j0m), 
  (.iadd, 1, 0, 0, 0, 0, [], j0m), (.iaload, 1, 0, 0, 0, 0, [], j0m), (.isub, 1, 0, 0, 0, 0, [], j0m), (.istore 7, 2, 7, 0, 0, 0, [], j0m), j0, (.iload 7, 2, 7, 0, 0, 0, [], j0m), j0, (.ifCond .eq 6, 3, 0, 54, 0, 0, [], j0m), 
  j0, j0, (.iload 7, 2, 7, 0, 0, 0, [], j0m), j0, (.ireturn, 1, 0, 0, 0, 0, [], j0m), (.iinc 6 1, 3, 6, 0, 0, 0, [], j0m), j0, j0, (.goto (-54), 3, 0, 3, 0, 0, [], j0m), j0, j0, (.aload_n 0, 1, 0, 0, 0, 0, [], j0m), 
  (.iload_n 1, 1, 1, 0, 0, 0, [], j0m), (.iaload, 1, 0, 0, 0, 0, [], j0m), (.aload_n 2, 1, 2, 0, 0, 0, [], j0m), (.iload_n 3, 1, 3, 0, 0, 0, [], j0m), (.iaload, 1, 0, 0, 0, 0, [], j0m), (.isub, 1, 0, 0, 0, 0, [], j0m), 
  (.ireturn, 1, 0, 0, 0, 0, [], j0m)]
set_option maxRecDepth 20000 in
theorem t_Model_compare : okT m_Model_compare k_Model_compare = true := by decide +kernel
def k_Model_copies : List jO := [
  (.iconst 0, 1, 0, 0, 0, 0, [], j0m), (.istore 4, 2, 4, 0, 0, 0, [], j0m), j0, (.iload 4, 2, 4, 0, 0, 0, [], j0m), j0, (.bipush 21, 2, 0, 0, 0, 0, [], j0m), j0, (.if_icmp .ge 21, 3, 0, 28, 0, 0, [], j0m), 
  j0, j0, (.aload_n 2, 1, 2, 0, 0, 0, [], j0m), (.iload_n 3, 1, 3, 0, 0, 0, [], j0m), (.iload 4, 2, 4, 0, 0, 0, [], j0m), j0, (.iadd, 1, 0, 0, 0, 0, [], j0m), (.aload_n 0, 1, 0, 0, 0, 0, [], j0m), (.iload_n 1, 1, 1, 0, 0, 0, [], j0m), 
  (.iload 4, 2, 4, 0, 0, 0, [], j0m), j0, (.iadd, 1, 0, 0, 0, 0, [], j0m), (.iaload, 1, 0, 0, 0, 0, [], j0m), (.iastore, 1, 0, 0, 0, 0, [], j0m), (.iinc 4 1, 3, 4, 0, 0, 0, [], j0m), j0, j0, (.goto (-22), 3, 0, 3, 0, 0, [], j0m), 
  j0, j0, (.return_, 1, 0, 0, 0, 0, [], j0m)]
set_option maxRecDepth 20000 in
theorem t_Model_copies : okT m_Model_copies k_Model_copies = true := by decide +kernel
def k_Model_keep : List jO := [
  (.iload_n 1, 1, 1, 0, 0, 0, [], j0m), (.i2l, 1, 0, 0, 0, 0, [], j0m), (.lconst 0, 1, 0, 0, 0, 0, [], j0m), (.ldc2_w 134, 3, 0, 0, 0, 2, [7109], j0m), j0, j0, (.invokestatic 130, 3, 0, 3, 0, 0, [7110, 7111, 1015, 7112], m_Model_in), 
  j0, j0, (.ifCond .ne 6, 3, 0, 15, 0, 0, [], j0m), j0, j0, (.bipush (-2), 2, 0, 0, 0, 0, [], j0m), j0, (.ireturn, 1, 0, 0, 0, 0, [], j0m), (.iconst 0, 1, 0, 0, 0, 0, [], j0m), (.istore_n 2, 1, 2, 0, 0, 0, [], j0m), 
  (.iload_n 2, 1, 2, 0, 0, 0, [], j0m), (.sipush 32677, 3, 0, 0, 0, 0, [], j0m), j0, j0, (.if_icmp .ge 27, 3, 0, 48, 0, 0, [], j0m), j0, j0, (.aload_n 0, 1, 0, 0, 0, 0, [], j0m), (.getfield 18, 3, 12, 2, 0, 2, [6193], j0m), 
  j0, j0, (.sipush 32677, 3, 0, 0, 0, 0, [], j0m), j0, j0, (.iload_n 1, 1, 1, 0, 0, 0, [], j0m), (.imul, 1, 0, 0, 0, 0, [], j0m), (.iload_n 2, 1, 2, 0, 0, 0, [], j0m), (.iadd, 1, 0, 0, 0, 0, [], j0m), 
  (.aload_n 0, 1, 0, 0, 0, 0, [], j0m), (.getfield 13, 3, 12, 1, 0, 1, [6192], j0m), j0, j0, (.iload_n 2, 1, 2, 0, 0, 0, [], j0m), (.iaload, 1, 0, 0, 0, 0, [], j0m), (.iastore, 1, 0, 0, 0, 0, [], j0m), 
  (.iinc 2 1, 3, 2, 0, 0, 0, [], j0m), j0, j0, (.goto (-28), 3, 0, 17, 0, 0, [], j0m), j0, j0, (.aload_n 0, 1, 0, 0, 0, 0, [], j0m), (.getfield 21, 3, 12, 3, 0, 3, [6194], j0m), j0, j0, (.iload_n 1, 1, 1, 0, 0, 0, [], j0m), 
  (.iconst 1, 1, 0, 0, 0, 0, [], j0m), (.bastore, 1, 0, 0, 3, 0, [], j0m), (.iconst 0, 1, 0, 0, 0, 0, [], j0m), (.ireturn, 1, 0, 0, 0, 0, [], j0m)]
set_option maxRecDepth 20000 in
theorem t_Model_keep : okT m_Model_keep k_Model_keep = true := by decide +kernel
def k_Model_in : List jO := [
  (.lload_n 0, 1, 0, 0, 0, 0, [], j0m), (.lload_n 2, 1, 2, 0, 0, 0, [], j0m), (.lcmp, 1, 0, 0, 0, 0, [], j0m), (.ifCond .lt 14, 3, 0, 17, 0, 0, [], j0m), j0, j0, (.lload_n 0, 1, 0, 0, 0, 0, [], j0m), (.lload 4, 2, 4, 0, 0, 0, [], j0m), 
  j0, (.lcmp, 1, 0, 0, 0, 0, [], j0m), (.ifCond .gt 7, 3, 0, 17, 0, 0, [], j0m), j0, j0, (.iconst 1, 1, 0, 0, 0, 0, [], j0m), (.goto 4, 3, 0, 18, 0, 0, [], j0m), j0, j0, (.iconst 0, 1, 0, 0, 0, 0, [], j0m), 
  (.ireturn, 1, 0, 0, 1, 0, [], j0m)]
set_option maxRecDepth 20000 in
theorem t_Model_in : okT m_Model_in k_Model_in = true := by decide +kernel
def k_Model_back : List jO := [
  (.iload_n 1, 1, 1, 0, 0, 0, [], j0m), (.i2l, 1, 0, 0, 0, 0, [], j0m), (.lconst 0, 1, 0, 0, 0, 0, [], j0m), (.ldc2_w 134, 3, 0, 0, 0, 2, [7109], j0m), j0, j0, (.invokestatic 130, 3, 0, 3, 0, 0, [7110, 7111, 1015, 7112], m_Model_in), 
  j0, j0, (.ifCond .ne 6, 3, 0, 15, 0, 0, [], j0m), j0, j0, (.bipush (-2), 2, 0, 0, 0, 0, [], j0m), j0, (.ireturn, 1, 0, 0, 0, 0, [], j0m), (.aload_n 0, 1, 0, 0, 0, 0, [], j0m), (.getfield 21, 3, 12, 3, 0, 3, [6194], j0m), 
  j0, j0, (.iload_n 1, 1, 1, 0, 0, 0, [], j0m), (.baload, 1, 0, 0, 3, 0, [], j0m), (.ifCond .ne 6, 3, 0, 27, 0, 0, [], j0m), j0, j0, (.bipush (-6), 2, 0, 0, 0, 0, [], j0m), j0, (.ireturn, 1, 0, 0, 0, 0, [], j0m), 
  (.iconst 0, 1, 0, 0, 0, 0, [], j0m), (.istore_n 2, 1, 2, 0, 0, 0, [], j0m), (.iload_n 2, 1, 2, 0, 0, 0, [], j0m), (.sipush 32677, 3, 0, 0, 0, 0, [], j0m), j0, j0, (.if_icmp .ge 27, 3, 0, 60, 0, 0, [], j0m), 
  j0, j0, (.aload_n 0, 1, 0, 0, 0, 0, [], j0m), (.getfield 13, 3, 12, 1, 0, 1, [6192], j0m), j0, j0, (.iload_n 2, 1, 2, 0, 0, 0, [], j0m), (.aload_n 0, 1, 0, 0, 0, 0, [], j0m), (.getfield 18, 3, 12, 2, 0, 2, [6193], j0m), 
  j0, j0, (.sipush 32677, 3, 0, 0, 0, 0, [], j0m), j0, j0, (.iload_n 1, 1, 1, 0, 0, 0, [], j0m), (.imul, 1, 0, 0, 0, 0, [], j0m), (.iload_n 2, 1, 2, 0, 0, 0, [], j0m), (.iadd, 1, 0, 0, 0, 0, [], j0m), 
  (.iaload, 1, 0, 0, 0, 0, [], j0m), (.iastore, 1, 0, 0, 0, 0, [], j0m), (.iinc 2 1, 3, 2, 0, 0, 0, [], j0m), j0, j0, (.goto (-28), 3, 0, 29, 0, 0, [], j0m), j0, j0, (.aload_n 0, 1, 0, 0, 0, 0, [], j0m), 
  (.invokevirtual 127, 3, 12, 1, 1, 0, [6136, 6138, 55, 1015, 6139], m_Model_makes), j0, j0, (.iconst 0, 1, 0, 0, 0, 0, [], j0m), (.ireturn, 1, 0, 0, 0, 0, [], j0m)]
set_option maxRecDepth 20000 in
theorem t_Model_back : okT m_Model_back k_Model_back = true := by decide +kernel
def k_Model_feed : List jO := [
  (.aload_n 0, 1, 0, 0, 0, 0, [], j0m), (.getfield 194, 3, 12, 15, 0, 15, [6206], j0m), j0, j0, (.bipush 20, 2, 0, 0, 0, 0, [], j0m), j0, (.iadd, 1, 0, 0, 0, 0, [], j0m), (.sipush 400, 3, 0, 0, 0, 0, [], j0m), 
  j0, j0, (.if_icmp .le 5, 3, 0, 15, 0, 0, [], j0m), j0, j0, (.iconst (-1), 1, 0, 0, 0, 0, [], j0m), (.ireturn, 1, 0, 0, 0, 0, [], j0m), (.aload_n 0, 1, 0, 0, 0, 0, [], j0m), (.getfield 56, 3, 12, 16, 0, 16, [6207], j0m), 
  j0, j0, (.iconst 0, 1, 0, 0, 0, 0, [], j0m), (.iload_n 1, 1, 1, 0, 0, 0, [], j0m), (.iastore, 1, 0, 0, 0, 0, [], j0m), (.aload_n 0, 1, 0, 0, 0, 0, [], j0m), (.getfield 56, 3, 12, 16, 0, 16, [6207], j0m), 
  j0, j0, (.iconst 1, 1, 0, 0, 0, 0, [], j0m), (.iload_n 2, 1, 2, 0, 0, 0, [], j0m), (.iastore, 1, 0, 0, 0, 0, [], j0m), (.aload_n 0, 1, 0, 0, 0, 0, [], j0m), (.getfield 56, 3, 12, 16, 0, 16, [6207], j0m), 
  j0, j0, (.iconst 2, 1, 0, 0, 0, 0, [], j0m), (.iload_n 3, 1, 3, 0, 0, 0, [], j0m), (.iastore, 1, 0, 0, 0, 0, [], j0m), (.aload_n 0, 1, 0, 0, 0, 0, [], j0m), (.getfield 56, 3, 12, 16, 0, 16, [6207], j0m), 
  j0, j0, (.iconst 3, 1, 0, 0, 0, 0, [], j0m), (.iload 4, 2, 4, 0, 0, 0, [], j0m), j0, (.iastore, 1, 0, 0, 0, 0, [], j0m), (.aload_n 0, 1, 0, 0, 0, 0, [], j0m), (.getfield 56, 3, 12, 16, 0, 16, [6207], j0m), 
  j0, j0, (.iconst 4, 1, 0, 0, 0, 0, [], j0m), (.iload 5, 2, 5, 0, 0, 0, [], j0m), j0, (.iastore, 1, 0, 0, 0, 0, [], j0m), (.iconst 0, 1, 0, 0, 0, 0, [], j0m), (.istore 6, 2, 6, 0, 0, 0, [], j0m), j0, 
  (.iload 6, 2, 6, 0, 0, 0, [], j0m), j0, (.bipush 20, 2, 0, 0, 0, 0, [], j0m), j0, (.if_icmp .ge 42, 3, 0, 101, 0, 0, [], j0m), j0, j0, (.aload_n 0, 1, 0, 0, 0, 0, [], j0m), (.getfield 52, 3, 12, 14, 0, 14, [6205], j0m), 
  j0, j0, (.aload_n 0, 1, 0, 0, 0, 0, [], j0m), (.getfield 194, 3, 12, 15, 0, 15, [6206], j0m), j0, j0, (.iload 6, 2, 6, 0, 0, 0, [], j0m), j0, (.iadd, 1, 0, 0, 0, 0, [], j0m), (.aload_n 0, 1, 0, 0, 0, 0, [], j0m), 
  (.getfield 56, 3, 12, 16, 0, 16, [6207], j0m), j0, j0, (.iload 6, 2, 6, 0, 0, 0, [], j0m), j0, (.iconst 4, 1, 0, 0, 0, 0, [], j0m), (.idiv, 1, 0, 0, 0, 0, [], j0m), (.iaload, 1, 0, 0, 0, 0, [], j0m), 
  (.bipush 24, 2, 0, 0, 0, 0, [], j0m), j0, (.bipush 8, 2, 0, 0, 0, 0, [], j0m), j0, (.iload 6, 2, 6, 0, 0, 0, [], j0m), j0, (.iconst 4, 1, 0, 0, 0, 0, [], j0m), (.irem, 1, 0, 0, 0, 0, [], j0m), (.imul, 1, 0, 0, 0, 0, [], j0m), 
  (.isub, 1, 0, 0, 0, 0, [], j0m), (.ishr, 1, 0, 0, 0, 0, [], j0m), (.i2b, 1, 0, 0, 0, 0, [], j0m), (.bastore, 1, 0, 0, 2, 0, [], j0m), (.iinc 6 1, 3, 6, 0, 0, 0, [], j0m), j0, j0, (.goto (-43), 3, 0, 55, 0, 0, [], j0m), 
  j0, j0, (.aload_n 0, 1, 0, 0, 0, 0, [], j0m), (.dup, 1, 0, 0, 0, 0, [], j0m), (.getfield 194, 3, 12, 15, 0, 15, [6206], j0m), j0, j0, (.bipush 20, 2, 0, 0, 0, 0, [], j0m), j0, (.iadd, 1, 0, 0, 0, 0, [], j0m), 
  (.putfield 194, 3, 12, 15, 0, 15, [6206], j0m), j0, j0, (.aload_n 0, 1, 0, 0, 0, 0, [], j0m), (.getfield 194, 3, 12, 15, 0, 15, [6206], j0m), j0, j0, (.ireturn, 1, 0, 0, 0, 0, [], j0m)]
set_option maxRecDepth 20000 in
theorem t_Model_feed : okT m_Model_feed k_Model_feed = true := by decide +kernel
def k_Model_end : List jO := [
  (.iload_n 1, 1, 1, 0, 0, 0, [], j0m), (.i2l, 1, 0, 0, 0, 0, [], j0m), (.lconst 0, 1, 0, 0, 0, 0, [], j0m), (.aload_n 0, 1, 0, 0, 0, 0, [], j0m), (.getfield 194, 3, 12, 15, 0, 15, [6206], j0m), j0, j0, 
  (.i2l, 1, 0, 0, 0, 0, [], j0m), (.invokestatic 130, 3, 0, 3, 0, 0, [7110, 7111, 1015, 7112], m_Model_in), j0, j0, (.ifCond .ne 5, 3, 0, 16, 0, 0, [], j0m), j0, j0, (.iconst (-1), 1, 0, 0, 0, 0, [], j0m), 
  (.ireturn, 1, 0, 0, 0, 0, [], j0m), (.aload_n 0, 1, 0, 0, 0, 0, [], j0m), (.iload_n 1, 1, 1, 0, 0, 0, [], j0m), (.putfield 194, 3, 12, 15, 0, 15, [6206], j0m), j0, j0, (.iload_n 1, 1, 1, 0, 0, 0, [], j0m), 
  (.ireturn, 1, 0, 0, 0, 0, [], j0m)]
set_option maxRecDepth 20000 in
theorem t_Model_end : okT m_Model_end k_Model_end = true := by decide +kernel
def k_Model_fault : List jO := [
  (.iload_n 1, 1, 1, 0, 0, 0, [], j0m), (.ifCond .ne 10, 3, 0, 11, 0, 0, [], j0m), j0, j0, (.aload_n 0, 1, 0, 0, 0, 0, [], j0m), (.getfield 224, 3, 12, 22, 0, 22, [6213], j0m), j0, j0, (.goto 16, 3, 0, 24, 0, 0, [], j0m), 
  j0, j0, (.iload_n 1, 1, 1, 0, 0, 0, [], j0m), (.iconst 1, 1, 0, 0, 0, 0, [], j0m), (.if_icmp .ne 10, 3, 0, 23, 0, 0, [], j0m), j0, j0, (.aload_n 0, 1, 0, 0, 0, 0, [], j0m), (.getfield 59, 3, 12, 23, 0, 23, [6214], j0m), 
  j0, j0, (.goto 4, 3, 0, 24, 0, 0, [], j0m), j0, j0, (.iconst (-1), 1, 0, 0, 0, 0, [], j0m), (.ireturn, 1, 0, 0, 0, 0, [], j0m)]
set_option maxRecDepth 20000 in
theorem t_Model_fault : okT m_Model_fault k_Model_fault = true := by decide +kernel
def k_Model_rules : List jO := [
  (.aload_n 0, 1, 0, 0, 0, 0, [], j0m), (.invokevirtual 296, 3, 12, 1, 1, 0, [7133, 7135, 66, 1015, 7136], m_Model_begin), j0, j0, (.aload_n 0, 1, 0, 0, 0, 0, [], j0m), (.getfield 62, 3, 12, 24, 0, 24, [6215], j0m), 
  j0, j0, (.invokestatic 123, 3, 0, 1, 0, 0, [6133, 6134, 1015, 6135], m_Model_plain), j0, j0, (.aload_n 0, 1, 0, 0, 0, 0, [], j0m), (.iconst 0, 1, 0, 0, 0, 0, [], j0m), (.putfield 272, 3, 12, 25, 0, 25, [6216], j0m), 
  j0, j0, (.aload_n 0, 1, 0, 0, 0, 0, [], j0m), (.invokevirtual 230, 3, 12, 1, 1, 0, [7148, 7150, 69, 1015, 7151], m_Model_good), j0, j0, (.ifCond .eq 17, 3, 0, 37, 0, 0, [], j0m), j0, j0, (.aload_n 0, 1, 0, 0, 0, 0, [], j0m), 
  (.getfield 209, 3, 12, 20, 0, 20, [6211], j0m), j0, j0, (.ifCond .eq 10, 3, 0, 37, 0, 0, [], j0m), j0, j0, (.aload_n 0, 1, 0, 0, 0, 0, [], j0m), (.invokevirtual 299, 3, 12, 1, 1, 0, [7152, 7154, 70, 1015, 7155], m_Model_readRule), 
  j0, j0, (.goto (-18), 3, 0, 16, 0, 0, [], j0m), j0, j0, (.aload_n 0, 1, 0, 0, 0, 0, [], j0m), (.invokevirtual 230, 3, 12, 1, 1, 0, [7148, 7150, 69, 1015, 7151], m_Model_good), j0, j0, (.ifCond .ne 6, 3, 0, 47, 0, 0, [], j0m), 
  j0, j0, (.bipush (-4), 2, 0, 0, 0, 0, [], j0m), j0, (.ireturn, 1, 0, 0, 0, 0, [], j0m), (.iconst 0, 1, 0, 0, 0, 0, [], j0m), (.istore_n 1, 1, 1, 0, 0, 0, [], j0m), (.iload_n 1, 1, 1, 0, 0, 0, [], j0m), 
  (.sipush 2597, 3, 0, 0, 0, 0, [], j0m), j0, j0, (.if_icmp .ge 40, 3, 0, 93, 0, 0, [], j0m), j0, j0, (.aload_n 0, 1, 0, 0, 0, 0, [], j0m), (.getfield 13, 3, 12, 1, 0, 1, [6192], j0m), j0, j0, (.iload_n 1, 1, 1, 0, 0, 0, [], j0m), 
  (.iload_n 1, 1, 1, 0, 0, 0, [], j0m), (.iconst 3, 1, 0, 0, 0, 0, [], j0m), (.if_icmp .lt 17, 3, 0, 80, 0, 0, [], j0m), j0, j0, (.iload_n 1, 1, 1, 0, 0, 0, [], j0m), (.iconst 5, 1, 0, 0, 0, 0, [], j0m), 
  (.if_icmp .ge 12, 3, 0, 80, 0, 0, [], j0m), j0, j0, (.aload_n 0, 1, 0, 0, 0, 0, [], j0m), (.getfield 13, 3, 12, 1, 0, 1, [6192], j0m), j0, j0, (.iload_n 1, 1, 1, 0, 0, 0, [], j0m), (.iaload, 1, 0, 0, 0, 0, [], j0m), 
  (.goto 9, 3, 0, 86, 0, 0, [], j0m), j0, j0, (.aload_n 0, 1, 0, 0, 0, 0, [], j0m), (.getfield 62, 3, 12, 24, 0, 24, [6215], j0m), j0, j0, (.iload_n 1, 1, 1, 0, 0, 0, [], j0m), (.iaload, 1, 0, 0, 0, 0, [], j0m), 
  (.iastore, 1, 0, 0, 0, 0, [], j0m), (.iinc 1 1, 3, 1, 0, 0, 0, [], j0m), j0, j0, (.goto (-41), 3, 0, 49, 0, 0, [], j0m), j0, j0, (.aload_n 0, 1, 0, 0, 0, 0, [], j0m), (.invokevirtual 127, 3, 12, 1, 1, 0, [6136, 6138, 55, 1015, 6139], m_Model_makes), 
  j0, j0, (.aload_n 0, 1, 0, 0, 0, 0, [], j0m), (.getfield 13, 3, 12, 1, 0, 1, [6192], j0m), j0, j0, (.iconst 0, 1, 0, 0, 0, 0, [], j0m), (.iaload, 1, 0, 0, 0, 0, [], j0m), (.ireturn, 1, 0, 0, 0, 0, [], j0m)
  ]
set_option maxRecDepth 20000 in
theorem t_Model_rules : okT m_Model_rules k_Model_rules = true := by decide +kernel
def k_Model_begin : List jO := [
  (.aload_n 0, 1, 0, 0, 0, 0, [], j0m), (.aload_n 0, 1, 0, 0, 0, 0, [], j0m), (.getfield 194, 3, 12, 15, 0, 15, [6206], j0m), j0, j0, (.putfield 197, 3, 12, 17, 0, 17, [6208], j0m), j0, j0, (.aload_n 0, 1, 0, 0, 0, 0, [], j0m), 
  (.iconst 0, 1, 0, 0, 0, 0, [], j0m), (.putfield 194, 3, 12, 15, 0, 15, [6206], j0m), j0, j0, (.aload_n 0, 1, 0, 0, 0, 0, [], j0m), (.iconst 0, 1, 0, 0, 0, 0, [], j0m), (.putfield 200, 3, 12, 18, 0, 18, [6209], j0m), 
  j0, j0, (.aload_n 0, 1, 0, 0, 0, 0, [], j0m), (.iconst 0, 1, 0, 0, 0, 0, [], j0m), (.putfield 224, 3, 12, 22, 0, 22, [6213], j0m), j0, j0, (.aload_n 0, 1, 0, 0, 0, 0, [], j0m), (.iconst (-1), 1, 0, 0, 0, 0, [], j0m), 
  (.putfield 59, 3, 12, 23, 0, 23, [6214], j0m), j0, j0, (.aload_n 0, 1, 0, 0, 0, 0, [], j0m), (.invokevirtual 227, 3, 12, 1, 1, 0, [7137, 7139, 67, 1015, 7140], m_Model_step), j0, j0, (.return_, 1, 0, 0, 0, 0, [], j0m)
  ]
set_option maxRecDepth 20000 in
theorem t_Model_begin : okT m_Model_begin k_Model_begin = true := by decide +kernel
def k_Model_step : List jO := [
  (.aload_n 0, 1, 0, 0, 0, 0, [], j0m), (.aload_n 0, 1, 0, 0, 0, 0, [], j0m), (.getfield 200, 3, 12, 18, 0, 18, [6209], j0m), j0, j0, (.invokevirtual 203, 3, 12, 2, 1, 0, [7141, 7143, 68, 1015, 7144], m_Model_see), 
  j0, j0, (.bipush 32, 2, 0, 0, 0, 0, [], j0m), j0, (.if_icmp .eq 16, 3, 0, 26, 0, 0, [], j0m), j0, j0, (.aload_n 0, 1, 0, 0, 0, 0, [], j0m), (.aload_n 0, 1, 0, 0, 0, 0, [], j0m), (.getfield 200, 3, 12, 18, 0, 18, [6209], j0m), 
  j0, j0, (.invokevirtual 203, 3, 12, 2, 1, 0, [7141, 7143, 68, 1015, 7144], m_Model_see), j0, j0, (.bipush 10, 2, 0, 0, 0, 0, [], j0m), j0, (.if_icmp .ne 16, 3, 0, 39, 0, 0, [], j0m), j0, j0, (.aload_n 0, 1, 0, 0, 0, 0, [], j0m), 
  (.dup, 1, 0, 0, 0, 0, [], j0m), (.getfield 200, 3, 12, 18, 0, 18, [6209], j0m), j0, j0, (.iconst 1, 1, 0, 0, 0, 0, [], j0m), (.iadd, 1, 0, 0, 0, 0, [], j0m), (.putfield 200, 3, 12, 18, 0, 18, [6209], j0m), 
  j0, j0, (.goto (-36), 3, 0, 0, 0, 0, [], j0m), j0, j0, (.aload_n 0, 1, 0, 0, 0, 0, [], j0m), (.aload_n 0, 1, 0, 0, 0, 0, [], j0m), (.getfield 200, 3, 12, 18, 0, 18, [6209], j0m), j0, j0, (.putfield 206, 3, 12, 19, 0, 19, [6210], j0m), 
  j0, j0, (.aload_n 0, 1, 0, 0, 0, 0, [], j0m), (.aload_n 0, 1, 0, 0, 0, 0, [], j0m), (.getfield 200, 3, 12, 18, 0, 18, [6209], j0m), j0, j0, (.invokevirtual 203, 3, 12, 2, 1, 0, [7141, 7143, 68, 1015, 7144], m_Model_see), 
  j0, j0, (.istore_n 1, 1, 1, 0, 0, 0, [], j0m), (.iload_n 1, 1, 1, 0, 0, 0, [], j0m), (.iconst (-1), 1, 0, 0, 0, 0, [], j0m), (.if_icmp .ne 11, 3, 0, 69, 0, 0, [], j0m), j0, j0, (.aload_n 0, 1, 0, 0, 0, 0, [], j0m), 
  (.iconst 0, 1, 0, 0, 0, 0, [], j0m), (.putfield 209, 3, 12, 20, 0, 20, [6211], j0m), j0, j0, (.goto 183, 3, 0, 249, 0, 0, [], j0m), j0, j0, (.iload_n 1, 1, 1, 0, 0, 0, [], j0m), (.invokestatic 144, 3, 0, 1, 0, 0, [6159, 6160, 1015, 6161], m_Model_isLetter), 
  j0, j0, (.ifCond .eq 38, 3, 0, 111, 0, 0, [], j0m), j0, j0, (.aload_n 0, 1, 0, 0, 0, 0, [], j0m), (.aload_n 0, 1, 0, 0, 0, 0, [], j0m), (.getfield 200, 3, 12, 18, 0, 18, [6209], j0m), j0, j0, (.invokevirtual 203, 3, 12, 2, 1, 0, [7141, 7143, 68, 1015, 7144], m_Model_see), 
  j0, j0, (.invokestatic 144, 3, 0, 1, 0, 0, [6159, 6160, 1015, 6161], m_Model_isLetter), j0, j0, (.ifCond .eq 16, 3, 0, 103, 0, 0, [], j0m), j0, j0, (.aload_n 0, 1, 0, 0, 0, 0, [], j0m), (.dup, 1, 0, 0, 0, 0, [], j0m), 
  (.getfield 200, 3, 12, 18, 0, 18, [6209], j0m), j0, j0, (.iconst 1, 1, 0, 0, 0, 0, [], j0m), (.iadd, 1, 0, 0, 0, 0, [], j0m), (.putfield 200, 3, 12, 18, 0, 18, [6209], j0m), j0, j0, (.goto (-24), 3, 0, 76, 0, 0, [], j0m), 
  j0, j0, (.aload_n 0, 1, 0, 0, 0, 0, [], j0m), (.iconst 1, 1, 0, 0, 0, 0, [], j0m), (.putfield 209, 3, 12, 20, 0, 20, [6211], j0m), j0, j0, (.goto 141, 3, 0, 249, 0, 0, [], j0m), j0, j0, (.iload_n 1, 1, 1, 0, 0, 0, [], j0m), 
  (.i2l, 1, 0, 0, 0, 0, [], j0m), (.ldc2_w 212, 3, 0, 0, 0, 48, [7145], j0m), j0, j0, (.ldc2_w 214, 3, 0, 0, 0, 57, [7146], j0m), j0, j0, (.invokestatic 130, 3, 0, 3, 0, 0, [7110, 7111, 1015, 7112], m_Model_in), 
  j0, j0, (.ifCond .eq 79, 3, 0, 201, 0, 0, [], j0m), j0, j0, (.aload_n 0, 1, 0, 0, 0, 0, [], j0m), (.iconst 0, 1, 0, 0, 0, 0, [], j0m), (.putfield 216, 3, 12, 21, 0, 21, [6212], j0m), j0, j0, (.aload_n 0, 1, 0, 0, 0, 0, [], j0m), 
  (.aload_n 0, 1, 0, 0, 0, 0, [], j0m), (.getfield 200, 3, 12, 18, 0, 18, [6209], j0m), j0, j0, (.invokevirtual 203, 3, 12, 2, 1, 0, [7141, 7143, 68, 1015, 7144], m_Model_see), j0, j0, (.i2l, 1, 0, 0, 0, 0, [], j0m), 
  (.ldc2_w 212, 3, 0, 0, 0, 48, [7145], j0m), j0, j0, (.ldc2_w 214, 3, 0, 0, 0, 57, [7146], j0m), j0, j0, (.invokestatic 130, 3, 0, 3, 0, 0, [7110, 7111, 1015, 7112], m_Model_in), j0, j0, (.ifCond .eq 45, 3, 0, 193, 0, 0, [], j0m), 
  j0, j0, (.aload_n 0, 1, 0, 0, 0, 0, [], j0m), (.sipush 9999, 3, 0, 0, 0, 0, [], j0m), j0, j0, (.bipush 10, 2, 0, 0, 0, 0, [], j0m), j0, (.aload_n 0, 1, 0, 0, 0, 0, [], j0m), (.getfield 216, 3, 12, 21, 0, 21, [6212], j0m), 
  j0, j0, (.imul, 1, 0, 0, 0, 0, [], j0m), (.aload_n 0, 1, 0, 0, 0, 0, [], j0m), (.aload_n 0, 1, 0, 0, 0, 0, [], j0m), (.getfield 200, 3, 12, 18, 0, 18, [6209], j0m), j0, j0, (.invokevirtual 203, 3, 12, 2, 1, 0, [7141, 7143, 68, 1015, 7144], m_Model_see), 
  j0, j0, (.iadd, 1, 0, 0, 0, 0, [], j0m), (.bipush 48, 2, 0, 0, 0, 0, [], j0m), j0, (.isub, 1, 0, 0, 0, 0, [], j0m), (.invokestatic 219, 3, 0, 2, 1, 0, [7147, 3076, 1005, 3077], j0m), j0, j0, (.putfield 216, 3, 12, 21, 0, 21, [6212], j0m), 
  j0, j0, (.aload_n 0, 1, 0, 0, 0, 0, [], j0m), (.dup, 1, 0, 0, 0, 0, [], j0m), (.getfield 200, 3, 12, 18, 0, 18, [6209], j0m), j0, j0, (.iconst 1, 1, 0, 0, 0, 0, [], j0m), (.iadd, 1, 0, 0, 0, 0, [], j0m), 
  (.putfield 200, 3, 12, 18, 0, 18, [6209], j0m), j0, j0, (.goto (-60), 3, 0, 130, 0, 0, [], j0m), j0, j0, (.aload_n 0, 1, 0, 0, 0, 0, [], j0m), (.iconst 2, 1, 0, 0, 0, 0, [], j0m), (.putfield 209, 3, 12, 20, 0, 20, [6211], j0m), 
  j0, j0, (.goto 51, 3, 0, 249, 0, 0, [], j0m), j0, j0, (.aload_n 0, 1, 0, 0, 0, 0, [], j0m), (.iload_n 1, 1, 1, 0, 0, 0, [], j0m), (.putfield 216, 3, 12, 21, 0, 21, [6212], j0m), j0, j0, (.aload_n 0, 1, 0, 0, 0, 0, [], j0m), 
  (.iload_n 1, 1, 1, 0, 0, 0, [], j0m), (.bipush 59, 2, 0, 0, 0, 0, [], j0m), j0, (.if_icmp .eq 21, 3, 0, 231, 0, 0, [], j0m), j0, j0, (.iload_n 1, 1, 1, 0, 0, 0, [], j0m), (.bipush 40, 2, 0, 0, 0, 0, [], j0m), 
  j0, (.if_icmp .eq 15, 3, 0, 231, 0, 0, [], j0m), j0, j0, (.iload_n 1, 1, 1, 0, 0, 0, [], j0m), (.bipush 41, 2, 0, 0, 0, 0, [], j0m), j0, (.if_icmp .eq 9, 3, 0, 231, 0, 0, [], j0m), j0, j0, (.iload_n 1, 1, 1, 0, 0, 0, [], j0m), 
  (.bipush 34, 2, 0, 0, 0, 0, [], j0m), j0, (.if_icmp .ne 7, 3, 0, 235, 0, 0, [], j0m), j0, j0, (.iconst 3, 1, 0, 0, 0, 0, [], j0m), (.goto 4, 3, 0, 236, 0, 0, [], j0m), j0, j0, (.iconst 4, 1, 0, 0, 0, 0, [], j0m), 
  (.putfield 209, 3, 12, 20, 0, 20, [6211], j0m), j0, j0, (.aload_n 0, 1, 0, 0, 0, 0, [], j0m), (.dup, 1, 0, 0, 0, 0, [], j0m), (.getfield 200, 3, 12, 18, 0, 18, [6209], j0m), j0, j0, (.iconst 1, 1, 0, 0, 0, 0, [], j0m), 
  (.iadd, 1, 0, 0, 0, 0, [], j0m), (.putfield 200, 3, 12, 18, 0, 18, [6209], j0m), j0, j0, (.return_, 1, 0, 0, 0, 0, [], j0m)]
set_option maxRecDepth 20000 in
theorem t_Model_step : okT m_Model_step k_Model_step = true := by decide +kernel
def k_Model_see : List jO := [
  (.iload_n 1, 1, 1, 0, 0, 0, [], j0m), (.aload_n 0, 1, 0, 0, 0, 0, [], j0m), (.getfield 197, 3, 12, 17, 0, 17, [6208], j0m), j0, j0, (.if_icmp .ge 16, 3, 0, 21, 0, 0, [], j0m), j0, j0, (.aload_n 0, 1, 0, 0, 0, 0, [], j0m), 
  (.getfield 52, 3, 12, 14, 0, 14, [6205], j0m), j0, j0, (.iload_n 1, 1, 1, 0, 0, 0, [], j0m), (.baload, 1, 0, 0, 2, 0, [], j0m), (.sipush 255, 3, 0, 0, 0, 0, [], j0m), j0, j0, (.iand, 1, 0, 0, 0, 0, [], j0m), 
  (.goto 4, 3, 0, 22, 0, 0, [], j0m), j0, j0, (.iconst (-1), 1, 0, 0, 0, 0, [], j0m), (.ireturn, 1, 0, 0, 0, 0, [], j0m)]
set_option maxRecDepth 20000 in
theorem t_Model_see : okT m_Model_see k_Model_see = true := by decide +kernel
def k_Model_good : List jO := [
  (.aload_n 0, 1, 0, 0, 0, 0, [], j0m), (.getfield 224, 3, 12, 22, 0, 22, [6213], j0m), j0, j0, (.ifCond .ne 7, 3, 0, 11, 0, 0, [], j0m), j0, j0, (.iconst 1, 1, 0, 0, 0, 0, [], j0m), (.goto 4, 3, 0, 12, 0, 0, [], j0m), 
  j0, j0, (.iconst 0, 1, 0, 0, 0, 0, [], j0m), (.ireturn, 1, 0, 0, 1, 0, [], j0m)]
set_option maxRecDepth 20000 in
theorem t_Model_good : okT m_Model_good k_Model_good = true := by decide +kernel
def k_Model_readRule : List jO := [
  (.aload_n 0, 1, 0, 0, 0, 0, [], j0m), (.ldc_w 276, 3, 0, 0, 1, 0, [], j0m), j0, j0, (.invokevirtual 244, 3, 12, 2, 1, 0, [7157, 7159, 71, 1015, 7160], m_Model_is), j0, j0, (.ifCond .ne 33, 3, 0, 40, 0, 0, [], j0m), 
  j0, j0, (.aload_n 0, 1, 0, 0, 0, 0, [], j0m), (.ldc_w 278, 3, 2, 0, 1, 0, [], j0m), j0, j0, (.invokevirtual 244, 3, 12, 2, 1, 0, [7157, 7159, 71, 1015, 7160], m_Model_is), j0, j0, (.ifCond .ne 23, 3, 0, 40, 0, 0, [], j0m), 
  j0, j0, (.aload_n 0, 1, 0, 0, 0, 0, [], j0m), (.ldc_w 280, 3, 3, 0, 1, 0, [], j0m), j0, j0, (.invokevirtual 244, 3, 12, 2, 1, 0, [7157, 7159, 71, 1015, 7160], m_Model_is), j0, j0, (.ifCond .ne 13, 3, 0, 40, 0, 0, [], j0m), 
  j0, j0, (.aload_n 0, 1, 0, 0, 0, 0, [], j0m), (.ldc_w 282, 3, 5, 0, 1, 0, [], j0m), j0, j0, (.invokevirtual 244, 3, 12, 2, 1, 0, [7157, 7159, 71, 1015, 7160], m_Model_is), j0, j0, (.ifCond .eq 7, 3, 0, 44, 0, 0, [], j0m), 
  j0, j0, (.iconst 1, 1, 0, 0, 0, 0, [], j0m), (.goto 4, 3, 0, 45, 0, 0, [], j0m), j0, j0, (.iconst 0, 1, 0, 0, 0, 0, [], j0m), (.istore_n 1, 1, 1, 0, 0, 0, [], j0m), (.iload_n 1, 1, 1, 0, 0, 0, [], j0m), 
  (.ifCond .ne 11, 3, 0, 58, 0, 0, [], j0m), j0, j0, (.aload_n 0, 1, 0, 0, 0, 0, [], j0m), (.iconst 1, 1, 0, 0, 0, 0, [], j0m), (.invokevirtual 251, 3, 12, 2, 1, 0, [7166, 7168, 72, 1015, 7169], m_Model_wrong), 
  j0, j0, (.goto 44, 3, 0, 99, 0, 0, [], j0m), j0, j0, (.aload_n 0, 1, 0, 0, 0, 0, [], j0m), (.ldc_w 282, 3, 5, 0, 1, 0, [], j0m), j0, j0, (.invokevirtual 244, 3, 12, 2, 1, 0, [7157, 7159, 71, 1015, 7160], m_Model_is), 
  j0, j0, (.ifCond .eq 18, 3, 0, 83, 0, 0, [], j0m), j0, j0, (.aload_n 0, 1, 0, 0, 0, 0, [], j0m), (.getfield 272, 3, 12, 25, 0, 25, [6216], j0m), j0, j0, (.ifCond .eq 11, 3, 0, 83, 0, 0, [], j0m), j0, 
  j0, (.aload_n 0, 1, 0, 0, 0, 0, [], j0m), (.iconst 2, 1, 0, 0, 0, 0, [], j0m), (.invokevirtual 251, 3, 12, 2, 1, 0, [7166, 7168, 72, 1015, 7169], m_Model_wrong), j0, j0, (.goto 19, 3, 0, 99, 0, 0, [], j0m), 
  j0, j0, (.aload_n 0, 1, 0, 0, 0, 0, [], j0m), (.getfield 62, 3, 12, 24, 0, 24, [6215], j0m), j0, j0, (.iconst 0, 1, 0, 0, 0, 0, [], j0m), (.iaload, 1, 0, 0, 0, 0, [], j0m), (.bipush 20, 2, 0, 0, 0, 0, [], j0m), 
  j0, (.if_icmp .ne 8, 3, 0, 99, 0, 0, [], j0m), j0, j0, (.aload_n 0, 1, 0, 0, 0, 0, [], j0m), (.iconst 3, 1, 0, 0, 0, 0, [], j0m), (.invokevirtual 251, 3, 12, 2, 1, 0, [7166, 7168, 72, 1015, 7169], m_Model_wrong), 
  j0, j0, (.aload_n 0, 1, 0, 0, 0, 0, [], j0m), (.invokevirtual 230, 3, 12, 1, 1, 0, [7148, 7150, 69, 1015, 7151], m_Model_good), j0, j0, (.ifCond .ne 4, 3, 0, 107, 0, 0, [], j0m), j0, j0, (.return_, 1, 0, 0, 0, 0, [], j0m), 
  (.aload_n 0, 1, 0, 0, 0, 0, [], j0m), (.getfield 62, 3, 12, 24, 0, 24, [6215], j0m), j0, j0, (.iconst 0, 1, 0, 0, 0, 0, [], j0m), (.dup2, 1, 0, 0, 0, 0, [], j0m), (.iaload, 1, 0, 0, 0, 0, [], j0m), (.iconst 1, 1, 0, 0, 0, 0, [], j0m), 
  (.iadd, 1, 0, 0, 0, 0, [], j0m), (.iastore, 1, 0, 0, 0, 0, [], j0m), (.aload_n 0, 1, 0, 0, 0, 0, [], j0m), (.ldc_w 276, 3, 0, 0, 1, 0, [], j0m), j0, j0, (.invokevirtual 248, 3, 12, 2, 1, 0, [7170, 7172, 73, 1015, 7173], m_Model_takes), 
  j0, j0, (.ifCond .eq 10, 3, 0, 134, 0, 0, [], j0m), j0, j0, (.aload_n 0, 1, 0, 0, 0, 0, [], j0m), (.invokevirtual 284, 3, 12, 1, 1, 0, [7174, 7176, 74, 1015, 7177], m_Model_readFold), j0, j0, (.goto 78, 3, 0, 209, 0, 0, [], j0m), 
  j0, j0, (.aload_n 0, 1, 0, 0, 0, 0, [], j0m), (.ldc_w 280, 3, 3, 0, 1, 0, [], j0m), j0, j0, (.invokevirtual 248, 3, 12, 2, 1, 0, [7170, 7172, 73, 1015, 7173], m_Model_takes), j0, j0, (.ifCond .eq 10, 3, 0, 151, 0, 0, [], j0m), 
  j0, j0, (.aload_n 0, 1, 0, 0, 0, 0, [], j0m), (.invokevirtual 287, 3, 12, 1, 1, 0, [7187, 7189, 77, 1015, 7190], m_Model_readRoot), j0, j0, (.goto 61, 3, 0, 209, 0, 0, [], j0m), j0, j0, (.aload_n 0, 1, 0, 0, 0, 0, [], j0m), 
  (.ldc_w 282, 3, 5, 0, 1, 0, [], j0m), j0, j0, (.invokevirtual 248, 3, 12, 2, 1, 0, [7170, 7172, 73, 1015, 7173], m_Model_takes), j0, j0, (.ifCond .eq 10, 3, 0, 168, 0, 0, [], j0m), j0, j0, (.aload_n 0, 1, 0, 0, 0, 0, [], j0m), 
  (.invokevirtual 290, 3, 12, 1, 1, 0, [7196, 7198, 79, 1015, 7199], m_Model_readOrder), j0, j0, (.goto 44, 3, 0, 209, 0, 0, [], j0m), j0, j0, (.aload_n 0, 1, 0, 0, 0, 0, [], j0m), (.invokevirtual 227, 3, 12, 1, 1, 0, [7137, 7139, 67, 1015, 7140], m_Model_step), 
  j0, j0, (.aload_n 0, 1, 0, 0, 0, 0, [], j0m), (.aload_n 0, 1, 0, 0, 0, 0, [], j0m), (.getfield 62, 3, 12, 24, 0, 24, [6215], j0m), j0, j0, (.bipush 57, 2, 0, 0, 0, 0, [], j0m), j0, (.bipush 21, 2, 0, 0, 0, 0, [], j0m), 
  j0, (.aload_n 0, 1, 0, 0, 0, 0, [], j0m), (.getfield 62, 3, 12, 24, 0, 24, [6215], j0m), j0, j0, (.iconst 1, 1, 0, 0, 0, 0, [], j0m), (.iaload, 1, 0, 0, 0, 0, [], j0m), (.imul, 1, 0, 0, 0, 0, [], j0m), 
  (.iadd, 1, 0, 0, 0, 0, [], j0m), (.invokevirtual 266, 3, 12, 3, 1, 0, [7191, 7193, 78, 1015, 7194], m_Model_wordTo), j0, j0, (.aload_n 0, 1, 0, 0, 0, 0, [], j0m), (.invokevirtual 230, 3, 12, 1, 1, 0, [7148, 7150, 69, 1015, 7151], m_Model_good), 
  j0, j0, (.ifCond .eq 13, 3, 0, 209, 0, 0, [], j0m), j0, j0, (.aload_n 0, 1, 0, 0, 0, 0, [], j0m), (.getfield 62, 3, 12, 24, 0, 24, [6215], j0m), j0, j0, (.iconst 1, 1, 0, 0, 0, 0, [], j0m), (.dup2, 1, 0, 0, 0, 0, [], j0m), 
  (.iaload, 1, 0, 0, 0, 0, [], j0m), (.iconst 1, 1, 0, 0, 0, 0, [], j0m), (.iadd, 1, 0, 0, 0, 0, [], j0m), (.iastore, 1, 0, 0, 0, 0, [], j0m), (.aload_n 0, 1, 0, 0, 0, 0, [], j0m), (.bipush 59, 2, 0, 0, 0, 0, [], j0m), 
  j0, (.invokevirtual 293, 3, 12, 2, 1, 0, [7200, 7202, 80, 1015, 7203], m_Model_needsSign), j0, j0, (.return_, 1, 0, 0, 0, 0, [], j0m)]
set_option maxRecDepth 20000 in
theorem t_Model_readRule : okT m_Model_readRule k_Model_readRule = true := by decide +kernel
def k_Model_is : List jO := [
  (.aload_n 0, 1, 0, 0, 0, 0, [], j0m), (.invokevirtual 230, 3, 12, 1, 1, 0, [7148, 7150, 69, 1015, 7151], m_Model_good), j0, j0, (.ifCond .eq 31, 3, 0, 35, 0, 0, [], j0m), j0, j0, (.aload_n 0, 1, 0, 0, 0, 0, [], j0m), 
  (.getfield 209, 3, 12, 20, 0, 20, [6211], j0m), j0, j0, (.iconst 1, 1, 0, 0, 0, 0, [], j0m), (.if_icmp .ne 23, 3, 0, 35, 0, 0, [], j0m), j0, j0, (.aload_n 0, 1, 0, 0, 0, 0, [], j0m), (.getfield 200, 3, 12, 18, 0, 18, [6209], j0m), 
  j0, j0, (.aload_n 0, 1, 0, 0, 0, 0, [], j0m), (.getfield 206, 3, 12, 19, 0, 19, [6210], j0m), j0, j0, (.isub, 1, 0, 0, 0, 0, [], j0m), (.aload_n 1, 1, 1, 0, 0, 0, [], j0m), (.invokevirtual 234, 3, 0, 1, 2, 0, [7161, 3108, 3109, 1016, 3110], m_String_length), 
  j0, j0, (.if_icmp .ne 7, 3, 0, 35, 0, 0, [], j0m), j0, j0, (.iconst 1, 1, 0, 0, 0, 0, [], j0m), (.goto 4, 3, 0, 36, 0, 0, [], j0m), j0, j0, (.iconst 0, 1, 0, 0, 0, 0, [], j0m), (.istore_n 2, 1, 2, 0, 0, 0, [], j0m), 
  (.iconst 0, 1, 0, 0, 0, 0, [], j0m), (.istore_n 3, 1, 3, 0, 0, 0, [], j0m), (.iload_n 3, 1, 3, 0, 0, 0, [], j0m), (.aload_n 1, 1, 1, 0, 0, 0, [], j0m), (.invokevirtual 234, 3, 0, 1, 2, 0, [7161, 3108, 3109, 1016, 3110], m_String_length), 
  j0, j0, (.if_icmp .ge 38, 3, 0, 82, 0, 0, [], j0m), j0, j0, (.iload_n 2, 1, 2, 0, 0, 0, [], j0m), (.ifCond .eq 34, 3, 0, 82, 0, 0, [], j0m), j0, j0, (.aload_n 0, 1, 0, 0, 0, 0, [], j0m), (.getfield 52, 3, 12, 14, 0, 14, [6205], j0m), 
  j0, j0, (.aload_n 0, 1, 0, 0, 0, 0, [], j0m), (.getfield 206, 3, 12, 19, 0, 19, [6210], j0m), j0, j0, (.iload_n 3, 1, 3, 0, 0, 0, [], j0m), (.iadd, 1, 0, 0, 0, 0, [], j0m), (.baload, 1, 0, 0, 2, 0, [], j0m), 
  (.aload_n 1, 1, 1, 0, 0, 0, [], j0m), (.iload_n 3, 1, 3, 0, 0, 0, [], j0m), (.invokevirtual 240, 3, 0, 2, 3, 0, [7162, 3122, 3123, 1016, 3124], m_String_charAt), j0, j0, (.if_icmp .ne 7, 3, 0, 74, 0, 0, [], j0m), 
  j0, j0, (.iconst 1, 1, 0, 0, 0, 0, [], j0m), (.goto 4, 3, 0, 75, 0, 0, [], j0m), j0, j0, (.iconst 0, 1, 0, 0, 0, 0, [], j0m), (.istore_n 2, 1, 2, 0, 0, 0, [], j0m), (.iinc 3 1, 3, 3, 0, 0, 0, [], j0m), 
  j0, j0, (.goto (-40), 3, 0, 39, 0, 0, [], j0m), j0, j0, (.iload_n 2, 1, 2, 0, 0, 0, [], j0m), (.ireturn, 1, 0, 0, 1, 0, [], j0m)]
set_option maxRecDepth 20000 in
theorem t_Model_is : okT m_Model_is k_Model_is = true := by decide +kernel
def k_Model_wrong : List jO := [
  (.aload_n 0, 1, 0, 0, 0, 0, [], j0m), (.invokevirtual 230, 3, 12, 1, 1, 0, [7148, 7150, 69, 1015, 7151], m_Model_good), j0, j0, (.ifCond .ne 4, 3, 0, 8, 0, 0, [], j0m), j0, j0, (.return_, 1, 0, 0, 0, 0, [], j0m), 
  (.aload_n 0, 1, 0, 0, 0, 0, [], j0m), (.iload_n 1, 1, 1, 0, 0, 0, [], j0m), (.putfield 224, 3, 12, 22, 0, 22, [6213], j0m), j0, j0, (.aload_n 0, 1, 0, 0, 0, 0, [], j0m), (.aload_n 0, 1, 0, 0, 0, 0, [], j0m), 
  (.getfield 206, 3, 12, 19, 0, 19, [6210], j0m), j0, j0, (.putfield 59, 3, 12, 23, 0, 23, [6214], j0m), j0, j0, (.return_, 1, 0, 0, 0, 0, [], j0m)]
set_option maxRecDepth 20000 in
theorem t_Model_wrong : okT m_Model_wrong k_Model_wrong = true := by decide +kernel
def k_Model_takes : List jO := [
  (.aload_n 0, 1, 0, 0, 0, 0, [], j0m), (.aload_n 1, 1, 1, 0, 0, 0, [], j0m), (.invokevirtual 244, 3, 12, 2, 1, 0, [7157, 7159, 71, 1015, 7160], m_Model_is), j0, j0, (.istore_n 2, 1, 2, 0, 0, 0, [], j0m), 
  (.iload_n 2, 1, 2, 0, 0, 0, [], j0m), (.ifCond .eq 7, 3, 0, 14, 0, 0, [], j0m), j0, j0, (.aload_n 0, 1, 0, 0, 0, 0, [], j0m), (.invokevirtual 227, 3, 12, 1, 1, 0, [7137, 7139, 67, 1015, 7140], m_Model_step), 
  j0, j0, (.iload_n 2, 1, 2, 0, 0, 0, [], j0m), (.ireturn, 1, 0, 0, 1, 0, [], j0m)]
set_option maxRecDepth 20000 in
theorem t_Model_takes : okT m_Model_takes k_Model_takes = true := by decide +kernel
def k_Model_readFold : List jO := [
  (.aload_n 0, 1, 0, 0, 0, 0, [], j0m), (.invokevirtual 257, 3, 12, 1, 1, 0, [7178, 7180, 75, 1015, 7181], m_Model_letterHere), j0, j0, (.istore_n 1, 1, 1, 0, 0, 0, [], j0m), (.iload_n 1, 1, 1, 0, 0, 0, [], j0m), 
  (.iconst (-1), 1, 0, 0, 0, 0, [], j0m), (.if_icmp .ne 11, 3, 0, 18, 0, 0, [], j0m), j0, j0, (.aload_n 0, 1, 0, 0, 0, 0, [], j0m), (.iconst 1, 1, 0, 0, 0, 0, [], j0m), (.invokevirtual 251, 3, 12, 2, 1, 0, [7166, 7168, 72, 1015, 7169], m_Model_wrong), 
  j0, j0, (.goto 20, 3, 0, 35, 0, 0, [], j0m), j0, j0, (.aload_n 0, 1, 0, 0, 0, 0, [], j0m), (.getfield 62, 3, 12, 24, 0, 24, [6215], j0m), j0, j0, (.iconst 5, 1, 0, 0, 0, 0, [], j0m), (.iload_n 1, 1, 1, 0, 0, 0, [], j0m), 
  (.iadd, 1, 0, 0, 0, 0, [], j0m), (.iaload, 1, 0, 0, 0, 0, [], j0m), (.iconst (-1), 1, 0, 0, 0, 0, [], j0m), (.if_icmp .eq 8, 3, 0, 35, 0, 0, [], j0m), j0, j0, (.aload_n 0, 1, 0, 0, 0, 0, [], j0m), (.iconst 2, 1, 0, 0, 0, 0, [], j0m), 
  (.invokevirtual 251, 3, 12, 2, 1, 0, [7166, 7168, 72, 1015, 7169], m_Model_wrong), j0, j0, (.aload_n 0, 1, 0, 0, 0, 0, [], j0m), (.invokevirtual 230, 3, 12, 1, 1, 0, [7148, 7150, 69, 1015, 7151], m_Model_good), 
  j0, j0, (.ifCond .ne 4, 3, 0, 43, 0, 0, [], j0m), j0, j0, (.return_, 1, 0, 0, 0, 0, [], j0m), (.aload_n 0, 1, 0, 0, 0, 0, [], j0m), (.invokevirtual 227, 3, 12, 1, 1, 0, [7137, 7139, 67, 1015, 7140], m_Model_step), 
  j0, j0, (.aload_n 0, 1, 0, 0, 0, 0, [], j0m), (.ldc_w 260, 3, 1, 0, 1, 0, [], j0m), j0, j0, (.invokevirtual 262, 3, 12, 2, 1, 0, [7183, 7185, 76, 1015, 7186], m_Model_needs), j0, j0, (.aload_n 0, 1, 0, 0, 0, 0, [], j0m), 
  (.invokevirtual 257, 3, 12, 1, 1, 0, [7178, 7180, 75, 1015, 7181], m_Model_letterHere), j0, j0, (.istore_n 2, 1, 2, 0, 0, 0, [], j0m), (.iload_n 2, 1, 2, 0, 0, 0, [], j0m), (.iconst (-1), 1, 0, 0, 0, 0, [], j0m), 
  (.if_icmp .ne 8, 3, 0, 69, 0, 0, [], j0m), j0, j0, (.aload_n 0, 1, 0, 0, 0, 0, [], j0m), (.iconst 1, 1, 0, 0, 0, 0, [], j0m), (.invokevirtual 251, 3, 12, 2, 1, 0, [7166, 7168, 72, 1015, 7169], m_Model_wrong), 
  j0, j0, (.aload_n 0, 1, 0, 0, 0, 0, [], j0m), (.invokevirtual 230, 3, 12, 1, 1, 0, [7148, 7150, 69, 1015, 7151], m_Model_good), j0, j0, (.ifCond .ne 4, 3, 0, 77, 0, 0, [], j0m), j0, j0, (.return_, 1, 0, 0, 0, 0, [], j0m), 
  (.aload_n 0, 1, 0, 0, 0, 0, [], j0m), (.getfield 62, 3, 12, 24, 0, 24, [6215], j0m), j0, j0, (.iconst 5, 1, 0, 0, 0, 0, [], j0m), (.iload_n 1, 1, 1, 0, 0, 0, [], j0m), (.iadd, 1, 0, 0, 0, 0, [], j0m), 
  (.iload_n 2, 1, 2, 0, 0, 0, [], j0m), (.iastore, 1, 0, 0, 0, 0, [], j0m), (.aload_n 0, 1, 0, 0, 0, 0, [], j0m), (.invokevirtual 227, 3, 12, 1, 1, 0, [7137, 7139, 67, 1015, 7140], m_Model_step), j0, j0, 
  (.return_, 1, 0, 0, 0, 0, [], j0m)]
set_option maxRecDepth 20000 in
theorem t_Model_readFold : okT m_Model_readFold k_Model_readFold = true := by decide +kernel
def k_Model_letterHere : List jO := [
  (.aload_n 0, 1, 0, 0, 0, 0, [], j0m), (.invokevirtual 230, 3, 12, 1, 1, 0, [7148, 7150, 69, 1015, 7151], m_Model_good), j0, j0, (.ifCond .eq 39, 3, 0, 43, 0, 0, [], j0m), j0, j0, (.aload_n 0, 1, 0, 0, 0, 0, [], j0m), 
  (.getfield 209, 3, 12, 20, 0, 20, [6211], j0m), j0, j0, (.iconst 1, 1, 0, 0, 0, 0, [], j0m), (.if_icmp .ne 31, 3, 0, 43, 0, 0, [], j0m), j0, j0, (.aload_n 0, 1, 0, 0, 0, 0, [], j0m), (.getfield 200, 3, 12, 18, 0, 18, [6209], j0m), 
  j0, j0, (.aload_n 0, 1, 0, 0, 0, 0, [], j0m), (.getfield 206, 3, 12, 19, 0, 19, [6210], j0m), j0, j0, (.isub, 1, 0, 0, 0, 0, [], j0m), (.iconst 1, 1, 0, 0, 0, 0, [], j0m), (.if_icmp .ne 18, 3, 0, 43, 0, 0, [], j0m), 
  j0, j0, (.aload_n 0, 1, 0, 0, 0, 0, [], j0m), (.getfield 52, 3, 12, 14, 0, 14, [6205], j0m), j0, j0, (.aload_n 0, 1, 0, 0, 0, 0, [], j0m), (.getfield 206, 3, 12, 19, 0, 19, [6210], j0m), j0, j0, (.baload, 1, 0, 0, 2, 0, [], j0m), 
  (.bipush 97, 2, 0, 0, 0, 0, [], j0m), j0, (.isub, 1, 0, 0, 0, 0, [], j0m), (.goto 4, 3, 0, 44, 0, 0, [], j0m), j0, j0, (.iconst (-1), 1, 0, 0, 0, 0, [], j0m), (.ireturn, 1, 0, 0, 0, 0, [], j0m)]
set_option maxRecDepth 20000 in
theorem t_Model_letterHere : okT m_Model_letterHere k_Model_letterHere = true := by decide +kernel
def k_Model_needs : List jO := [
  (.aload_n 0, 1, 0, 0, 0, 0, [], j0m), (.aload_n 1, 1, 1, 0, 0, 0, [], j0m), (.invokevirtual 248, 3, 12, 2, 1, 0, [7170, 7172, 73, 1015, 7173], m_Model_takes), j0, j0, (.ifCond .ne 8, 3, 0, 13, 0, 0, [], j0m), 
  j0, j0, (.aload_n 0, 1, 0, 0, 0, 0, [], j0m), (.iconst 1, 1, 0, 0, 0, 0, [], j0m), (.invokevirtual 251, 3, 12, 2, 1, 0, [7166, 7168, 72, 1015, 7169], m_Model_wrong), j0, j0, (.return_, 1, 0, 0, 0, 0, [], j0m)
  ]
set_option maxRecDepth 20000 in
theorem t_Model_needs : okT m_Model_needs k_Model_needs = true := by decide +kernel
def k_Model_readRoot : List jO := [
  (.sipush 477, 3, 0, 0, 0, 0, [], j0m), j0, j0, (.bipush 106, 2, 0, 0, 0, 0, [], j0m), j0, (.aload_n 0, 1, 0, 0, 0, 0, [], j0m), (.getfield 62, 3, 12, 24, 0, 24, [6215], j0m), j0, j0, (.iconst 2, 1, 0, 0, 0, 0, [], j0m), 
  (.iaload, 1, 0, 0, 0, 0, [], j0m), (.imul, 1, 0, 0, 0, 0, [], j0m), (.iadd, 1, 0, 0, 0, 0, [], j0m), (.istore_n 1, 1, 1, 0, 0, 0, [], j0m), (.aload_n 0, 1, 0, 0, 0, 0, [], j0m), (.aload_n 0, 1, 0, 0, 0, 0, [], j0m), 
  (.getfield 62, 3, 12, 24, 0, 24, [6215], j0m), j0, j0, (.iload_n 1, 1, 1, 0, 0, 0, [], j0m), (.iconst 1, 1, 0, 0, 0, 0, [], j0m), (.iadd, 1, 0, 0, 0, 0, [], j0m), (.invokevirtual 266, 3, 12, 3, 1, 0, [7191, 7193, 78, 1015, 7194], m_Model_wordTo), 
  j0, j0, (.aload_n 0, 1, 0, 0, 0, 0, [], j0m), (.ldc_w 270, 3, 4, 0, 1, 0, [], j0m), j0, j0, (.invokevirtual 262, 3, 12, 2, 1, 0, [7183, 7185, 76, 1015, 7186], m_Model_needs), j0, j0, (.iconst 1, 1, 0, 0, 0, 0, [], j0m), 
  (.istore_n 2, 1, 2, 0, 0, 0, [], j0m), (.aload_n 0, 1, 0, 0, 0, 0, [], j0m), (.invokevirtual 230, 3, 12, 1, 1, 0, [7148, 7150, 69, 1015, 7151], m_Model_good), j0, j0, (.ifCond .eq 21, 3, 0, 59, 0, 0, [], j0m), 
  j0, j0, (.aload_n 0, 1, 0, 0, 0, 0, [], j0m), (.getfield 209, 3, 12, 20, 0, 20, [6211], j0m), j0, j0, (.iconst 1, 1, 0, 0, 0, 0, [], j0m), (.if_icmp .ne 13, 3, 0, 59, 0, 0, [], j0m), j0, j0, (.iload_n 2, 1, 2, 0, 0, 0, [], j0m), 
  (.iconst 5, 1, 0, 0, 0, 0, [], j0m), (.if_icmp .ne 8, 3, 0, 59, 0, 0, [], j0m), j0, j0, (.aload_n 0, 1, 0, 0, 0, 0, [], j0m), (.iconst 3, 1, 0, 0, 0, 0, [], j0m), (.invokevirtual 251, 3, 12, 2, 1, 0, [7166, 7168, 72, 1015, 7169], m_Model_wrong), 
  j0, j0, (.aload_n 0, 1, 0, 0, 0, 0, [], j0m), (.invokevirtual 230, 3, 12, 1, 1, 0, [7148, 7150, 69, 1015, 7151], m_Model_good), j0, j0, (.ifCond .eq 19, 3, 0, 82, 0, 0, [], j0m), j0, j0, (.aload_n 0, 1, 0, 0, 0, 0, [], j0m), 
  (.aload_n 0, 1, 0, 0, 0, 0, [], j0m), (.getfield 62, 3, 12, 24, 0, 24, [6215], j0m), j0, j0, (.iload_n 1, 1, 1, 0, 0, 0, [], j0m), (.iconst 1, 1, 0, 0, 0, 0, [], j0m), (.iadd, 1, 0, 0, 0, 0, [], j0m), 
  (.bipush 21, 2, 0, 0, 0, 0, [], j0m), j0, (.iload_n 2, 1, 2, 0, 0, 0, [], j0m), (.imul, 1, 0, 0, 0, 0, [], j0m), (.iadd, 1, 0, 0, 0, 0, [], j0m), (.invokevirtual 266, 3, 12, 3, 1, 0, [7191, 7193, 78, 1015, 7194], m_Model_wordTo), 
  j0, j0, (.iinc 2 1, 3, 2, 0, 0, 0, [], j0m), j0, j0, (.aload_n 0, 1, 0, 0, 0, 0, [], j0m), (.invokevirtual 230, 3, 12, 1, 1, 0, [7148, 7150, 69, 1015, 7151], m_Model_good), j0, j0, (.ifCond .eq 11, 3, 0, 100, 0, 0, [], j0m), 
  j0, j0, (.aload_n 0, 1, 0, 0, 0, 0, [], j0m), (.getfield 209, 3, 12, 20, 0, 20, [6211], j0m), j0, j0, (.iconst 1, 1, 0, 0, 0, 0, [], j0m), (.if_icmp .eq (-63), 3, 0, 34, 0, 0, [], j0m), j0, j0, (.aload_n 0, 1, 0, 0, 0, 0, [], j0m), 
  (.getfield 62, 3, 12, 24, 0, 24, [6215], j0m), j0, j0, (.iload_n 1, 1, 1, 0, 0, 0, [], j0m), (.iload_n 2, 1, 2, 0, 0, 0, [], j0m), (.iastore, 1, 0, 0, 0, 0, [], j0m), (.aload_n 0, 1, 0, 0, 0, 0, [], j0m), 
  (.invokevirtual 230, 3, 12, 1, 1, 0, [7148, 7150, 69, 1015, 7151], m_Model_good), j0, j0, (.ifCond .eq 13, 3, 0, 124, 0, 0, [], j0m), j0, j0, (.aload_n 0, 1, 0, 0, 0, 0, [], j0m), (.getfield 62, 3, 12, 24, 0, 24, [6215], j0m), 
  j0, j0, (.iconst 2, 1, 0, 0, 0, 0, [], j0m), (.dup2, 1, 0, 0, 0, 0, [], j0m), (.iaload, 1, 0, 0, 0, 0, [], j0m), (.iconst 1, 1, 0, 0, 0, 0, [], j0m), (.iadd, 1, 0, 0, 0, 0, [], j0m), (.iastore, 1, 0, 0, 0, 0, [], j0m), 
  (.return_, 1, 0, 0, 0, 0, [], j0m)]
set_option maxRecDepth 20000 in
theorem t_Model_readRoot : okT m_Model_readRoot k_Model_readRoot = true := by decide +kernel
def k_Model_wordTo : List jO := [
  (.aload_n 0, 1, 0, 0, 0, 0, [], j0m), (.getfield 209, 3, 12, 20, 0, 20, [6211], j0m), j0, j0, (.iconst 1, 1, 0, 0, 0, 0, [], j0m), (.if_icmp .eq 8, 3, 0, 13, 0, 0, [], j0m), j0, j0, (.aload_n 0, 1, 0, 0, 0, 0, [], j0m), 
  (.iconst 1, 1, 0, 0, 0, 0, [], j0m), (.invokevirtual 251, 3, 12, 2, 1, 0, [7166, 7168, 72, 1015, 7169], m_Model_wrong), j0, j0, (.aload_n 0, 1, 0, 0, 0, 0, [], j0m), (.invokevirtual 230, 3, 12, 1, 1, 0, [7148, 7150, 69, 1015, 7151], m_Model_good), 
  j0, j0, (.ifCond .ne 4, 3, 0, 21, 0, 0, [], j0m), j0, j0, (.return_, 1, 0, 0, 0, 0, [], j0m), (.aload_n 1, 1, 1, 0, 0, 0, [], j0m), (.iload_n 2, 1, 2, 0, 0, 0, [], j0m), (.bipush 20, 2, 0, 0, 0, 0, [], j0m), 
  j0, (.aload_n 0, 1, 0, 0, 0, 0, [], j0m), (.getfield 200, 3, 12, 18, 0, 18, [6209], j0m), j0, j0, (.aload_n 0, 1, 0, 0, 0, 0, [], j0m), (.getfield 206, 3, 12, 19, 0, 19, [6210], j0m), j0, j0, (.isub, 1, 0, 0, 0, 0, [], j0m), 
  (.invokestatic 219, 3, 0, 2, 1, 0, [7147, 3076, 1005, 3077], j0m), j0, j0, (.iastore, 1, 0, 0, 0, 0, [], j0m), (.iconst 1, 1, 0, 0, 0, 0, [], j0m), (.istore_n 3, 1, 3, 0, 0, 0, [], j0m), (.iload_n 3, 1, 3, 0, 0, 0, [], j0m), 
  (.aload_n 1, 1, 1, 0, 0, 0, [], j0m), (.iload_n 2, 1, 2, 0, 0, 0, [], j0m), (.iaload, 1, 0, 0, 0, 0, [], j0m), (.if_icmp .gt 30, 3, 0, 74, 0, 0, [], j0m), j0, j0, (.aload_n 1, 1, 1, 0, 0, 0, [], j0m), 
  (.iload_n 2, 1, 2, 0, 0, 0, [], j0m), (.iload_n 3, 1, 3, 0, 0, 0, [], j0m), (.iadd, 1, 0, 0, 0, 0, [], j0m), (.aload_n 0, 1, 0, 0, 0, 0, [], j0m), (.getfield 52, 3, 12, 14, 0, 14, [6205], j0m), j0, j0, 
  (.aload_n 0, 1, 0, 0, 0, 0, [], j0m), (.getfield 206, 3, 12, 19, 0, 19, [6210], j0m), j0, j0, (.iload_n 3, 1, 3, 0, 0, 0, [], j0m), (.iadd, 1, 0, 0, 0, 0, [], j0m), (.iconst 1, 1, 0, 0, 0, 0, [], j0m), 
  (.isub, 1, 0, 0, 0, 0, [], j0m), (.baload, 1, 0, 0, 2, 0, [], j0m), (.bipush 97, 2, 0, 0, 0, 0, [], j0m), j0, (.isub, 1, 0, 0, 0, 0, [], j0m), (.iastore, 1, 0, 0, 0, 0, [], j0m), (.iinc 3 1, 3, 3, 0, 0, 0, [], j0m), 
  j0, j0, (.goto (-31), 3, 0, 40, 0, 0, [], j0m), j0, j0, (.aload_n 0, 1, 0, 0, 0, 0, [], j0m), (.invokevirtual 227, 3, 12, 1, 1, 0, [7137, 7139, 67, 1015, 7140], m_Model_step), j0, j0, (.return_, 1, 0, 0, 0, 0, [], j0m)
  ]
set_option maxRecDepth 20000 in
theorem t_Model_wordTo : okT m_Model_wordTo k_Model_wordTo = true := by decide +kernel
def k_Model_readOrder : List jO := [
  (.aload_n 0, 1, 0, 0, 0, 0, [], j0m), (.getfield 209, 3, 12, 20, 0, 20, [6211], j0m), j0, j0, (.iconst 1, 1, 0, 0, 0, 0, [], j0m), (.if_icmp .eq 8, 3, 0, 13, 0, 0, [], j0m), j0, j0, (.aload_n 0, 1, 0, 0, 0, 0, [], j0m), 
  (.iconst 1, 1, 0, 0, 0, 0, [], j0m), (.invokevirtual 251, 3, 12, 2, 1, 0, [7166, 7168, 72, 1015, 7169], m_Model_wrong), j0, j0, (.iconst 0, 1, 0, 0, 0, 0, [], j0m), (.istore_n 1, 1, 1, 0, 0, 0, [], j0m), 
  (.iload_n 1, 1, 1, 0, 0, 0, [], j0m), (.bipush 26, 2, 0, 0, 0, 0, [], j0m), j0, (.if_icmp .ge 19, 3, 0, 37, 0, 0, [], j0m), j0, j0, (.aload_n 0, 1, 0, 0, 0, 0, [], j0m), (.getfield 62, 3, 12, 24, 0, 24, [6215], j0m), 
  j0, j0, (.bipush 31, 2, 0, 0, 0, 0, [], j0m), j0, (.iload_n 1, 1, 1, 0, 0, 0, [], j0m), (.iadd, 1, 0, 0, 0, 0, [], j0m), (.iconst (-1), 1, 0, 0, 0, 0, [], j0m), (.iastore, 1, 0, 0, 0, 0, [], j0m), (.iinc 1 1, 3, 1, 0, 0, 0, [], j0m), 
  j0, j0, (.goto (-19), 3, 0, 15, 0, 0, [], j0m), j0, j0, (.iconst 0, 1, 0, 0, 0, 0, [], j0m), (.istore_n 1, 1, 1, 0, 0, 0, [], j0m), (.aload_n 0, 1, 0, 0, 0, 0, [], j0m), (.getfield 206, 3, 12, 19, 0, 19, [6210], j0m), 
  j0, j0, (.istore_n 2, 1, 2, 0, 0, 0, [], j0m), (.aload_n 0, 1, 0, 0, 0, 0, [], j0m), (.invokevirtual 230, 3, 12, 1, 1, 0, [7148, 7150, 69, 1015, 7151], m_Model_good), j0, j0, (.ifCond .eq 61, 3, 0, 109, 0, 0, [], j0m), 
  j0, j0, (.iload_n 2, 1, 2, 0, 0, 0, [], j0m), (.aload_n 0, 1, 0, 0, 0, 0, [], j0m), (.getfield 200, 3, 12, 18, 0, 18, [6209], j0m), j0, j0, (.if_icmp .ge 53, 3, 0, 109, 0, 0, [], j0m), j0, j0, (.aload_n 0, 1, 0, 0, 0, 0, [], j0m), 
  (.getfield 52, 3, 12, 14, 0, 14, [6205], j0m), j0, j0, (.iload_n 2, 1, 2, 0, 0, 0, [], j0m), (.baload, 1, 0, 0, 2, 0, [], j0m), (.bipush 97, 2, 0, 0, 0, 0, [], j0m), j0, (.isub, 1, 0, 0, 0, 0, [], j0m), 
  (.istore_n 3, 1, 3, 0, 0, 0, [], j0m), (.aload_n 0, 1, 0, 0, 0, 0, [], j0m), (.getfield 62, 3, 12, 24, 0, 24, [6215], j0m), j0, j0, (.bipush 31, 2, 0, 0, 0, 0, [], j0m), j0, (.iload_n 3, 1, 3, 0, 0, 0, [], j0m), 
  (.iadd, 1, 0, 0, 0, 0, [], j0m), (.iaload, 1, 0, 0, 0, 0, [], j0m), (.iconst (-1), 1, 0, 0, 0, 0, [], j0m), (.if_icmp .eq 11, 3, 0, 90, 0, 0, [], j0m), j0, j0, (.aload_n 0, 1, 0, 0, 0, 0, [], j0m), (.iconst 2, 1, 0, 0, 0, 0, [], j0m), 
  (.invokevirtual 251, 3, 12, 2, 1, 0, [7166, 7168, 72, 1015, 7169], m_Model_wrong), j0, j0, (.goto 16, 3, 0, 103, 0, 0, [], j0m), j0, j0, (.aload_n 0, 1, 0, 0, 0, 0, [], j0m), (.getfield 62, 3, 12, 24, 0, 24, [6215], j0m), 
  j0, j0, (.bipush 31, 2, 0, 0, 0, 0, [], j0m), j0, (.iload_n 3, 1, 3, 0, 0, 0, [], j0m), (.iadd, 1, 0, 0, 0, 0, [], j0m), (.iload_n 1, 1, 1, 0, 0, 0, [], j0m), (.iastore, 1, 0, 0, 0, 0, [], j0m), (.iinc 1 1, 3, 1, 0, 0, 0, [], j0m), 
  j0, j0, (.iinc 2 1, 3, 2, 0, 0, 0, [], j0m), j0, j0, (.goto (-62), 3, 0, 44, 0, 0, [], j0m), j0, j0, (.aload_n 0, 1, 0, 0, 0, 0, [], j0m), (.invokevirtual 230, 3, 12, 1, 1, 0, [7148, 7150, 69, 1015, 7151], m_Model_good), 
  j0, j0, (.ifCond .ne 4, 3, 0, 117, 0, 0, [], j0m), j0, j0, (.return_, 1, 0, 0, 0, 0, [], j0m), (.iconst 0, 1, 0, 0, 0, 0, [], j0m), (.istore_n 2, 1, 2, 0, 0, 0, [], j0m), (.iload_n 2, 1, 2, 0, 0, 0, [], j0m), 
  (.bipush 26, 2, 0, 0, 0, 0, [], j0m), j0, (.if_icmp .ge 38, 3, 0, 160, 0, 0, [], j0m), j0, j0, (.aload_n 0, 1, 0, 0, 0, 0, [], j0m), (.getfield 62, 3, 12, 24, 0, 24, [6215], j0m), j0, j0, (.bipush 31, 2, 0, 0, 0, 0, [], j0m), 
  j0, (.iload_n 2, 1, 2, 0, 0, 0, [], j0m), (.iadd, 1, 0, 0, 0, 0, [], j0m), (.iaload, 1, 0, 0, 0, 0, [], j0m), (.iconst (-1), 1, 0, 0, 0, 0, [], j0m), (.if_icmp .eq 6, 3, 0, 141, 0, 0, [], j0m), j0, j0, 
  (.goto 16, 3, 0, 154, 0, 0, [], j0m), j0, j0, (.aload_n 0, 1, 0, 0, 0, 0, [], j0m), (.getfield 62, 3, 12, 24, 0, 24, [6215], j0m), j0, j0, (.bipush 31, 2, 0, 0, 0, 0, [], j0m), j0, (.iload_n 2, 1, 2, 0, 0, 0, [], j0m), 
  (.iadd, 1, 0, 0, 0, 0, [], j0m), (.iload_n 1, 1, 1, 0, 0, 0, [], j0m), (.iastore, 1, 0, 0, 0, 0, [], j0m), (.iinc 1 1, 3, 1, 0, 0, 0, [], j0m), j0, j0, (.iinc 2 1, 3, 2, 0, 0, 0, [], j0m), j0, j0, (.goto (-38), 3, 0, 119, 0, 0, [], j0m), 
  j0, j0, (.aload_n 0, 1, 0, 0, 0, 0, [], j0m), (.iconst 1, 1, 0, 0, 0, 0, [], j0m), (.putfield 272, 3, 12, 25, 0, 25, [6216], j0m), j0, j0, (.aload_n 0, 1, 0, 0, 0, 0, [], j0m), (.invokevirtual 227, 3, 12, 1, 1, 0, [7137, 7139, 67, 1015, 7140], m_Model_step), 
  j0, j0, (.return_, 1, 0, 0, 0, 0, [], j0m)]
set_option maxRecDepth 20000 in
theorem t_Model_readOrder : okT m_Model_readOrder k_Model_readOrder = true := by decide +kernel
def k_Model_needsSign : List jO := [
  (.aload_n 0, 1, 0, 0, 0, 0, [], j0m), (.iload_n 1, 1, 1, 0, 0, 0, [], j0m), (.invokevirtual 254, 3, 12, 2, 1, 0, [7204, 7206, 81, 1015, 7207], m_Model_isSign), j0, j0, (.ifCond .ne 11, 3, 0, 16, 0, 0, [], j0m), 
  j0, j0, (.aload_n 0, 1, 0, 0, 0, 0, [], j0m), (.iconst 1, 1, 0, 0, 0, 0, [], j0m), (.invokevirtual 251, 3, 12, 2, 1, 0, [7166, 7168, 72, 1015, 7169], m_Model_wrong), j0, j0, (.goto 7, 3, 0, 20, 0, 0, [], j0m), 
  j0, j0, (.aload_n 0, 1, 0, 0, 0, 0, [], j0m), (.invokevirtual 227, 3, 12, 1, 1, 0, [7137, 7139, 67, 1015, 7140], m_Model_step), j0, j0, (.return_, 1, 0, 0, 0, 0, [], j0m)]
set_option maxRecDepth 20000 in
theorem t_Model_needsSign : okT m_Model_needsSign k_Model_needsSign = true := by decide +kernel
def k_Model_isSign : List jO := [
  (.aload_n 0, 1, 0, 0, 0, 0, [], j0m), (.invokevirtual 230, 3, 12, 1, 1, 0, [7148, 7150, 69, 1015, 7151], m_Model_good), j0, j0, (.ifCond .eq 23, 3, 0, 27, 0, 0, [], j0m), j0, j0, (.aload_n 0, 1, 0, 0, 0, 0, [], j0m), 
  (.getfield 209, 3, 12, 20, 0, 20, [6211], j0m), j0, j0, (.iconst 3, 1, 0, 0, 0, 0, [], j0m), (.if_icmp .ne 15, 3, 0, 27, 0, 0, [], j0m), j0, j0, (.aload_n 0, 1, 0, 0, 0, 0, [], j0m), (.getfield 216, 3, 12, 21, 0, 21, [6212], j0m), 
  j0, j0, (.iload_n 1, 1, 1, 0, 0, 0, [], j0m), (.if_icmp .ne 7, 3, 0, 27, 0, 0, [], j0m), j0, j0, (.iconst 1, 1, 0, 0, 0, 0, [], j0m), (.goto 4, 3, 0, 28, 0, 0, [], j0m), j0, j0, (.iconst 0, 1, 0, 0, 0, 0, [], j0m), 
  (.ireturn, 1, 0, 0, 1, 0, [], j0m)]
set_option maxRecDepth 20000 in
theorem t_Model_isSign : okT m_Model_isSign k_Model_isSign = true := by decide +kernel
def k_Model_line : List jO := [
  (.iload_n 1, 1, 1, 0, 0, 0, [], j0m), (.invokestatic 308, 3, 0, 1, 0, 0, [7212, 7213, 1015, 7214], m_Model_isEdition), j0, j0, (.ifCond .ne 6, 3, 0, 10, 0, 0, [], j0m), j0, j0, (.bipush (-2), 2, 0, 0, 0, 0, [], j0m), 
  j0, (.ireturn, 1, 0, 0, 0, 0, [], j0m), (.aload_n 0, 1, 0, 0, 0, 0, [], j0m), (.invokevirtual 311, 3, 12, 1, 1, 0, [7215, 7217, 82, 1015, 7218], m_Model_tapeLine), j0, j0, (.istore_n 2, 1, 2, 0, 0, 0, [], j0m), 
  (.iload_n 2, 1, 2, 0, 0, 0, [], j0m), (.iconst (-1), 1, 0, 0, 0, 0, [], j0m), (.if_icmp .ne 8, 3, 0, 25, 0, 0, [], j0m), j0, j0, (.bipush (-4), 2, 0, 0, 0, 0, [], j0m), j0, (.goto 9, 3, 0, 31, 0, 0, [], j0m), 
  j0, j0, (.aload_n 0, 1, 0, 0, 0, 0, [], j0m), (.iload_n 1, 1, 1, 0, 0, 0, [], j0m), (.iload_n 2, 1, 2, 0, 0, 0, [], j0m), (.invokevirtual 314, 3, 12, 3, 1, 0, [7222, 7224, 83, 1015, 7225], m_Model_further), 
  j0, j0, (.ireturn, 1, 0, 0, 0, 0, [], j0m)]
set_option maxRecDepth 20000 in
theorem t_Model_line : okT m_Model_line k_Model_line = true := by decide +kernel
def k_Model_isEdition : List jO := [
  (.iload_n 0, 1, 0, 0, 0, 0, [], j0m), (.i2l, 1, 0, 0, 0, 0, [], j0m), (.lconst 0, 1, 0, 0, 0, 0, [], j0m), (.lconst 1, 1, 0, 0, 0, 1, [], j0m), (.invokestatic 130, 3, 0, 3, 0, 0, [7110, 7111, 1015, 7112], m_Model_in), 
  j0, j0, (.ireturn, 1, 0, 0, 1, 0, [], j0m)]
set_option maxRecDepth 20000 in
theorem t_Model_isEdition : okT m_Model_isEdition k_Model_isEdition = true := by decide +kernel
def k_Model_tapeLine : List jO := [
  (.aload_n 0, 1, 0, 0, 0, 0, [], j0m), (.getfield 194, 3, 12, 15, 0, 15, [6206], j0m), j0, j0, (.istore_n 1, 1, 1, 0, 0, 0, [], j0m), (.aload_n 0, 1, 0, 0, 0, 0, [], j0m), (.iconst 0, 1, 0, 0, 0, 0, [], j0m), 
  (.putfield 194, 3, 12, 15, 0, 15, [6206], j0m), j0, j0, (.iload_n 1, 1, 1, 0, 0, 0, [], j0m), (.bipush 60, 2, 0, 0, 0, 0, [], j0m), j0, (.if_icmp .le 5, 3, 0, 18, 0, 0, [], j0m), j0, j0, (.iconst (-1), 1, 0, 0, 0, 0, [], j0m), 
  (.ireturn, 1, 0, 0, 0, 0, [], j0m), (.iconst 0, 1, 0, 0, 0, 0, [], j0m), (.istore_n 2, 1, 2, 0, 0, 0, [], j0m), (.iload_n 2, 1, 2, 0, 0, 0, [], j0m), (.iload_n 1, 1, 1, 0, 0, 0, [], j0m), (.if_icmp .ge 35, 3, 0, 57, 0, 0, [], j0m), 
  j0, j0, (.aload_n 0, 1, 0, 0, 0, 0, [], j0m), (.getfield 68, 3, 12, 27, 0, 27, [6218], j0m), j0, j0, (.iload_n 2, 1, 2, 0, 0, 0, [], j0m), (.aload_n 0, 1, 0, 0, 0, 0, [], j0m), (.getfield 52, 3, 12, 14, 0, 14, [6205], j0m), 
  j0, j0, (.iload_n 2, 1, 2, 0, 0, 0, [], j0m), (.baload, 1, 0, 0, 2, 0, [], j0m), (.iastore, 1, 0, 0, 0, 0, [], j0m), (.aload_n 0, 1, 0, 0, 0, 0, [], j0m), (.getfield 68, 3, 12, 27, 0, 27, [6218], j0m), 
  j0, j0, (.iload_n 2, 1, 2, 0, 0, 0, [], j0m), (.iaload, 1, 0, 0, 0, 0, [], j0m), (.invokestatic 302, 3, 0, 1, 0, 0, [7219, 7220, 1015, 7221], m_Model_isByte), j0, j0, (.ifCond .ne 5, 3, 0, 51, 0, 0, [], j0m), 
  j0, j0, (.iconst (-1), 1, 0, 0, 0, 0, [], j0m), (.ireturn, 1, 0, 0, 0, 0, [], j0m), (.iinc 2 1, 3, 2, 0, 0, 0, [], j0m), j0, j0, (.goto (-34), 3, 0, 20, 0, 0, [], j0m), j0, j0, (.iload_n 1, 1, 1, 0, 0, 0, [], j0m), 
  (.ireturn, 1, 0, 0, 0, 0, [], j0m)]
set_option maxRecDepth 20000 in
theorem t_Model_tapeLine : okT m_Model_tapeLine k_Model_tapeLine = true := by decide +kernel
def k_Model_isByte : List jO := [
  (.iload_n 0, 1, 0, 0, 0, 0, [], j0m), (.invokestatic 144, 3, 0, 1, 0, 0, [6159, 6160, 1015, 6161], m_Model_isLetter), j0, j0, (.ifCond .ne 15, 3, 0, 19, 0, 0, [], j0m), j0, j0, (.iload_n 0, 1, 0, 0, 0, 0, [], j0m), 
  (.bipush 32, 2, 0, 0, 0, 0, [], j0m), j0, (.if_icmp .eq 9, 3, 0, 19, 0, 0, [], j0m), j0, j0, (.iload_n 0, 1, 0, 0, 0, 0, [], j0m), (.bipush 45, 2, 0, 0, 0, 0, [], j0m), j0, (.if_icmp .ne 7, 3, 0, 23, 0, 0, [], j0m), 
  j0, j0, (.iconst 1, 1, 0, 0, 0, 0, [], j0m), (.goto 4, 3, 0, 24, 0, 0, [], j0m), j0, j0, (.iconst 0, 1, 0, 0, 0, 0, [], j0m), (.ireturn, 1, 0, 0, 1, 0, [], j0m)]
set_option maxRecDepth 20000 in
theorem t_Model_isByte : okT m_Model_isByte k_Model_isByte = true := by decide +kernel
def k_Model_further : List jO := [
  (.aload_n 0, 1, 0, 0, 0, 0, [], j0m), (.iload_n 1, 1, 1, 0, 0, 0, [], j0m), (.invokevirtual 148, 3, 12, 2, 1, 0, [6144, 6146, 57, 1015, 6147], m_Model_linesOf), j0, j0, (.bipush 40, 2, 0, 0, 0, 0, [], j0m), 
  j0, (.if_icmp .eq 17, 3, 0, 24, 0, 0, [], j0m), j0, j0, (.aload_n 0, 1, 0, 0, 0, 0, [], j0m), (.iload_n 1, 1, 1, 0, 0, 0, [], j0m), (.aload_n 0, 1, 0, 0, 0, 0, [], j0m), (.iload_n 1, 1, 1, 0, 0, 0, [], j0m), 
  (.invokevirtual 148, 3, 12, 2, 1, 0, [6144, 6146, 57, 1015, 6147], m_Model_linesOf), j0, j0, (.iload_n 2, 1, 2, 0, 0, 0, [], j0m), (.invokevirtual 305, 3, 12, 4, 1, 0, [7226, 7228, 84, 1015, 7229], m_Model_lays), 
  j0, j0, (.ifCond .ne 6, 3, 0, 27, 0, 0, [], j0m), j0, j0, (.bipush (-3), 2, 0, 0, 0, 0, [], j0m), j0, (.ireturn, 1, 0, 0, 0, 0, [], j0m), (.aload_n 0, 1, 0, 0, 0, 0, [], j0m), (.iload_n 1, 1, 1, 0, 0, 0, [], j0m), 
  (.invokevirtual 148, 3, 12, 2, 1, 0, [6144, 6146, 57, 1015, 6147], m_Model_linesOf), j0, j0, (.iconst 1, 1, 0, 0, 0, 0, [], j0m), (.isub, 1, 0, 0, 0, 0, [], j0m), (.ireturn, 1, 0, 0, 0, 0, [], j0m)]
set_option maxRecDepth 20000 in
theorem t_Model_further : okT m_Model_further k_Model_further = true := by decide +kernel
def k_Model_lays : List jO := [
  (.iload_n 1, 1, 1, 0, 0, 0, [], j0m), (.iload_n 2, 1, 2, 0, 0, 0, [], j0m), (.invokestatic 136, 3, 0, 2, 0, 0, [6152, 6153, 1015, 6154], m_Model_lineAt), j0, j0, (.istore 4, 2, 4, 0, 0, 0, [], j0m), 
  j0, (.iload_n 2, 1, 2, 0, 0, 0, [], j0m), (.aload_n 0, 1, 0, 0, 0, 0, [], j0m), (.iload_n 1, 1, 1, 0, 0, 0, [], j0m), (.invokevirtual 148, 3, 12, 2, 1, 0, [6144, 6146, 57, 1015, 6147], m_Model_linesOf), 
  j0, j0, (.if_icmp .ne 7, 3, 0, 20, 0, 0, [], j0m), j0, j0, (.iconst 1, 1, 0, 0, 0, 0, [], j0m), (.goto 4, 3, 0, 21, 0, 0, [], j0m), j0, j0, (.iconst 0, 1, 0, 0, 0, 0, [], j0m), (.istore 5, 2, 5, 0, 0, 0, [], j0m), 
  j0, (.iconst 0, 1, 0, 0, 0, 0, [], j0m), (.istore 6, 2, 6, 0, 0, 0, [], j0m), j0, (.iload 6, 2, 6, 0, 0, 0, [], j0m), j0, (.bipush 61, 2, 0, 0, 0, 0, [], j0m), j0, (.if_icmp .ge 26, 3, 0, 56, 0, 0, [], j0m), 
  j0, j0, (.aload_n 0, 1, 0, 0, 0, 0, [], j0m), (.getfield 65, 3, 12, 26, 0, 26, [6217], j0m), j0, j0, (.iload 6, 2, 6, 0, 0, 0, [], j0m), j0, (.aload_n 0, 1, 0, 0, 0, 0, [], j0m), (.getfield 13, 3, 12, 1, 0, 1, [6192], j0m), 
  j0, j0, (.iload 4, 2, 4, 0, 0, 0, [], j0m), j0, (.iload 6, 2, 6, 0, 0, 0, [], j0m), j0, (.iadd, 1, 0, 0, 0, 0, [], j0m), (.iaload, 1, 0, 0, 0, 0, [], j0m), (.iastore, 1, 0, 0, 0, 0, [], j0m), (.iinc 6 1, 3, 6, 0, 0, 0, [], j0m), 
  j0, j0, (.goto (-27), 3, 0, 26, 0, 0, [], j0m), j0, j0, (.aload_n 0, 1, 0, 0, 0, 0, [], j0m), (.getfield 13, 3, 12, 1, 0, 1, [6192], j0m), j0, j0, (.iload 4, 2, 4, 0, 0, 0, [], j0m), j0, (.iload_n 3, 1, 3, 0, 0, 0, [], j0m), 
  (.iastore, 1, 0, 0, 0, 0, [], j0m), (.iconst 0, 1, 0, 0, 0, 0, [], j0m), (.istore 6, 2, 6, 0, 0, 0, [], j0m), j0, (.iload 6, 2, 6, 0, 0, 0, [], j0m), j0, (.iload_n 3, 1, 3, 0, 0, 0, [], j0m), (.if_icmp .ge 28, 3, 0, 98, 0, 0, [], j0m), 
  j0, j0, (.aload_n 0, 1, 0, 0, 0, 0, [], j0m), (.getfield 13, 3, 12, 1, 0, 1, [6192], j0m), j0, j0, (.iload 4, 2, 4, 0, 0, 0, [], j0m), j0, (.iconst 1, 1, 0, 0, 0, 0, [], j0m), (.iadd, 1, 0, 0, 0, 0, [], j0m), 
  (.iload 6, 2, 6, 0, 0, 0, [], j0m), j0, (.iadd, 1, 0, 0, 0, 0, [], j0m), (.aload_n 0, 1, 0, 0, 0, 0, [], j0m), (.getfield 68, 3, 12, 27, 0, 27, [6218], j0m), j0, j0, (.iload 6, 2, 6, 0, 0, 0, [], j0m), 
  j0, (.iaload, 1, 0, 0, 0, 0, [], j0m), (.iastore, 1, 0, 0, 0, 0, [], j0m), (.iinc 6 1, 3, 6, 0, 0, 0, [], j0m), j0, j0, (.goto (-28), 3, 0, 67, 0, 0, [], j0m), j0, j0, (.aload_n 0, 1, 0, 0, 0, 0, [], j0m), 
  (.getfield 13, 3, 12, 1, 0, 1, [6192], j0m), j0, j0, (.iconst 3, 1, 0, 0, 0, 0, [], j0m), (.iload_n 1, 1, 1, 0, 0, 0, [], j0m), (.iadd, 1, 0, 0, 0, 0, [], j0m), (.dup2, 1, 0, 0, 0, 0, [], j0m), (.iaload, 1, 0, 0, 0, 0, [], j0m), 
  (.iload 5, 2, 5, 0, 0, 0, [], j0m), j0, (.ifCond .eq 7, 3, 0, 116, 0, 0, [], j0m), j0, j0, (.iconst 1, 1, 0, 0, 0, 0, [], j0m), (.goto 4, 3, 0, 117, 0, 0, [], j0m), j0, j0, (.iconst 0, 1, 0, 0, 0, 0, [], j0m), 
  (.iadd, 1, 0, 0, 0, 0, [], j0m), (.iastore, 1, 0, 0, 0, 0, [], j0m), (.aload_n 0, 1, 0, 0, 0, 0, [], j0m), (.iload_n 1, 1, 1, 0, 0, 0, [], j0m), (.invokevirtual 184, 3, 12, 2, 1, 0, [6140, 6142, 56, 1015, 6143], m_Model_makesWords), 
  j0, j0, (.aload_n 0, 1, 0, 0, 0, 0, [], j0m), (.getfield 25, 3, 12, 4, 0, 4, [6195], j0m), j0, j0, (.iload_n 1, 1, 1, 0, 0, 0, [], j0m), (.iaload, 1, 0, 0, 0, 0, [], j0m), (.sipush 300, 3, 0, 0, 0, 0, [], j0m), 
  j0, j0, (.if_icmp .gt 7, 3, 0, 140, 0, 0, [], j0m), j0, j0, (.iconst 1, 1, 0, 0, 0, 0, [], j0m), (.goto 4, 3, 0, 141, 0, 0, [], j0m), j0, j0, (.iconst 0, 1, 0, 0, 0, 0, [], j0m), (.istore 6, 2, 6, 0, 0, 0, [], j0m), 
  j0, (.iload 6, 2, 6, 0, 0, 0, [], j0m), j0, (.ifCond .ne 57, 3, 0, 202, 0, 0, [], j0m), j0, j0, (.iconst 0, 1, 0, 0, 0, 0, [], j0m), (.istore 7, 2, 7, 0, 0, 0, [], j0m), j0, (.iload 7, 2, 7, 0, 0, 0, [], j0m), 
  j0, (.bipush 61, 2, 0, 0, 0, 0, [], j0m), j0, (.if_icmp .ge 26, 3, 0, 181, 0, 0, [], j0m), j0, j0, (.aload_n 0, 1, 0, 0, 0, 0, [], j0m), (.getfield 13, 3, 12, 1, 0, 1, [6192], j0m), j0, j0, (.iload 4, 2, 4, 0, 0, 0, [], j0m), 
  j0, (.iload 7, 2, 7, 0, 0, 0, [], j0m), j0, (.iadd, 1, 0, 0, 0, 0, [], j0m), (.aload_n 0, 1, 0, 0, 0, 0, [], j0m), (.getfield 65, 3, 12, 26, 0, 26, [6217], j0m), j0, j0, (.iload 7, 2, 7, 0, 0, 0, [], j0m), 
  j0, (.iaload, 1, 0, 0, 0, 0, [], j0m), (.iastore, 1, 0, 0, 0, 0, [], j0m), (.iinc 7 1, 3, 7, 0, 0, 0, [], j0m), j0, j0, (.goto (-27), 3, 0, 151, 0, 0, [], j0m), j0, j0, (.aload_n 0, 1, 0, 0, 0, 0, [], j0m), 
  (.getfield 13, 3, 12, 1, 0, 1, [6192], j0m), j0, j0, (.iconst 3, 1, 0, 0, 0, 0, [], j0m), (.iload_n 1, 1, 1, 0, 0, 0, [], j0m), (.iadd, 1, 0, 0, 0, 0, [], j0m), (.dup2, 1, 0, 0, 0, 0, [], j0m), (.iaload, 1, 0, 0, 0, 0, [], j0m), 
  (.iload 5, 2, 5, 0, 0, 0, [], j0m), j0, (.ifCond .eq 7, 3, 0, 199, 0, 0, [], j0m), j0, j0, (.iconst 1, 1, 0, 0, 0, 0, [], j0m), (.goto 4, 3, 0, 200, 0, 0, [], j0m), j0, j0, (.iconst 0, 1, 0, 0, 0, 0, [], j0m), 
  (.isub, 1, 0, 0, 0, 0, [], j0m), (.iastore, 1, 0, 0, 0, 0, [], j0m), (.aload_n 0, 1, 0, 0, 0, 0, [], j0m), (.invokevirtual 127, 3, 12, 1, 1, 0, [6136, 6138, 55, 1015, 6139], m_Model_makes), j0, j0, (.iload 6, 2, 6, 0, 0, 0, [], j0m), 
  j0, (.ireturn, 1, 0, 0, 1, 0, [], j0m)]
set_option maxRecDepth 20000 in
theorem t_Model_lays : okT m_Model_lays k_Model_lays = true := by decide +kernel
def k_Model_right : List jO := [
  (.iload_n 1, 1, 1, 0, 0, 0, [], j0m), (.invokestatic 308, 3, 0, 1, 0, 0, [7212, 7213, 1015, 7214], m_Model_isEdition), j0, j0, (.ifCond .eq 20, 3, 0, 24, 0, 0, [], j0m), j0, j0, (.iload_n 2, 1, 2, 0, 0, 0, [], j0m), 
  (.i2l, 1, 0, 0, 0, 0, [], j0m), (.lconst 0, 1, 0, 0, 0, 0, [], j0m), (.aload_n 0, 1, 0, 0, 0, 0, [], j0m), (.iload_n 1, 1, 1, 0, 0, 0, [], j0m), (.invokevirtual 148, 3, 12, 2, 1, 0, [6144, 6146, 57, 1015, 6147], m_Model_linesOf), 
  j0, j0, (.iconst 1, 1, 0, 0, 0, 0, [], j0m), (.isub, 1, 0, 0, 0, 0, [], j0m), (.i2l, 1, 0, 0, 0, 0, [], j0m), (.invokestatic 130, 3, 0, 3, 0, 0, [7110, 7111, 1015, 7112], m_Model_in), j0, j0, (.ifCond .ne 6, 3, 0, 27, 0, 0, [], j0m), 
  j0, j0, (.bipush (-2), 2, 0, 0, 0, 0, [], j0m), j0, (.ireturn, 1, 0, 0, 0, 0, [], j0m), (.aload_n 0, 1, 0, 0, 0, 0, [], j0m), (.invokevirtual 311, 3, 12, 1, 1, 0, [7215, 7217, 82, 1015, 7218], m_Model_tapeLine), 
  j0, j0, (.istore_n 3, 1, 3, 0, 0, 0, [], j0m), (.iload_n 3, 1, 3, 0, 0, 0, [], j0m), (.iconst (-1), 1, 0, 0, 0, 0, [], j0m), (.if_icmp .ne 6, 3, 0, 40, 0, 0, [], j0m), j0, j0, (.bipush (-4), 2, 0, 0, 0, 0, [], j0m), 
  j0, (.ireturn, 1, 0, 0, 0, 0, [], j0m), (.aload_n 0, 1, 0, 0, 0, 0, [], j0m), (.iload_n 1, 1, 1, 0, 0, 0, [], j0m), (.iload_n 2, 1, 2, 0, 0, 0, [], j0m), (.iload_n 3, 1, 3, 0, 0, 0, [], j0m), (.invokevirtual 305, 3, 12, 4, 1, 0, [7226, 7228, 84, 1015, 7229], m_Model_lays), 
  j0, j0, (.ifCond .eq 12, 3, 0, 59, 0, 0, [], j0m), j0, j0, (.aload_n 0, 1, 0, 0, 0, 0, [], j0m), (.getfield 25, 3, 12, 4, 0, 4, [6195], j0m), j0, j0, (.iload_n 1, 1, 1, 0, 0, 0, [], j0m), (.iaload, 1, 0, 0, 0, 0, [], j0m), 
  (.goto 5, 3, 0, 61, 0, 0, [], j0m), j0, j0, (.bipush (-3), 2, 0, 0, 0, 0, [], j0m), j0, (.ireturn, 1, 0, 0, 0, 0, [], j0m)]
set_option maxRecDepth 20000 in
theorem t_Model_right : okT m_Model_right k_Model_right = true := by decide +kernel
def k_Model_lineOf : List jO := [
  (.iload_n 1, 1, 1, 0, 0, 0, [], j0m), (.invokestatic 308, 3, 0, 1, 0, 0, [7212, 7213, 1015, 7214], m_Model_isEdition), j0, j0, (.ifCond .eq 10, 3, 0, 14, 0, 0, [], j0m), j0, j0, (.iload_n 2, 1, 2, 0, 0, 0, [], j0m), 
  (.invokestatic 317, 3, 0, 1, 0, 0, [7238, 7239, 1015, 8000], m_Model_isSlot), j0, j0, (.ifCond .ne 6, 3, 0, 17, 0, 0, [], j0m), j0, j0, (.bipush (-2), 2, 0, 0, 0, 0, [], j0m), j0, (.ireturn, 1, 0, 0, 0, 0, [], j0m), 
  (.aload_n 0, 1, 0, 0, 0, 0, [], j0m), (.getfield 110, 3, 12, 47, 0, 47, [6238], j0m), j0, j0, (.iload_n 2, 1, 2, 0, 0, 0, [], j0m), (.iaload, 1, 0, 0, 0, 0, [], j0m), (.iconst (-1), 1, 0, 0, 0, 0, [], j0m), 
  (.if_icmp .ne 6, 3, 0, 30, 0, 0, [], j0m), j0, j0, (.bipush (-6), 2, 0, 0, 0, 0, [], j0m), j0, (.ireturn, 1, 0, 0, 0, 0, [], j0m), (.aload_n 0, 1, 0, 0, 0, 0, [], j0m), (.getfield 113, 3, 12, 48, 0, 48, [6239], j0m), 
  j0, j0, (.iload_n 2, 1, 2, 0, 0, 0, [], j0m), (.iaload, 1, 0, 0, 0, 0, [], j0m), (.ifCond .eq 6, 3, 0, 42, 0, 0, [], j0m), j0, j0, (.bipush (-8), 2, 0, 0, 0, 0, [], j0m), j0, (.ireturn, 1, 0, 0, 0, 0, [], j0m), 
  (.iconst 0, 1, 0, 0, 0, 0, [], j0m), (.istore_n 3, 1, 3, 0, 0, 0, [], j0m), (.iload_n 3, 1, 3, 0, 0, 0, [], j0m), (.aload_n 0, 1, 0, 0, 0, 0, [], j0m), (.getfield 110, 3, 12, 47, 0, 47, [6238], j0m), 
  j0, j0, (.iload_n 2, 1, 2, 0, 0, 0, [], j0m), (.iaload, 1, 0, 0, 0, 0, [], j0m), (.if_icmp .ge 42, 3, 0, 93, 0, 0, [], j0m), j0, j0, (.aload_n 0, 1, 0, 0, 0, 0, [], j0m), (.getfield 68, 3, 12, 27, 0, 27, [6218], j0m), 
  j0, j0, (.iload_n 3, 1, 3, 0, 0, 0, [], j0m), (.aload_n 0, 1, 0, 0, 0, 0, [], j0m), (.getfield 116, 3, 12, 49, 0, 49, [7000], j0m), j0, j0, (.bipush 60, 2, 0, 0, 0, 0, [], j0m), j0, (.iload_n 2, 1, 2, 0, 0, 0, [], j0m), 
  (.imul, 1, 0, 0, 0, 0, [], j0m), (.iload_n 3, 1, 3, 0, 0, 0, [], j0m), (.iadd, 1, 0, 0, 0, 0, [], j0m), (.laload, 1, 0, 0, 0, 0, [], j0m), (.l2i, 1, 0, 0, 0, 0, [], j0m), (.iastore, 1, 0, 0, 0, 0, [], j0m), 
  (.aload_n 0, 1, 0, 0, 0, 0, [], j0m), (.getfield 68, 3, 12, 27, 0, 27, [6218], j0m), j0, j0, (.iload_n 3, 1, 3, 0, 0, 0, [], j0m), (.iaload, 1, 0, 0, 0, 0, [], j0m), (.invokestatic 302, 3, 0, 1, 0, 0, [7219, 7220, 1015, 7221], m_Model_isByte), 
  j0, j0, (.ifCond .ne 6, 3, 0, 87, 0, 0, [], j0m), j0, j0, (.bipush (-4), 2, 0, 0, 0, 0, [], j0m), j0, (.ireturn, 1, 0, 0, 0, 0, [], j0m), (.iinc 3 1, 3, 3, 0, 0, 0, [], j0m), j0, j0, (.goto (-46), 3, 0, 44, 0, 0, [], j0m), 
  j0, j0, (.aload_n 0, 1, 0, 0, 0, 0, [], j0m), (.iload_n 1, 1, 1, 0, 0, 0, [], j0m), (.aload_n 0, 1, 0, 0, 0, 0, [], j0m), (.getfield 110, 3, 12, 47, 0, 47, [6238], j0m), j0, j0, (.iload_n 2, 1, 2, 0, 0, 0, [], j0m), 
  (.iaload, 1, 0, 0, 0, 0, [], j0m), (.invokevirtual 314, 3, 12, 3, 1, 0, [7222, 7224, 83, 1015, 7225], m_Model_further), j0, j0, (.ireturn, 1, 0, 0, 0, 0, [], j0m)]
set_option maxRecDepth 20000 in
theorem t_Model_lineOf : okT m_Model_lineOf k_Model_lineOf = true := by decide +kernel
def k_Model_isSlot : List jO := [
  (.iload_n 0, 1, 0, 0, 0, 0, [], j0m), (.i2l, 1, 0, 0, 0, 0, [], j0m), (.lconst 0, 1, 0, 0, 0, 0, [], j0m), (.ldc2_w 328, 3, 0, 0, 0, 3, [8001], j0m), j0, j0, (.invokestatic 130, 3, 0, 3, 0, 0, [7110, 7111, 1015, 7112], m_Model_in), 
  j0, j0, (.ireturn, 1, 0, 0, 1, 0, [], j0m)]
set_option maxRecDepth 20000 in
theorem t_Model_isSlot : okT m_Model_isSlot k_Model_isSlot = true := by decide +kernel
def k_Model_edition : List jO := [
  (.iload_n 1, 1, 1, 0, 0, 0, [], j0m), (.invokestatic 308, 3, 0, 1, 0, 0, [7212, 7213, 1015, 7214], m_Model_isEdition), j0, j0, (.ifCond .eq 15, 3, 0, 19, 0, 0, [], j0m), j0, j0, (.iload_n 2, 1, 2, 0, 0, 0, [], j0m), 
  (.i2l, 1, 0, 0, 0, 0, [], j0m), (.lconst 0, 1, 0, 0, 0, 0, [], j0m), (.ldc2_w 134, 3, 0, 0, 0, 2, [7109], j0m), j0, j0, (.invokestatic 130, 3, 0, 3, 0, 0, [7110, 7111, 1015, 7112], m_Model_in), j0, j0, 
  (.ifCond .ne 7, 3, 0, 23, 0, 0, [], j0m), j0, j0, (.ldc_w 320, 3, 0, 0, 0, (-2000000000), [8006], j0m), j0, j0, (.ireturn, 1, 0, 0, 0, 0, [], j0m), (.iload_n 2, 1, 2, 0, 0, 0, [], j0m), (.iconst 2, 1, 0, 0, 0, 0, [], j0m), 
  (.if_icmp .ge 22, 3, 0, 47, 0, 0, [], j0m), j0, j0, (.iload_n 2, 1, 2, 0, 0, 0, [], j0m), (.ifCond .ne 11, 3, 0, 40, 0, 0, [], j0m), j0, j0, (.aload_n 0, 1, 0, 0, 0, 0, [], j0m), (.iload_n 1, 1, 1, 0, 0, 0, [], j0m), 
  (.invokevirtual 148, 3, 12, 2, 1, 0, [6144, 6146, 57, 1015, 6147], m_Model_linesOf), j0, j0, (.goto 9, 3, 0, 46, 0, 0, [], j0m), j0, j0, (.aload_n 0, 1, 0, 0, 0, 0, [], j0m), (.getfield 25, 3, 12, 4, 0, 4, [6195], j0m), 
  j0, j0, (.iload_n 1, 1, 1, 0, 0, 0, [], j0m), (.iaload, 1, 0, 0, 0, 0, [], j0m), (.ireturn, 1, 0, 0, 0, 0, [], j0m), (.iconst 0, 1, 0, 0, 0, 0, [], j0m), (.istore_n 3, 1, 3, 0, 0, 0, [], j0m), (.iconst 0, 1, 0, 0, 0, 0, [], j0m), 
  (.istore 4, 2, 4, 0, 0, 0, [], j0m), j0, (.iload 4, 2, 4, 0, 0, 0, [], j0m), j0, (.aload_n 0, 1, 0, 0, 0, 0, [], j0m), (.getfield 169, 3, 12, 10, 0, 10, [6201], j0m), j0, j0, (.if_icmp .ge 27, 3, 0, 85, 0, 0, [], j0m), 
  j0, j0, (.iload_n 3, 1, 3, 0, 0, 0, [], j0m), (.aload_n 0, 1, 0, 0, 0, 0, [], j0m), (.iload_n 1, 1, 1, 0, 0, 0, [], j0m), (.iload 4, 2, 4, 0, 0, 0, [], j0m), j0, (.invokevirtual 321, 3, 12, 3, 1, 0, [8007, 8009, 85, 1015, 8010], m_Model_manyOf), 
  j0, j0, (.ifCond .le 7, 3, 0, 76, 0, 0, [], j0m), j0, j0, (.iconst 1, 1, 0, 0, 0, 0, [], j0m), (.goto 4, 3, 0, 77, 0, 0, [], j0m), j0, j0, (.iconst 0, 1, 0, 0, 0, 0, [], j0m), (.iadd, 1, 0, 0, 0, 0, [], j0m), 
  (.istore_n 3, 1, 3, 0, 0, 0, [], j0m), (.iinc 4 1, 3, 4, 0, 0, 0, [], j0m), j0, j0, (.goto (-30), 3, 0, 52, 0, 0, [], j0m), j0, j0, (.iload_n 3, 1, 3, 0, 0, 0, [], j0m), (.ireturn, 1, 0, 0, 0, 0, [], j0m)
  ]
set_option maxRecDepth 20000 in
theorem t_Model_edition : okT m_Model_edition k_Model_edition = true := by decide +kernel
def k_Model_manyOf : List jO := [
  (.iconst 0, 1, 0, 0, 0, 0, [], j0m), (.istore_n 3, 1, 3, 0, 0, 0, [], j0m), (.iconst 0, 1, 0, 0, 0, 0, [], j0m), (.istore 4, 2, 4, 0, 0, 0, [], j0m), j0, (.iload 4, 2, 4, 0, 0, 0, [], j0m), j0, (.aload_n 0, 1, 0, 0, 0, 0, [], j0m), 
  (.getfield 25, 3, 12, 4, 0, 4, [6195], j0m), j0, j0, (.iload_n 1, 1, 1, 0, 0, 0, [], j0m), (.iaload, 1, 0, 0, 0, 0, [], j0m), (.if_icmp .ge 34, 3, 0, 47, 0, 0, [], j0m), j0, j0, (.iload_n 3, 1, 3, 0, 0, 0, [], j0m), 
  (.aload_n 0, 1, 0, 0, 0, 0, [], j0m), (.getfield 28, 3, 12, 5, 0, 5, [6196], j0m), j0, j0, (.sipush 340, 3, 0, 0, 0, 0, [], j0m), j0, j0, (.iload_n 1, 1, 1, 0, 0, 0, [], j0m), (.imul, 1, 0, 0, 0, 0, [], j0m), 
  (.iload 4, 2, 4, 0, 0, 0, [], j0m), j0, (.iadd, 1, 0, 0, 0, 0, [], j0m), (.iaload, 1, 0, 0, 0, 0, [], j0m), (.iload_n 2, 1, 2, 0, 0, 0, [], j0m), (.if_icmp .ne 7, 3, 0, 38, 0, 0, [], j0m), j0, j0, (.iconst 1, 1, 0, 0, 0, 0, [], j0m), 
  (.goto 4, 3, 0, 39, 0, 0, [], j0m), j0, j0, (.iconst 0, 1, 0, 0, 0, 0, [], j0m), (.iadd, 1, 0, 0, 0, 0, [], j0m), (.istore_n 3, 1, 3, 0, 0, 0, [], j0m), (.iinc 4 1, 3, 4, 0, 0, 0, [], j0m), j0, j0, (.goto (-39), 3, 0, 5, 0, 0, [], j0m), 
  j0, j0, (.iload_n 3, 1, 3, 0, 0, 0, [], j0m), (.ireturn, 1, 0, 0, 0, 0, [], j0m)]
set_option maxRecDepth 20000 in
theorem t_Model_manyOf : okT m_Model_manyOf k_Model_manyOf = true := by decide +kernel
def k_Model_word : List jO := [
  (.aload_n 0, 1, 0, 0, 0, 0, [], j0m), (.iload_n 1, 1, 1, 0, 0, 0, [], j0m), (.iload_n 2, 1, 2, 0, 0, 0, [], j0m), (.invokevirtual 324, 3, 12, 3, 1, 0, [8015, 8017, 86, 1015, 8018], m_Model_isWord), j0, 
  j0, (.ifCond .eq 15, 3, 0, 21, 0, 0, [], j0m), j0, j0, (.iload_n 3, 1, 3, 0, 0, 0, [], j0m), (.i2l, 1, 0, 0, 0, 0, [], j0m), (.lconst 0, 1, 0, 0, 0, 0, [], j0m), (.ldc2_w 328, 3, 0, 0, 0, 3, [8001], j0m), 
  j0, j0, (.invokestatic 130, 3, 0, 3, 0, 0, [7110, 7111, 1015, 7112], m_Model_in), j0, j0, (.ifCond .ne 7, 3, 0, 25, 0, 0, [], j0m), j0, j0, (.ldc_w 320, 3, 0, 0, 0, (-2000000000), [8006], j0m), j0, j0, 
  (.ireturn, 1, 0, 0, 0, 0, [], j0m), (.sipush 340, 3, 0, 0, 0, 0, [], j0m), j0, j0, (.iload_n 1, 1, 1, 0, 0, 0, [], j0m), (.imul, 1, 0, 0, 0, 0, [], j0m), (.iload_n 2, 1, 2, 0, 0, 0, [], j0m), (.iadd, 1, 0, 0, 0, 0, [], j0m), 
  (.istore 4, 2, 4, 0, 0, 0, [], j0m), j0, (.iload_n 3, 1, 3, 0, 0, 0, [], j0m), (.ifCond .ne 13, 3, 0, 48, 0, 0, [], j0m), j0, j0, (.aload_n 0, 1, 0, 0, 0, 0, [], j0m), (.getfield 28, 3, 12, 5, 0, 5, [6196], j0m), 
  j0, j0, (.iload 4, 2, 4, 0, 0, 0, [], j0m), j0, (.iaload, 1, 0, 0, 0, 0, [], j0m), (.goto 39, 3, 0, 84, 0, 0, [], j0m), j0, j0, (.iload_n 3, 1, 3, 0, 0, 0, [], j0m), (.iconst 1, 1, 0, 0, 0, 0, [], j0m), 
  (.if_icmp .ne 13, 3, 0, 63, 0, 0, [], j0m), j0, j0, (.aload_n 0, 1, 0, 0, 0, 0, [], j0m), (.getfield 31, 3, 12, 6, 0, 6, [6197], j0m), j0, j0, (.iload 4, 2, 4, 0, 0, 0, [], j0m), j0, (.iaload, 1, 0, 0, 0, 0, [], j0m), 
  (.goto 24, 3, 0, 84, 0, 0, [], j0m), j0, j0, (.iload_n 3, 1, 3, 0, 0, 0, [], j0m), (.iconst 2, 1, 0, 0, 0, 0, [], j0m), (.if_icmp .ne 12, 3, 0, 77, 0, 0, [], j0m), j0, j0, (.aload_n 0, 1, 0, 0, 0, 0, [], j0m), 
  (.iload_n 1, 1, 1, 0, 0, 0, [], j0m), (.iload_n 2, 1, 2, 0, 0, 0, [], j0m), (.invokevirtual 330, 3, 12, 3, 1, 0, [8019, 8021, 87, 1015, 8022], m_Model_placeInLine), j0, j0, (.goto 10, 3, 0, 84, 0, 0, [], j0m), 
  j0, j0, (.aload_n 0, 1, 0, 0, 0, 0, [], j0m), (.getfield 34, 3, 12, 7, 0, 7, [6198], j0m), j0, j0, (.iload 4, 2, 4, 0, 0, 0, [], j0m), j0, (.iaload, 1, 0, 0, 0, 0, [], j0m), (.ireturn, 1, 0, 0, 0, 0, [], j0m)
  ]
set_option maxRecDepth 20000 in
theorem t_Model_word : okT m_Model_word k_Model_word = true := by decide +kernel
def k_Model_isWord : List jO := [
  (.iload_n 1, 1, 1, 0, 0, 0, [], j0m), (.invokestatic 308, 3, 0, 1, 0, 0, [7212, 7213, 1015, 7214], m_Model_isEdition), j0, j0, (.ifCond .eq 25, 3, 0, 29, 0, 0, [], j0m), j0, j0, (.iload_n 2, 1, 2, 0, 0, 0, [], j0m), 
  (.i2l, 1, 0, 0, 0, 0, [], j0m), (.lconst 0, 1, 0, 0, 0, 0, [], j0m), (.aload_n 0, 1, 0, 0, 0, 0, [], j0m), (.getfield 25, 3, 12, 4, 0, 4, [6195], j0m), j0, j0, (.iload_n 1, 1, 1, 0, 0, 0, [], j0m), (.iaload, 1, 0, 0, 0, 0, [], j0m), 
  (.iconst 1, 1, 0, 0, 0, 0, [], j0m), (.isub, 1, 0, 0, 0, 0, [], j0m), (.i2l, 1, 0, 0, 0, 0, [], j0m), (.invokestatic 130, 3, 0, 3, 0, 0, [7110, 7111, 1015, 7112], m_Model_in), j0, j0, (.ifCond .eq 7, 3, 0, 29, 0, 0, [], j0m), 
  j0, j0, (.iconst 1, 1, 0, 0, 0, 0, [], j0m), (.goto 4, 3, 0, 30, 0, 0, [], j0m), j0, j0, (.iconst 0, 1, 0, 0, 0, 0, [], j0m), (.ireturn, 1, 0, 0, 1, 0, [], j0m)]
set_option maxRecDepth 20000 in
theorem t_Model_isWord : okT m_Model_isWord k_Model_isWord = true := by decide +kernel
def k_Model_placeInLine : List jO := [
  (.iconst 0, 1, 0, 0, 0, 0, [], j0m), (.istore_n 3, 1, 3, 0, 0, 0, [], j0m), (.iconst 0, 1, 0, 0, 0, 0, [], j0m), (.istore 4, 2, 4, 0, 0, 0, [], j0m), j0, (.iload 4, 2, 4, 0, 0, 0, [], j0m), j0, (.iload_n 2, 1, 2, 0, 0, 0, [], j0m), 
  (.if_icmp .ge 45, 3, 0, 53, 0, 0, [], j0m), j0, j0, (.iload_n 3, 1, 3, 0, 0, 0, [], j0m), (.aload_n 0, 1, 0, 0, 0, 0, [], j0m), (.getfield 31, 3, 12, 6, 0, 6, [6197], j0m), j0, j0, (.sipush 340, 3, 0, 0, 0, 0, [], j0m), 
  j0, j0, (.iload_n 1, 1, 1, 0, 0, 0, [], j0m), (.imul, 1, 0, 0, 0, 0, [], j0m), (.iload 4, 2, 4, 0, 0, 0, [], j0m), j0, (.iadd, 1, 0, 0, 0, 0, [], j0m), (.iaload, 1, 0, 0, 0, 0, [], j0m), (.aload_n 0, 1, 0, 0, 0, 0, [], j0m), 
  (.getfield 31, 3, 12, 6, 0, 6, [6197], j0m), j0, j0, (.sipush 340, 3, 0, 0, 0, 0, [], j0m), j0, j0, (.iload_n 1, 1, 1, 0, 0, 0, [], j0m), (.imul, 1, 0, 0, 0, 0, [], j0m), (.iload_n 2, 1, 2, 0, 0, 0, [], j0m), 
  (.iadd, 1, 0, 0, 0, 0, [], j0m), (.iaload, 1, 0, 0, 0, 0, [], j0m), (.if_icmp .ne 7, 3, 0, 44, 0, 0, [], j0m), j0, j0, (.iconst 1, 1, 0, 0, 0, 0, [], j0m), (.goto 4, 3, 0, 45, 0, 0, [], j0m), j0, j0, 
  (.iconst 0, 1, 0, 0, 0, 0, [], j0m), (.iadd, 1, 0, 0, 0, 0, [], j0m), (.istore_n 3, 1, 3, 0, 0, 0, [], j0m), (.iinc 4 1, 3, 4, 0, 0, 0, [], j0m), j0, j0, (.goto (-45), 3, 0, 5, 0, 0, [], j0m), j0, j0, 
  (.iload_n 3, 1, 3, 0, 0, 0, [], j0m), (.ireturn, 1, 0, 0, 0, 0, [], j0m)]
set_option maxRecDepth 20000 in
theorem t_Model_placeInLine : okT m_Model_placeInLine k_Model_placeInLine = true := by decide +kernel
def k_Model_forms : List jO := [
  (.aload_n 0, 1, 0, 0, 0, 0, [], j0m), (.getfield 169, 3, 12, 10, 0, 10, [6201], j0m), j0, j0, (.ireturn, 1, 0, 0, 0, 0, [], j0m)]
set_option maxRecDepth 20000 in
theorem t_Model_forms : okT m_Model_forms k_Model_forms = true := by decide +kernel
def k_Model_form : List jO := [
  (.aload_n 0, 1, 0, 0, 0, 0, [], j0m), (.iload_n 1, 1, 1, 0, 0, 0, [], j0m), (.invokevirtual 333, 3, 12, 2, 1, 0, [8031, 8033, 88, 1015, 8034], m_Model_isForm), j0, j0, (.ifCond .ne 7, 3, 0, 12, 0, 0, [], j0m), 
  j0, j0, (.ldc_w 320, 3, 0, 0, 0, (-2000000000), [8006], j0m), j0, j0, (.ireturn, 1, 0, 0, 0, 0, [], j0m), (.bipush 21, 2, 0, 0, 0, 0, [], j0m), j0, (.iload_n 1, 1, 1, 0, 0, 0, [], j0m), (.imul, 1, 0, 0, 0, 0, [], j0m), 
  (.istore_n 3, 1, 3, 0, 0, 0, [], j0m), (.iload_n 2, 1, 2, 0, 0, 0, [], j0m), (.tableswitch 70 0 4 #[34, 41, 41, 50, 64], 34, 0, 0, 0, 0, [], j0m), j0, j0, j0, j0, j0, j0, j0, j0, j0, j0, j0, j0, j0, 
  j0, j0, j0, j0, j0, j0, j0, j0, j0, j0, j0, j0, j0, j0, j0, j0, j0, j0, j0, j0, (.aload_n 0, 1, 0, 0, 0, 0, [], j0m), (.getfield 40, 3, 12, 9, 0, 9, [6200], j0m), j0, j0, (.iload_n 3, 1, 3, 0, 0, 0, [], j0m), 
  (.iaload, 1, 0, 0, 0, 0, [], j0m), (.ireturn, 1, 0, 0, 0, 0, [], j0m), (.aload_n 0, 1, 0, 0, 0, 0, [], j0m), (.iload_n 2, 1, 2, 0, 0, 0, [], j0m), (.iconst 1, 1, 0, 0, 0, 0, [], j0m), (.isub, 1, 0, 0, 0, 0, [], j0m), 
  (.iload_n 1, 1, 1, 0, 0, 0, [], j0m), (.invokevirtual 321, 3, 12, 3, 1, 0, [8007, 8009, 85, 1015, 8010], m_Model_manyOf), j0, j0, (.ireturn, 1, 0, 0, 0, 0, [], j0m), (.aload_n 0, 1, 0, 0, 0, 0, [], j0m), 
  (.iload_n 1, 1, 1, 0, 0, 0, [], j0m), (.invokevirtual 336, 3, 12, 2, 1, 0, [8035, 8037, 89, 1015, 8038], m_Model_isStop), j0, j0, (.ifCond .eq 7, 3, 0, 80, 0, 0, [], j0m), j0, j0, (.iconst 1, 1, 0, 0, 0, 0, [], j0m), 
  (.goto 4, 3, 0, 81, 0, 0, [], j0m), j0, j0, (.iconst 0, 1, 0, 0, 0, 0, [], j0m), (.ireturn, 1, 0, 0, 0, 0, [], j0m), (.aload_n 0, 1, 0, 0, 0, 0, [], j0m), (.iload_n 1, 1, 1, 0, 0, 0, [], j0m), (.invokevirtual 339, 3, 12, 2, 1, 0, [8043, 8045, 91, 1015, 8046], m_Model_rootOf), 
  j0, j0, (.ireturn, 1, 0, 0, 0, 0, [], j0m), (.iload_n 2, 1, 2, 0, 0, 0, [], j0m), (.bipush 10, 2, 0, 0, 0, 0, [], j0m), j0, (.if_icmp .ge 9, 3, 0, 100, 0, 0, [], j0m), j0, j0, (.ldc_w 320, 3, 0, 0, 0, (-2000000000), [8006], j0m), 
  j0, j0, (.goto 36, 3, 0, 133, 0, 0, [], j0m), j0, j0, (.iload_n 2, 1, 2, 0, 0, 0, [], j0m), (.bipush 10, 2, 0, 0, 0, 0, [], j0m), j0, (.isub, 1, 0, 0, 0, 0, [], j0m), (.aload_n 0, 1, 0, 0, 0, 0, [], j0m), 
  (.getfield 40, 3, 12, 9, 0, 9, [6200], j0m), j0, j0, (.iload_n 3, 1, 3, 0, 0, 0, [], j0m), (.iaload, 1, 0, 0, 0, 0, [], j0m), (.if_icmp .ge 22, 3, 0, 132, 0, 0, [], j0m), j0, j0, (.bipush 97, 2, 0, 0, 0, 0, [], j0m), 
  j0, (.aload_n 0, 1, 0, 0, 0, 0, [], j0m), (.getfield 40, 3, 12, 9, 0, 9, [6200], j0m), j0, j0, (.iload_n 3, 1, 3, 0, 0, 0, [], j0m), (.iconst 1, 1, 0, 0, 0, 0, [], j0m), (.iadd, 1, 0, 0, 0, 0, [], j0m), 
  (.iload_n 2, 1, 2, 0, 0, 0, [], j0m), (.iadd, 1, 0, 0, 0, 0, [], j0m), (.bipush 10, 2, 0, 0, 0, 0, [], j0m), j0, (.isub, 1, 0, 0, 0, 0, [], j0m), (.iaload, 1, 0, 0, 0, 0, [], j0m), (.iadd, 1, 0, 0, 0, 0, [], j0m), 
  (.goto 4, 3, 0, 133, 0, 0, [], j0m), j0, j0, (.iconst (-1), 1, 0, 0, 0, 0, [], j0m), (.ireturn, 1, 0, 0, 0, 0, [], j0m)]
set_option maxRecDepth 20000 in
theorem t_Model_form : okT m_Model_form k_Model_form = true := by decide +kernel
def k_Model_isForm : List jO := [
  (.iload_n 1, 1, 1, 0, 0, 0, [], j0m), (.i2l, 1, 0, 0, 0, 0, [], j0m), (.lconst 0, 1, 0, 0, 0, 0, [], j0m), (.aload_n 0, 1, 0, 0, 0, 0, [], j0m), (.getfield 169, 3, 12, 10, 0, 10, [6201], j0m), j0, j0, 
  (.iconst 1, 1, 0, 0, 0, 0, [], j0m), (.isub, 1, 0, 0, 0, 0, [], j0m), (.i2l, 1, 0, 0, 0, 0, [], j0m), (.invokestatic 130, 3, 0, 3, 0, 0, [7110, 7111, 1015, 7112], m_Model_in), j0, j0, (.ireturn, 1, 0, 0, 1, 0, [], j0m)
  ]
set_option maxRecDepth 20000 in
theorem t_Model_isForm : okT m_Model_isForm k_Model_isForm = true := by decide +kernel
def k_Model_isStop : List jO := [
  (.iconst 0, 1, 0, 0, 0, 0, [], j0m), (.istore_n 2, 1, 2, 0, 0, 0, [], j0m), (.iload_n 2, 1, 2, 0, 0, 0, [], j0m), (.aload_n 0, 1, 0, 0, 0, 0, [], j0m), (.getfield 13, 3, 12, 1, 0, 1, [6192], j0m), j0, 
  j0, (.iconst 1, 1, 0, 0, 0, 0, [], j0m), (.iaload, 1, 0, 0, 0, 0, [], j0m), (.if_icmp .ge 31, 3, 0, 40, 0, 0, [], j0m), j0, j0, (.iload_n 1, 1, 1, 0, 0, 0, [], j0m), (.iconst (-1), 1, 0, 0, 0, 0, [], j0m), 
  (.if_icmp .eq 20, 3, 0, 34, 0, 0, [], j0m), j0, j0, (.aload_n 0, 1, 0, 0, 0, 0, [], j0m), (.bipush 57, 2, 0, 0, 0, 0, [], j0m), j0, (.bipush 21, 2, 0, 0, 0, 0, [], j0m), j0, (.iload_n 2, 1, 2, 0, 0, 0, [], j0m), 
  (.imul, 1, 0, 0, 0, 0, [], j0m), (.iadd, 1, 0, 0, 0, 0, [], j0m), (.invokevirtual 191, 3, 12, 2, 1, 0, [8039, 8041, 90, 1015, 8042], m_Model_ruledForm), j0, j0, (.iload_n 1, 1, 1, 0, 0, 0, [], j0m), 
  (.if_icmp .ne 5, 3, 0, 34, 0, 0, [], j0m), j0, j0, (.iconst 1, 1, 0, 0, 0, 0, [], j0m), (.ireturn, 1, 0, 0, 1, 0, [], j0m), (.iinc 2 1, 3, 2, 0, 0, 0, [], j0m), j0, j0, (.goto (-35), 3, 0, 2, 0, 0, [], j0m), 
  j0, j0, (.iconst 0, 1, 0, 0, 0, 0, [], j0m), (.ireturn, 1, 0, 0, 1, 0, [], j0m)]
set_option maxRecDepth 20000 in
theorem t_Model_isStop : okT m_Model_isStop k_Model_isStop = true := by decide +kernel
def k_Model_ruledForm : List jO := [
  (.aload_n 0, 1, 0, 0, 0, 0, [], j0m), (.getfield 49, 3, 12, 13, 0, 13, [6204], j0m), j0, j0, (.iconst 0, 1, 0, 0, 0, 0, [], j0m), (.aload_n 0, 1, 0, 0, 0, 0, [], j0m), (.getfield 13, 3, 12, 1, 0, 1, [6192], j0m), 
  j0, j0, (.iload_n 1, 1, 1, 0, 0, 0, [], j0m), (.iaload, 1, 0, 0, 0, 0, [], j0m), (.iastore, 1, 0, 0, 0, 0, [], j0m), (.iconst 1, 1, 0, 0, 0, 0, [], j0m), (.istore_n 2, 1, 2, 0, 0, 0, [], j0m), (.iload_n 2, 1, 2, 0, 0, 0, [], j0m), 
  (.aload_n 0, 1, 0, 0, 0, 0, [], j0m), (.getfield 13, 3, 12, 1, 0, 1, [6192], j0m), j0, j0, (.iload_n 1, 1, 1, 0, 0, 0, [], j0m), (.iaload, 1, 0, 0, 0, 0, [], j0m), (.if_icmp .gt 27, 3, 0, 48, 0, 0, [], j0m), 
  j0, j0, (.aload_n 0, 1, 0, 0, 0, 0, [], j0m), (.getfield 49, 3, 12, 13, 0, 13, [6204], j0m), j0, j0, (.iload_n 2, 1, 2, 0, 0, 0, [], j0m), (.aload_n 0, 1, 0, 0, 0, 0, [], j0m), (.aload_n 0, 1, 0, 0, 0, 0, [], j0m), 
  (.getfield 13, 3, 12, 1, 0, 1, [6192], j0m), j0, j0, (.iload_n 1, 1, 1, 0, 0, 0, [], j0m), (.iload_n 2, 1, 2, 0, 0, 0, [], j0m), (.iadd, 1, 0, 0, 0, 0, [], j0m), (.iaload, 1, 0, 0, 0, 0, [], j0m), (.invokevirtual 155, 3, 12, 2, 1, 0, [6170, 6172, 62, 1015, 6173], m_Model_folded), 
  j0, j0, (.iastore, 1, 0, 0, 0, 0, [], j0m), (.iinc 2 1, 3, 2, 0, 0, 0, [], j0m), j0, j0, (.goto (-31), 3, 0, 14, 0, 0, [], j0m), j0, j0, (.aload_n 0, 1, 0, 0, 0, 0, [], j0m), (.aload_n 0, 1, 0, 0, 0, 0, [], j0m), 
  (.getfield 49, 3, 12, 13, 0, 13, [6204], j0m), j0, j0, (.iconst 0, 1, 0, 0, 0, 0, [], j0m), (.invokevirtual 176, 3, 12, 3, 1, 0, [6182, 6184, 65, 1015, 6185], m_Model_find), j0, j0, (.ireturn, 1, 0, 0, 0, 0, [], j0m)
  ]
set_option maxRecDepth 20000 in
theorem t_Model_ruledForm : okT m_Model_ruledForm k_Model_ruledForm = true := by decide +kernel
def k_Model_rootOf : List jO := [
  (.iconst 0, 1, 0, 0, 0, 0, [], j0m), (.istore_n 2, 1, 2, 0, 0, 0, [], j0m), (.iload_n 2, 1, 2, 0, 0, 0, [], j0m), (.aload_n 0, 1, 0, 0, 0, 0, [], j0m), (.getfield 13, 3, 12, 1, 0, 1, [6192], j0m), j0, 
  j0, (.iconst 2, 1, 0, 0, 0, 0, [], j0m), (.iaload, 1, 0, 0, 0, 0, [], j0m), (.if_icmp .ge 57, 3, 0, 66, 0, 0, [], j0m), j0, j0, (.sipush 477, 3, 0, 0, 0, 0, [], j0m), j0, j0, (.bipush 106, 2, 0, 0, 0, 0, [], j0m), 
  j0, (.iload_n 2, 1, 2, 0, 0, 0, [], j0m), (.imul, 1, 0, 0, 0, 0, [], j0m), (.iadd, 1, 0, 0, 0, 0, [], j0m), (.istore_n 3, 1, 3, 0, 0, 0, [], j0m), (.iconst 1, 1, 0, 0, 0, 0, [], j0m), (.istore 4, 2, 4, 0, 0, 0, [], j0m), 
  j0, (.iload 4, 2, 4, 0, 0, 0, [], j0m), j0, (.aload_n 0, 1, 0, 0, 0, 0, [], j0m), (.getfield 13, 3, 12, 1, 0, 1, [6192], j0m), j0, j0, (.iload_n 3, 1, 3, 0, 0, 0, [], j0m), (.iaload, 1, 0, 0, 0, 0, [], j0m), 
  (.if_icmp .ge 28, 3, 0, 60, 0, 0, [], j0m), j0, j0, (.aload_n 0, 1, 0, 0, 0, 0, [], j0m), (.iload_n 3, 1, 3, 0, 0, 0, [], j0m), (.iconst 1, 1, 0, 0, 0, 0, [], j0m), (.iadd, 1, 0, 0, 0, 0, [], j0m), (.bipush 21, 2, 0, 0, 0, 0, [], j0m), 
  j0, (.iload 4, 2, 4, 0, 0, 0, [], j0m), j0, (.imul, 1, 0, 0, 0, 0, [], j0m), (.iadd, 1, 0, 0, 0, 0, [], j0m), (.invokevirtual 191, 3, 12, 2, 1, 0, [8039, 8041, 90, 1015, 8042], m_Model_ruledForm), j0, 
  j0, (.iload_n 1, 1, 1, 0, 0, 0, [], j0m), (.if_icmp .ne 5, 3, 0, 54, 0, 0, [], j0m), j0, j0, (.iload_n 2, 1, 2, 0, 0, 0, [], j0m), (.ireturn, 1, 0, 0, 0, 0, [], j0m), (.iinc 4 1, 3, 4, 0, 0, 0, [], j0m), 
  j0, j0, (.goto (-33), 3, 0, 24, 0, 0, [], j0m), j0, j0, (.iinc 2 1, 3, 2, 0, 0, 0, [], j0m), j0, j0, (.goto (-61), 3, 0, 2, 0, 0, [], j0m), j0, j0, (.iconst (-1), 1, 0, 0, 0, 0, [], j0m), (.ireturn, 1, 0, 0, 0, 0, [], j0m)
  ]
set_option maxRecDepth 20000 in
theorem t_Model_rootOf : okT m_Model_rootOf k_Model_rootOf = true := by decide +kernel
def k_Model_ordered : List jO := [
  (.iload_n 1, 1, 1, 0, 0, 0, [], j0m), (.i2l, 1, 0, 0, 0, 0, [], j0m), (.lconst 0, 1, 0, 0, 0, 0, [], j0m), (.aload_n 0, 1, 0, 0, 0, 0, [], j0m), (.getfield 169, 3, 12, 10, 0, 10, [6201], j0m), j0, j0, 
  (.iconst 1, 1, 0, 0, 0, 0, [], j0m), (.isub, 1, 0, 0, 0, 0, [], j0m), (.i2l, 1, 0, 0, 0, 0, [], j0m), (.invokestatic 130, 3, 0, 3, 0, 0, [7110, 7111, 1015, 7112], m_Model_in), j0, j0, (.ifCond .eq 12, 3, 0, 25, 0, 0, [], j0m), 
  j0, j0, (.aload_n 0, 1, 0, 0, 0, 0, [], j0m), (.getfield 43, 3, 12, 11, 0, 11, [6202], j0m), j0, j0, (.iload_n 1, 1, 1, 0, 0, 0, [], j0m), (.iaload, 1, 0, 0, 0, 0, [], j0m), (.goto 4, 3, 0, 26, 0, 0, [], j0m), 
  j0, j0, (.iconst (-1), 1, 0, 0, 0, 0, [], j0m), (.ireturn, 1, 0, 0, 0, 0, [], j0m)]
set_option maxRecDepth 20000 in
theorem t_Model_ordered : okT m_Model_ordered k_Model_ordered = true := by decide +kernel
def k_Model_ask : List jO := [
  (.iload_n 1, 1, 1, 0, 0, 0, [], j0m), (.invokestatic 308, 3, 0, 1, 0, 0, [7212, 7213, 1015, 7214], m_Model_isEdition), j0, j0, (.ifCond .ne 6, 3, 0, 10, 0, 0, [], j0m), j0, j0, (.bipush (-2), 2, 0, 0, 0, 0, [], j0m), 
  j0, (.ireturn, 1, 0, 0, 0, 0, [], j0m), (.aload_n 0, 1, 0, 0, 0, 0, [], j0m), (.iload_n 1, 1, 1, 0, 0, 0, [], j0m), (.putfield 357, 3, 12, 30, 0, 30, [6221], j0m), j0, j0, (.aload_n 0, 1, 0, 0, 0, 0, [], j0m), 
  (.invokevirtual 296, 3, 12, 1, 1, 0, [7133, 7135, 66, 1015, 7136], m_Model_begin), j0, j0, (.aload_n 0, 1, 0, 0, 0, 0, [], j0m), (.iconst 0, 1, 0, 0, 0, 0, [], j0m), (.putfield 372, 3, 12, 29, 0, 29, [6220], j0m), 
  j0, j0, (.aload_n 0, 1, 0, 0, 0, 0, [], j0m), (.iconst 0, 1, 0, 0, 0, 0, [], j0m), (.iconst 0, 1, 0, 0, 0, 0, [], j0m), (.invokevirtual 375, 3, 12, 3, 1, 0, [8055, 8057, 92, 1015, 8058], m_Model_readAsk), 
  j0, j0, (.aload_n 0, 1, 0, 0, 0, 0, [], j0m), (.invokevirtual 230, 3, 12, 1, 1, 0, [7148, 7150, 69, 1015, 7151], m_Model_good), j0, j0, (.ifCond .eq 15, 3, 0, 49, 0, 0, [], j0m), j0, j0, (.aload_n 0, 1, 0, 0, 0, 0, [], j0m), 
  (.getfield 209, 3, 12, 20, 0, 20, [6211], j0m), j0, j0, (.ifCond .eq 8, 3, 0, 49, 0, 0, [], j0m), j0, j0, (.aload_n 0, 1, 0, 0, 0, 0, [], j0m), (.iconst 1, 1, 0, 0, 0, 0, [], j0m), (.invokevirtual 251, 3, 12, 2, 1, 0, [7166, 7168, 72, 1015, 7169], m_Model_wrong), 
  j0, j0, (.aload_n 0, 1, 0, 0, 0, 0, [], j0m), (.invokevirtual 230, 3, 12, 1, 1, 0, [7148, 7150, 69, 1015, 7151], m_Model_good), j0, j0, (.ifCond .ne 6, 3, 0, 59, 0, 0, [], j0m), j0, j0, (.bipush (-4), 2, 0, 0, 0, 0, [], j0m), 
  j0, (.ireturn, 1, 0, 0, 0, 0, [], j0m), (.aload_n 0, 1, 0, 0, 0, 0, [], j0m), (.iconst 0, 1, 0, 0, 0, 0, [], j0m), (.putfield 408, 3, 12, 33, 0, 33, [6224], j0m), j0, j0, (.iconst 0, 1, 0, 0, 0, 0, [], j0m), 
  (.istore_n 2, 1, 2, 0, 0, 0, [], j0m), (.iload_n 2, 1, 2, 0, 0, 0, [], j0m), (.aload_n 0, 1, 0, 0, 0, 0, [], j0m), (.getfield 25, 3, 12, 4, 0, 4, [6195], j0m), j0, j0, (.iload_n 1, 1, 1, 0, 0, 0, [], j0m), 
  (.iaload, 1, 0, 0, 0, 0, [], j0m), (.if_icmp .ge 89, 3, 0, 162, 0, 0, [], j0m), j0, j0, (.aload_n 0, 1, 0, 0, 0, 0, [], j0m), (.getfield 73, 3, 12, 28, 0, 28, [6219], j0m), j0, j0, (.iconst 0, 1, 0, 0, 0, 0, [], j0m), 
  (.aaload, 1, 0, 0, 2, 0, [], j0m), (.iload_n 2, 1, 2, 0, 0, 0, [], j0m), (.baload, 1, 0, 0, 3, 0, [], j0m), (.ifCond .ne 6, 3, 0, 90, 0, 0, [], j0m), j0, j0, (.goto 69, 3, 0, 156, 0, 0, [], j0m), j0, 
  j0, (.aload_n 0, 1, 0, 0, 0, 0, [], j0m), (.getfield 79, 3, 12, 32, 0, 32, [6223], j0m), j0, j0, (.iconst 3, 1, 0, 0, 0, 0, [], j0m), (.aload_n 0, 1, 0, 0, 0, 0, [], j0m), (.getfield 408, 3, 12, 33, 0, 33, [6224], j0m), 
  j0, j0, (.imul, 1, 0, 0, 0, 0, [], j0m), (.iload_n 2, 1, 2, 0, 0, 0, [], j0m), (.iastore, 1, 0, 0, 0, 0, [], j0m), (.aload_n 0, 1, 0, 0, 0, 0, [], j0m), (.getfield 79, 3, 12, 32, 0, 32, [6223], j0m), 
  j0, j0, (.iconst 3, 1, 0, 0, 0, 0, [], j0m), (.aload_n 0, 1, 0, 0, 0, 0, [], j0m), (.getfield 408, 3, 12, 33, 0, 33, [6224], j0m), j0, j0, (.imul, 1, 0, 0, 0, 0, [], j0m), (.iconst 1, 1, 0, 0, 0, 0, [], j0m), 
  (.iadd, 1, 0, 0, 0, 0, [], j0m), (.aload_n 0, 1, 0, 0, 0, 0, [], j0m), (.getfield 31, 3, 12, 6, 0, 6, [6197], j0m), j0, j0, (.sipush 340, 3, 0, 0, 0, 0, [], j0m), j0, j0, (.iload_n 1, 1, 1, 0, 0, 0, [], j0m), 
  (.imul, 1, 0, 0, 0, 0, [], j0m), (.iload_n 2, 1, 2, 0, 0, 0, [], j0m), (.iadd, 1, 0, 0, 0, 0, [], j0m), (.iaload, 1, 0, 0, 0, 0, [], j0m), (.iastore, 1, 0, 0, 0, 0, [], j0m), (.aload_n 0, 1, 0, 0, 0, 0, [], j0m), 
  (.getfield 79, 3, 12, 32, 0, 32, [6223], j0m), j0, j0, (.iconst 3, 1, 0, 0, 0, 0, [], j0m), (.aload_n 0, 1, 0, 0, 0, 0, [], j0m), (.getfield 408, 3, 12, 33, 0, 33, [6224], j0m), j0, j0, (.imul, 1, 0, 0, 0, 0, [], j0m), 
  (.iconst 2, 1, 0, 0, 0, 0, [], j0m), (.iadd, 1, 0, 0, 0, 0, [], j0m), (.aload_n 0, 1, 0, 0, 0, 0, [], j0m), (.iload_n 1, 1, 1, 0, 0, 0, [], j0m), (.iload_n 2, 1, 2, 0, 0, 0, [], j0m), (.invokevirtual 330, 3, 12, 3, 1, 0, [8019, 8021, 87, 1015, 8022], m_Model_placeInLine), 
  j0, j0, (.iastore, 1, 0, 0, 0, 0, [], j0m), (.aload_n 0, 1, 0, 0, 0, 0, [], j0m), (.dup, 1, 0, 0, 0, 0, [], j0m), (.getfield 408, 3, 12, 33, 0, 33, [6224], j0m), j0, j0, (.iconst 1, 1, 0, 0, 0, 0, [], j0m), 
  (.iadd, 1, 0, 0, 0, 0, [], j0m), (.putfield 408, 3, 12, 33, 0, 33, [6224], j0m), j0, j0, (.iinc 2 1, 3, 2, 0, 0, 0, [], j0m), j0, j0, (.goto (-93), 3, 0, 66, 0, 0, [], j0m), j0, j0, (.aload_n 0, 1, 0, 0, 0, 0, [], j0m), 
  (.getfield 408, 3, 12, 33, 0, 33, [6224], j0m), j0, j0, (.ireturn, 1, 0, 0, 0, 0, [], j0m)]
set_option maxRecDepth 20000 in
theorem t_Model_ask : okT m_Model_ask k_Model_ask = true := by decide +kernel
def k_Model_readAsk : List jO := [
  (.aload_n 0, 1, 0, 0, 0, 0, [], j0m), (.iload_n 1, 1, 1, 0, 0, 0, [], j0m), (.iload_n 2, 1, 2, 0, 0, 0, [], j0m), (.invokevirtual 385, 3, 12, 3, 1, 0, [8059, 8061, 93, 1015, 8062], m_Model_readUnit), 
  j0, j0, (.aload_n 0, 1, 0, 0, 0, 0, [], j0m), (.invokevirtual 354, 3, 12, 1, 1, 0, [8067, 8069, 95, 1015, 8070], m_Model_isOp), j0, j0, (.ifCond .eq 119, 3, 0, 129, 0, 0, [], j0m), j0, j0, (.aload_n 0, 1, 0, 0, 0, 0, [], j0m), 
  (.invokevirtual 388, 3, 12, 1, 1, 0, [8097, 8099, 101, 1015, 8100], m_Model_opHere), j0, j0, (.istore_n 3, 1, 3, 0, 0, 0, [], j0m), (.aload_n 0, 1, 0, 0, 0, 0, [], j0m), (.invokevirtual 227, 3, 12, 1, 1, 0, [7137, 7139, 67, 1015, 7140], m_Model_step), 
  j0, j0, (.iconst 0, 1, 0, 0, 0, 0, [], j0m), (.istore 4, 2, 4, 0, 0, 0, [], j0m), j0, (.iload_n 3, 1, 3, 0, 0, 0, [], j0m), (.iconst 2, 1, 0, 0, 0, 0, [], j0m), (.if_icmp .gt 56, 3, 0, 83, 0, 0, [], j0m), 
  j0, j0, (.aload_n 0, 1, 0, 0, 0, 0, [], j0m), (.getfield 209, 3, 12, 20, 0, 20, [6211], j0m), j0, j0, (.iconst 2, 1, 0, 0, 0, 0, [], j0m), (.if_icmp .eq 11, 3, 0, 46, 0, 0, [], j0m), j0, j0, (.aload_n 0, 1, 0, 0, 0, 0, [], j0m), 
  (.iconst 1, 1, 0, 0, 0, 0, [], j0m), (.invokevirtual 251, 3, 12, 2, 1, 0, [7166, 7168, 72, 1015, 7169], m_Model_wrong), j0, j0, (.goto 23, 3, 0, 66, 0, 0, [], j0m), j0, j0, (.aload_n 0, 1, 0, 0, 0, 0, [], j0m), 
  (.getfield 216, 3, 12, 21, 0, 21, [6212], j0m), j0, j0, (.i2l, 1, 0, 0, 0, 0, [], j0m), (.lconst 1, 1, 0, 0, 0, 1, [], j0m), (.ldc2_w 391, 3, 0, 0, 0, 50, [8101], j0m), j0, j0, (.invokestatic 130, 3, 0, 3, 0, 0, [7110, 7111, 1015, 7112], m_Model_in), 
  j0, j0, (.ifCond .ne 8, 3, 0, 66, 0, 0, [], j0m), j0, j0, (.aload_n 0, 1, 0, 0, 0, 0, [], j0m), (.iconst 2, 1, 0, 0, 0, 0, [], j0m), (.invokevirtual 251, 3, 12, 2, 1, 0, [7166, 7168, 72, 1015, 7169], m_Model_wrong), 
  j0, j0, (.aload_n 0, 1, 0, 0, 0, 0, [], j0m), (.getfield 216, 3, 12, 21, 0, 21, [6212], j0m), j0, j0, (.istore 4, 2, 4, 0, 0, 0, [], j0m), j0, (.aload_n 0, 1, 0, 0, 0, 0, [], j0m), (.invokevirtual 230, 3, 12, 1, 1, 0, [7148, 7150, 69, 1015, 7151], m_Model_good), 
  j0, j0, (.ifCond .eq 7, 3, 0, 83, 0, 0, [], j0m), j0, j0, (.aload_n 0, 1, 0, 0, 0, 0, [], j0m), (.invokevirtual 227, 3, 12, 1, 1, 0, [7137, 7139, 67, 1015, 7140], m_Model_step), j0, j0, (.aload_n 0, 1, 0, 0, 0, 0, [], j0m), 
  (.invokevirtual 230, 3, 12, 1, 1, 0, [7148, 7150, 69, 1015, 7151], m_Model_good), j0, j0, (.ifCond .eq 11, 3, 0, 98, 0, 0, [], j0m), j0, j0, (.aload_n 0, 1, 0, 0, 0, 0, [], j0m), (.iload_n 1, 1, 1, 0, 0, 0, [], j0m), 
  (.iload_n 2, 1, 2, 0, 0, 0, [], j0m), (.iconst 1, 1, 0, 0, 0, 0, [], j0m), (.iadd, 1, 0, 0, 0, 0, [], j0m), (.invokevirtual 385, 3, 12, 3, 1, 0, [8059, 8061, 93, 1015, 8062], m_Model_readUnit), j0, j0, 
  (.aload_n 0, 1, 0, 0, 0, 0, [], j0m), (.invokevirtual 230, 3, 12, 1, 1, 0, [7148, 7150, 69, 1015, 7151], m_Model_good), j0, j0, (.ifCond .eq 24, 3, 0, 126, 0, 0, [], j0m), j0, j0, (.aload_n 0, 1, 0, 0, 0, 0, [], j0m), 
  (.iload_n 3, 1, 3, 0, 0, 0, [], j0m), (.iload 4, 2, 4, 0, 0, 0, [], j0m), j0, (.aload_n 0, 1, 0, 0, 0, 0, [], j0m), (.getfield 73, 3, 12, 28, 0, 28, [6219], j0m), j0, j0, (.iload_n 2, 1, 2, 0, 0, 0, [], j0m), 
  (.aaload, 1, 0, 0, 2, 0, [], j0m), (.aload_n 0, 1, 0, 0, 0, 0, [], j0m), (.getfield 73, 3, 12, 28, 0, 28, [6219], j0m), j0, j0, (.iload_n 2, 1, 2, 0, 0, 0, [], j0m), (.iconst 1, 1, 0, 0, 0, 0, [], j0m), 
  (.iadd, 1, 0, 0, 0, 0, [], j0m), (.aaload, 1, 0, 0, 2, 0, [], j0m), (.invokevirtual 393, 3, 12, 5, 1, 0, [8102, 8104, 102, 1015, 8105], m_Model_joins), j0, j0, (.goto (-120), 3, 0, 6, 0, 0, [], j0m), 
  j0, j0, (.return_, 1, 0, 0, 0, 0, [], j0m)]
set_option maxRecDepth 20000 in
theorem t_Model_readAsk : okT m_Model_readAsk k_Model_readAsk = true := by decide +kernel
def k_Model_readUnit : List jO := [
  (.aload_n 0, 1, 0, 0, 0, 0, [], j0m), (.bipush 40, 2, 0, 0, 0, 0, [], j0m), j0, (.invokevirtual 254, 3, 12, 2, 1, 0, [7204, 7206, 81, 1015, 7207], m_Model_isSign), j0, j0, (.ifCond .eq 13, 3, 0, 19, 0, 0, [], j0m), 
  j0, j0, (.iload_n 1, 1, 1, 0, 0, 0, [], j0m), (.bipush 6, 2, 0, 0, 0, 0, [], j0m), j0, (.if_icmp .ne 7, 3, 0, 19, 0, 0, [], j0m), j0, j0, (.iconst 1, 1, 0, 0, 0, 0, [], j0m), (.goto 4, 3, 0, 20, 0, 0, [], j0m), 
  j0, j0, (.iconst 0, 1, 0, 0, 0, 0, [], j0m), (.istore_n 3, 1, 3, 0, 0, 0, [], j0m), (.aload_n 0, 1, 0, 0, 0, 0, [], j0m), (.invokevirtual 369, 3, 12, 1, 1, 0, [8063, 8065, 94, 1015, 8066], m_Model_beginsUnit), 
  j0, j0, (.ifCond .ne 11, 3, 0, 36, 0, 0, [], j0m), j0, j0, (.aload_n 0, 1, 0, 0, 0, 0, [], j0m), (.iconst 1, 1, 0, 0, 0, 0, [], j0m), (.invokevirtual 251, 3, 12, 2, 1, 0, [7166, 7168, 72, 1015, 7169], m_Model_wrong), 
  j0, j0, (.goto 21, 3, 0, 54, 0, 0, [], j0m), j0, j0, (.aload_n 0, 1, 0, 0, 0, 0, [], j0m), (.getfield 372, 3, 12, 29, 0, 29, [6220], j0m), j0, j0, (.bipush 30, 2, 0, 0, 0, 0, [], j0m), j0, (.if_icmp .eq 7, 3, 0, 49, 0, 0, [], j0m), 
  j0, j0, (.iload_n 3, 1, 3, 0, 0, 0, [], j0m), (.ifCond .eq 8, 3, 0, 54, 0, 0, [], j0m), j0, j0, (.aload_n 0, 1, 0, 0, 0, 0, [], j0m), (.iconst 3, 1, 0, 0, 0, 0, [], j0m), (.invokevirtual 251, 3, 12, 2, 1, 0, [7166, 7168, 72, 1015, 7169], m_Model_wrong), 
  j0, j0, (.aload_n 0, 1, 0, 0, 0, 0, [], j0m), (.invokevirtual 230, 3, 12, 1, 1, 0, [7148, 7150, 69, 1015, 7151], m_Model_good), j0, j0, (.ifCond .ne 4, 3, 0, 62, 0, 0, [], j0m), j0, j0, (.return_, 1, 0, 0, 0, 0, [], j0m), 
  (.aload_n 0, 1, 0, 0, 0, 0, [], j0m), (.dup, 1, 0, 0, 0, 0, [], j0m), (.getfield 372, 3, 12, 29, 0, 29, [6220], j0m), j0, j0, (.iconst 1, 1, 0, 0, 0, 0, [], j0m), (.iadd, 1, 0, 0, 0, 0, [], j0m), (.putfield 372, 3, 12, 29, 0, 29, [6220], j0m), 
  j0, j0, (.aload_n 0, 1, 0, 0, 0, 0, [], j0m), (.getfield 73, 3, 12, 28, 0, 28, [6219], j0m), j0, j0, (.iload_n 2, 1, 2, 0, 0, 0, [], j0m), (.aaload, 1, 0, 0, 2, 0, [], j0m), (.astore 4, 2, 4, 0, 0, 0, [], j0m), 
  j0, (.aload_n 0, 1, 0, 0, 0, 0, [], j0m), (.bipush 40, 2, 0, 0, 0, 0, [], j0m), j0, (.invokevirtual 254, 3, 12, 2, 1, 0, [7204, 7206, 81, 1015, 7207], m_Model_isSign), j0, j0, (.ifCond .eq 39, 3, 0, 125, 0, 0, [], j0m), 
  j0, j0, (.aload_n 0, 1, 0, 0, 0, 0, [], j0m), (.invokevirtual 227, 3, 12, 1, 1, 0, [7137, 7139, 67, 1015, 7140], m_Model_step), j0, j0, (.aload_n 0, 1, 0, 0, 0, 0, [], j0m), (.iload_n 1, 1, 1, 0, 0, 0, [], j0m), 
  (.iconst 1, 1, 0, 0, 0, 0, [], j0m), (.iadd, 1, 0, 0, 0, 0, [], j0m), (.iload_n 2, 1, 2, 0, 0, 0, [], j0m), (.invokevirtual 375, 3, 12, 3, 1, 0, [8055, 8057, 92, 1015, 8058], m_Model_readAsk), j0, j0, 
  (.aload_n 0, 1, 0, 0, 0, 0, [], j0m), (.bipush 41, 2, 0, 0, 0, 0, [], j0m), j0, (.invokevirtual 254, 3, 12, 2, 1, 0, [7204, 7206, 81, 1015, 7207], m_Model_isSign), j0, j0, (.ifCond .ne 11, 3, 0, 118, 0, 0, [], j0m), 
  j0, j0, (.aload_n 0, 1, 0, 0, 0, 0, [], j0m), (.iconst 1, 1, 0, 0, 0, 0, [], j0m), (.invokevirtual 251, 3, 12, 2, 1, 0, [7166, 7168, 72, 1015, 7169], m_Model_wrong), j0, j0, (.goto 134, 3, 0, 249, 0, 0, [], j0m), 
  j0, j0, (.aload_n 0, 1, 0, 0, 0, 0, [], j0m), (.invokevirtual 227, 3, 12, 1, 1, 0, [7137, 7139, 67, 1015, 7140], m_Model_step), j0, j0, (.goto 127, 3, 0, 249, 0, 0, [], j0m), j0, j0, (.aload_n 0, 1, 0, 0, 0, 0, [], j0m), 
  (.bipush 34, 2, 0, 0, 0, 0, [], j0m), j0, (.invokevirtual 254, 3, 12, 2, 1, 0, [7204, 7206, 81, 1015, 7207], m_Model_isSign), j0, j0, (.ifCond .eq 12, 3, 0, 143, 0, 0, [], j0m), j0, j0, (.aload_n 0, 1, 0, 0, 0, 0, [], j0m), 
  (.aload 4, 2, 4, 0, 0, 0, [], j0m), j0, (.invokevirtual 378, 3, 12, 2, 1, 0, [8077, 8079, 96, 1015, 8080], m_Model_readRow), j0, j0, (.goto 109, 3, 0, 249, 0, 0, [], j0m), j0, j0, (.aload_n 0, 1, 0, 0, 0, 0, [], j0m), 
  (.ldc_w 280, 3, 3, 0, 1, 0, [], j0m), j0, j0, (.invokevirtual 244, 3, 12, 2, 1, 0, [7157, 7159, 71, 1015, 7160], m_Model_is), j0, j0, (.ifCond .eq 12, 3, 0, 162, 0, 0, [], j0m), j0, j0, (.aload_n 0, 1, 0, 0, 0, 0, [], j0m), 
  (.aload 4, 2, 4, 0, 0, 0, [], j0m), j0, (.invokevirtual 382, 3, 12, 2, 1, 0, [8085, 8087, 98, 1015, 8088], m_Model_readRootWord), j0, j0, (.goto 90, 3, 0, 249, 0, 0, [], j0m), j0, j0, (.aload_n 0, 1, 0, 0, 0, 0, [], j0m), 
  (.invokevirtual 360, 3, 12, 1, 1, 0, [8081, 8083, 97, 1015, 8084], m_Model_formHere), j0, j0, (.istore 5, 2, 5, 0, 0, 0, [], j0m), j0, (.iload 5, 2, 5, 0, 0, 0, [], j0m), j0, (.iconst (-1), 1, 0, 0, 0, 0, [], j0m), 
  (.if_icmp .eq 12, 3, 0, 183, 0, 0, [], j0m), j0, j0, (.aload_n 0, 1, 0, 0, 0, 0, [], j0m), (.iload 5, 2, 5, 0, 0, 0, [], j0m), j0, (.invokevirtual 336, 3, 12, 2, 1, 0, [8035, 8037, 89, 1015, 8038], m_Model_isStop), 
  j0, j0, (.ifCond .eq 7, 3, 0, 187, 0, 0, [], j0m), j0, j0, (.iconst 1, 1, 0, 0, 0, 0, [], j0m), (.goto 4, 3, 0, 188, 0, 0, [], j0m), j0, j0, (.iconst 0, 1, 0, 0, 0, 0, [], j0m), (.istore 6, 2, 6, 0, 0, 0, [], j0m), 
  j0, (.iconst 0, 1, 0, 0, 0, 0, [], j0m), (.istore 7, 2, 7, 0, 0, 0, [], j0m), j0, (.iload 7, 2, 7, 0, 0, 0, [], j0m), j0, (.aload_n 0, 1, 0, 0, 0, 0, [], j0m), (.getfield 25, 3, 12, 4, 0, 4, [6195], j0m), 
  j0, j0, (.aload_n 0, 1, 0, 0, 0, 0, [], j0m), (.getfield 357, 3, 12, 30, 0, 30, [6221], j0m), j0, j0, (.iaload, 1, 0, 0, 0, 0, [], j0m), (.if_icmp .ge 45, 3, 0, 249, 0, 0, [], j0m), j0, j0, (.aload 4, 2, 4, 0, 0, 0, [], j0m), 
  j0, (.iload 7, 2, 7, 0, 0, 0, [], j0m), j0, (.iload 6, 2, 6, 0, 0, 0, [], j0m), j0, (.ifCond .ne 28, 3, 0, 241, 0, 0, [], j0m), j0, j0, (.aload_n 0, 1, 0, 0, 0, 0, [], j0m), (.getfield 28, 3, 12, 5, 0, 5, [6196], j0m), 
  j0, j0, (.sipush 340, 3, 0, 0, 0, 0, [], j0m), j0, j0, (.aload_n 0, 1, 0, 0, 0, 0, [], j0m), (.getfield 357, 3, 12, 30, 0, 30, [6221], j0m), j0, j0, (.imul, 1, 0, 0, 0, 0, [], j0m), (.iload 7, 2, 7, 0, 0, 0, [], j0m), 
  j0, (.iadd, 1, 0, 0, 0, 0, [], j0m), (.iaload, 1, 0, 0, 0, 0, [], j0m), (.iload 5, 2, 5, 0, 0, 0, [], j0m), j0, (.if_icmp .ne 7, 3, 0, 241, 0, 0, [], j0m), j0, j0, (.iconst 1, 1, 0, 0, 0, 0, [], j0m), 
  (.goto 4, 3, 0, 242, 0, 0, [], j0m), j0, j0, (.iconst 0, 1, 0, 0, 0, 0, [], j0m), (.bastore, 1, 0, 0, 3, 0, [], j0m), (.iinc 7 1, 3, 7, 0, 0, 0, [], j0m), j0, j0, (.goto (-53), 3, 0, 193, 0, 0, [], j0m), 
  j0, j0, (.return_, 1, 0, 0, 0, 0, [], j0m)]
set_option maxRecDepth 20000 in
theorem t_Model_readUnit : okT m_Model_readUnit k_Model_readUnit = true := by decide +kernel
def k_Model_beginsUnit : List jO := [
  (.aload_n 0, 1, 0, 0, 0, 0, [], j0m), (.invokevirtual 230, 3, 12, 1, 1, 0, [7148, 7150, 69, 1015, 7151], m_Model_good), j0, j0, (.ifCond .eq 40, 3, 0, 44, 0, 0, [], j0m), j0, j0, (.aload_n 0, 1, 0, 0, 0, 0, [], j0m), 
  (.getfield 209, 3, 12, 20, 0, 20, [6211], j0m), j0, j0, (.iconst 1, 1, 0, 0, 0, 0, [], j0m), (.if_icmp .ne 10, 3, 0, 22, 0, 0, [], j0m), j0, j0, (.aload_n 0, 1, 0, 0, 0, 0, [], j0m), (.invokevirtual 354, 3, 12, 1, 1, 0, [8067, 8069, 95, 1015, 8070], m_Model_isOp), 
  j0, j0, (.ifCond .eq 21, 3, 0, 40, 0, 0, [], j0m), j0, j0, (.aload_n 0, 1, 0, 0, 0, 0, [], j0m), (.bipush 40, 2, 0, 0, 0, 0, [], j0m), j0, (.invokevirtual 254, 3, 12, 2, 1, 0, [7204, 7206, 81, 1015, 7207], m_Model_isSign), 
  j0, j0, (.ifCond .ne 12, 3, 0, 40, 0, 0, [], j0m), j0, j0, (.aload_n 0, 1, 0, 0, 0, 0, [], j0m), (.bipush 34, 2, 0, 0, 0, 0, [], j0m), j0, (.invokevirtual 254, 3, 12, 2, 1, 0, [7204, 7206, 81, 1015, 7207], m_Model_isSign), 
  j0, j0, (.ifCond .eq 7, 3, 0, 44, 0, 0, [], j0m), j0, j0, (.iconst 1, 1, 0, 0, 0, 0, [], j0m), (.goto 4, 3, 0, 45, 0, 0, [], j0m), j0, j0, (.iconst 0, 1, 0, 0, 0, 0, [], j0m), (.ireturn, 1, 0, 0, 1, 0, [], j0m)
  ]
set_option maxRecDepth 20000 in
theorem t_Model_beginsUnit : okT m_Model_beginsUnit k_Model_beginsUnit = true := by decide +kernel
def k_Model_isOp : List jO := [
  (.aload_n 0, 1, 0, 0, 0, 0, [], j0m), (.ldc_w 342, 3, 6, 0, 1, 0, [], j0m), j0, j0, (.invokevirtual 244, 3, 12, 2, 1, 0, [7157, 7159, 71, 1015, 7160], m_Model_is), j0, j0, (.ifCond .ne 53, 3, 0, 60, 0, 0, [], j0m), 
  j0, j0, (.aload_n 0, 1, 0, 0, 0, 0, [], j0m), (.ldc_w 344, 3, 7, 0, 1, 0, [], j0m), j0, j0, (.invokevirtual 244, 3, 12, 2, 1, 0, [7157, 7159, 71, 1015, 7160], m_Model_is), j0, j0, (.ifCond .ne 43, 3, 0, 60, 0, 0, [], j0m), 
  j0, j0, (.aload_n 0, 1, 0, 0, 0, 0, [], j0m), (.ldc_w 346, 3, 8, 0, 1, 0, [], j0m), j0, j0, (.invokevirtual 244, 3, 12, 2, 1, 0, [7157, 7159, 71, 1015, 7160], m_Model_is), j0, j0, (.ifCond .ne 33, 3, 0, 60, 0, 0, [], j0m), 
  j0, j0, (.aload_n 0, 1, 0, 0, 0, 0, [], j0m), (.ldc_w 348, 3, 9, 0, 1, 0, [], j0m), j0, j0, (.invokevirtual 244, 3, 12, 2, 1, 0, [7157, 7159, 71, 1015, 7160], m_Model_is), j0, j0, (.ifCond .ne 23, 3, 0, 60, 0, 0, [], j0m), 
  j0, j0, (.aload_n 0, 1, 0, 0, 0, 0, [], j0m), (.ldc_w 350, 3, 10, 0, 1, 0, [], j0m), j0, j0, (.invokevirtual 244, 3, 12, 2, 1, 0, [7157, 7159, 71, 1015, 7160], m_Model_is), j0, j0, (.ifCond .ne 13, 3, 0, 60, 0, 0, [], j0m), 
  j0, j0, (.aload_n 0, 1, 0, 0, 0, 0, [], j0m), (.ldc_w 352, 3, 11, 0, 1, 0, [], j0m), j0, j0, (.invokevirtual 244, 3, 12, 2, 1, 0, [7157, 7159, 71, 1015, 7160], m_Model_is), j0, j0, (.ifCond .eq 7, 3, 0, 64, 0, 0, [], j0m), 
  j0, j0, (.iconst 1, 1, 0, 0, 0, 0, [], j0m), (.goto 4, 3, 0, 65, 0, 0, [], j0m), j0, j0, (.iconst 0, 1, 0, 0, 0, 0, [], j0m), (.ireturn, 1, 0, 0, 1, 0, [], j0m)]
set_option maxRecDepth 20000 in
theorem t_Model_isOp : okT m_Model_isOp k_Model_isOp = true := by decide +kernel
def k_Model_readRow : List jO := [
  (.aload_n 0, 1, 0, 0, 0, 0, [], j0m), (.invokevirtual 227, 3, 12, 1, 1, 0, [7137, 7139, 67, 1015, 7140], m_Model_step), j0, j0, (.iconst 0, 1, 0, 0, 0, 0, [], j0m), (.istore_n 2, 1, 2, 0, 0, 0, [], j0m), 
  (.iload_n 2, 1, 2, 0, 0, 0, [], j0m), (.aload_n 0, 1, 0, 0, 0, 0, [], j0m), (.getfield 25, 3, 12, 4, 0, 4, [6195], j0m), j0, j0, (.aload_n 0, 1, 0, 0, 0, 0, [], j0m), (.getfield 357, 3, 12, 30, 0, 30, [6221], j0m), 
  j0, j0, (.iaload, 1, 0, 0, 0, 0, [], j0m), (.if_icmp .ge 13, 3, 0, 29, 0, 0, [], j0m), j0, j0, (.aload_n 1, 1, 1, 0, 0, 0, [], j0m), (.iload_n 2, 1, 2, 0, 0, 0, [], j0m), (.iconst 1, 1, 0, 0, 0, 0, [], j0m), 
  (.bastore, 1, 0, 0, 3, 0, [], j0m), (.iinc 2 1, 3, 2, 0, 0, 0, [], j0m), j0, j0, (.goto (-20), 3, 0, 6, 0, 0, [], j0m), j0, j0, (.iconst 0, 1, 0, 0, 0, 0, [], j0m), (.istore_n 2, 1, 2, 0, 0, 0, [], j0m), 
  (.aload_n 0, 1, 0, 0, 0, 0, [], j0m), (.invokevirtual 230, 3, 12, 1, 1, 0, [7148, 7150, 69, 1015, 7151], m_Model_good), j0, j0, (.ifCond .eq 99, 3, 0, 134, 0, 0, [], j0m), j0, j0, (.aload_n 0, 1, 0, 0, 0, 0, [], j0m), 
  (.getfield 209, 3, 12, 20, 0, 20, [6211], j0m), j0, j0, (.iconst 1, 1, 0, 0, 0, 0, [], j0m), (.if_icmp .ne 91, 3, 0, 134, 0, 0, [], j0m), j0, j0, (.aload_n 0, 1, 0, 0, 0, 0, [], j0m), (.invokevirtual 360, 3, 12, 1, 1, 0, [8081, 8083, 97, 1015, 8084], m_Model_formHere), 
  j0, j0, (.istore_n 3, 1, 3, 0, 0, 0, [], j0m), (.iconst 0, 1, 0, 0, 0, 0, [], j0m), (.istore 4, 2, 4, 0, 0, 0, [], j0m), j0, (.iload 4, 2, 4, 0, 0, 0, [], j0m), j0, (.aload_n 0, 1, 0, 0, 0, 0, [], j0m), 
  (.getfield 25, 3, 12, 4, 0, 4, [6195], j0m), j0, j0, (.aload_n 0, 1, 0, 0, 0, 0, [], j0m), (.getfield 357, 3, 12, 30, 0, 30, [6221], j0m), j0, j0, (.iaload, 1, 0, 0, 0, 0, [], j0m), (.if_icmp .ge 63, 3, 0, 128, 0, 0, [], j0m), 
  j0, j0, (.aload_n 1, 1, 1, 0, 0, 0, [], j0m), (.iload 4, 2, 4, 0, 0, 0, [], j0m), j0, (.aload_n 1, 1, 1, 0, 0, 0, [], j0m), (.iload 4, 2, 4, 0, 0, 0, [], j0m), j0, (.baload, 1, 0, 0, 3, 0, [], j0m), 
  (.ifCond .eq 45, 3, 0, 120, 0, 0, [], j0m), j0, j0, (.iload 4, 2, 4, 0, 0, 0, [], j0m), j0, (.iload_n 2, 1, 2, 0, 0, 0, [], j0m), (.iadd, 1, 0, 0, 0, 0, [], j0m), (.aload_n 0, 1, 0, 0, 0, 0, [], j0m), 
  (.getfield 25, 3, 12, 4, 0, 4, [6195], j0m), j0, j0, (.aload_n 0, 1, 0, 0, 0, 0, [], j0m), (.getfield 357, 3, 12, 30, 0, 30, [6221], j0m), j0, j0, (.iaload, 1, 0, 0, 0, 0, [], j0m), (.if_icmp .ge 29, 3, 0, 120, 0, 0, [], j0m), 
  j0, j0, (.aload_n 0, 1, 0, 0, 0, 0, [], j0m), (.getfield 28, 3, 12, 5, 0, 5, [6196], j0m), j0, j0, (.sipush 340, 3, 0, 0, 0, 0, [], j0m), j0, j0, (.aload_n 0, 1, 0, 0, 0, 0, [], j0m), (.getfield 357, 3, 12, 30, 0, 30, [6221], j0m), 
  j0, j0, (.imul, 1, 0, 0, 0, 0, [], j0m), (.iload 4, 2, 4, 0, 0, 0, [], j0m), j0, (.iadd, 1, 0, 0, 0, 0, [], j0m), (.iload_n 2, 1, 2, 0, 0, 0, [], j0m), (.iadd, 1, 0, 0, 0, 0, [], j0m), (.iaload, 1, 0, 0, 0, 0, [], j0m), 
  (.iload_n 3, 1, 3, 0, 0, 0, [], j0m), (.if_icmp .ne 7, 3, 0, 120, 0, 0, [], j0m), j0, j0, (.iconst 1, 1, 0, 0, 0, 0, [], j0m), (.goto 4, 3, 0, 121, 0, 0, [], j0m), j0, j0, (.iconst 0, 1, 0, 0, 0, 0, [], j0m), 
  (.bastore, 1, 0, 0, 3, 0, [], j0m), (.iinc 4 1, 3, 4, 0, 0, 0, [], j0m), j0, j0, (.goto (-71), 3, 0, 54, 0, 0, [], j0m), j0, j0, (.iinc 2 1, 3, 2, 0, 0, 0, [], j0m), j0, j0, (.goto (-100), 3, 0, 31, 0, 0, [], j0m), 
  j0, j0, (.iload_n 2, 1, 2, 0, 0, 0, [], j0m), (.ifCond .eq 12, 3, 0, 147, 0, 0, [], j0m), j0, j0, (.aload_n 0, 1, 0, 0, 0, 0, [], j0m), (.bipush 34, 2, 0, 0, 0, 0, [], j0m), j0, (.invokevirtual 254, 3, 12, 2, 1, 0, [7204, 7206, 81, 1015, 7207], m_Model_isSign), 
  j0, j0, (.ifCond .ne 11, 3, 0, 155, 0, 0, [], j0m), j0, j0, (.aload_n 0, 1, 0, 0, 0, 0, [], j0m), (.iconst 1, 1, 0, 0, 0, 0, [], j0m), (.invokevirtual 251, 3, 12, 2, 1, 0, [7166, 7168, 72, 1015, 7169], m_Model_wrong), 
  j0, j0, (.goto 7, 3, 0, 159, 0, 0, [], j0m), j0, j0, (.aload_n 0, 1, 0, 0, 0, 0, [], j0m), (.invokevirtual 227, 3, 12, 1, 1, 0, [7137, 7139, 67, 1015, 7140], m_Model_step), j0, j0, (.return_, 1, 0, 0, 0, 0, [], j0m)
  ]
set_option maxRecDepth 20000 in
theorem t_Model_readRow : okT m_Model_readRow k_Model_readRow = true := by decide +kernel
def k_Model_formHere : List jO := [
  (.aload_n 0, 1, 0, 0, 0, 0, [], j0m), (.getfield 209, 3, 12, 20, 0, 20, [6211], j0m), j0, j0, (.iconst 1, 1, 0, 0, 0, 0, [], j0m), (.if_icmp .eq 8, 3, 0, 13, 0, 0, [], j0m), j0, j0, (.aload_n 0, 1, 0, 0, 0, 0, [], j0m), 
  (.iconst 1, 1, 0, 0, 0, 0, [], j0m), (.invokevirtual 251, 3, 12, 2, 1, 0, [7166, 7168, 72, 1015, 7169], m_Model_wrong), j0, j0, (.aload_n 0, 1, 0, 0, 0, 0, [], j0m), (.invokevirtual 230, 3, 12, 1, 1, 0, [7148, 7150, 69, 1015, 7151], m_Model_good), 
  j0, j0, (.ifCond .ne 5, 3, 0, 22, 0, 0, [], j0m), j0, j0, (.iconst (-1), 1, 0, 0, 0, 0, [], j0m), (.ireturn, 1, 0, 0, 0, 0, [], j0m), (.aload_n 0, 1, 0, 0, 0, 0, [], j0m), (.aload_n 0, 1, 0, 0, 0, 0, [], j0m), 
  (.getfield 76, 3, 12, 31, 0, 31, [6222], j0m), j0, j0, (.iconst 0, 1, 0, 0, 0, 0, [], j0m), (.invokevirtual 266, 3, 12, 3, 1, 0, [7191, 7193, 78, 1015, 7194], m_Model_wordTo), j0, j0, (.iconst 1, 1, 0, 0, 0, 0, [], j0m), 
  (.istore_n 1, 1, 1, 0, 0, 0, [], j0m), (.iload_n 1, 1, 1, 0, 0, 0, [], j0m), (.aload_n 0, 1, 0, 0, 0, 0, [], j0m), (.getfield 76, 3, 12, 31, 0, 31, [6222], j0m), j0, j0, (.iconst 0, 1, 0, 0, 0, 0, [], j0m), 
  (.iaload, 1, 0, 0, 0, 0, [], j0m), (.if_icmp .gt 25, 3, 0, 65, 0, 0, [], j0m), j0, j0, (.aload_n 0, 1, 0, 0, 0, 0, [], j0m), (.getfield 76, 3, 12, 31, 0, 31, [6222], j0m), j0, j0, (.iload_n 1, 1, 1, 0, 0, 0, [], j0m), 
  (.aload_n 0, 1, 0, 0, 0, 0, [], j0m), (.aload_n 0, 1, 0, 0, 0, 0, [], j0m), (.getfield 76, 3, 12, 31, 0, 31, [6222], j0m), j0, j0, (.iload_n 1, 1, 1, 0, 0, 0, [], j0m), (.iaload, 1, 0, 0, 0, 0, [], j0m), 
  (.invokevirtual 155, 3, 12, 2, 1, 0, [6170, 6172, 62, 1015, 6173], m_Model_folded), j0, j0, (.iastore, 1, 0, 0, 0, 0, [], j0m), (.iinc 1 1, 3, 1, 0, 0, 0, [], j0m), j0, j0, (.goto (-29), 3, 0, 33, 0, 0, [], j0m), 
  j0, j0, (.aload_n 0, 1, 0, 0, 0, 0, [], j0m), (.aload_n 0, 1, 0, 0, 0, 0, [], j0m), (.getfield 76, 3, 12, 31, 0, 31, [6222], j0m), j0, j0, (.iconst 0, 1, 0, 0, 0, 0, [], j0m), (.invokevirtual 176, 3, 12, 3, 1, 0, [6182, 6184, 65, 1015, 6185], m_Model_find), 
  j0, j0, (.ireturn, 1, 0, 0, 0, 0, [], j0m)]
set_option maxRecDepth 20000 in
theorem t_Model_formHere : okT m_Model_formHere k_Model_formHere = true := by decide +kernel
def k_Model_readRootWord : List jO := [
  (.aload_n 0, 1, 0, 0, 0, 0, [], j0m), (.invokevirtual 227, 3, 12, 1, 1, 0, [7137, 7139, 67, 1015, 7140], m_Model_step), j0, j0, (.aload_n 0, 1, 0, 0, 0, 0, [], j0m), (.invokevirtual 354, 3, 12, 1, 1, 0, [8067, 8069, 95, 1015, 8070], m_Model_isOp), 
  j0, j0, (.ifCond .ne 13, 3, 0, 21, 0, 0, [], j0m), j0, j0, (.aload_n 0, 1, 0, 0, 0, 0, [], j0m), (.ldc_w 280, 3, 3, 0, 1, 0, [], j0m), j0, j0, (.invokevirtual 244, 3, 12, 2, 1, 0, [7157, 7159, 71, 1015, 7160], m_Model_is), 
  j0, j0, (.ifCond .eq 8, 3, 0, 26, 0, 0, [], j0m), j0, j0, (.aload_n 0, 1, 0, 0, 0, 0, [], j0m), (.iconst 1, 1, 0, 0, 0, 0, [], j0m), (.invokevirtual 251, 3, 12, 2, 1, 0, [7166, 7168, 72, 1015, 7169], m_Model_wrong), 
  j0, j0, (.aload_n 0, 1, 0, 0, 0, 0, [], j0m), (.getfield 209, 3, 12, 20, 0, 20, [6211], j0m), j0, j0, (.iconst 1, 1, 0, 0, 0, 0, [], j0m), (.if_icmp .eq 8, 3, 0, 39, 0, 0, [], j0m), j0, j0, (.aload_n 0, 1, 0, 0, 0, 0, [], j0m), 
  (.iconst 1, 1, 0, 0, 0, 0, [], j0m), (.invokevirtual 251, 3, 12, 2, 1, 0, [7166, 7168, 72, 1015, 7169], m_Model_wrong), j0, j0, (.aload_n 0, 1, 0, 0, 0, 0, [], j0m), (.invokevirtual 230, 3, 12, 1, 1, 0, [7148, 7150, 69, 1015, 7151], m_Model_good), 
  j0, j0, (.ifCond .ne 4, 3, 0, 47, 0, 0, [], j0m), j0, j0, (.return_, 1, 0, 0, 0, 0, [], j0m), (.aload_n 0, 1, 0, 0, 0, 0, [], j0m), (.aload_n 0, 1, 0, 0, 0, 0, [], j0m), (.getfield 76, 3, 12, 31, 0, 31, [6222], j0m), 
  j0, j0, (.iconst 0, 1, 0, 0, 0, 0, [], j0m), (.invokevirtual 266, 3, 12, 3, 1, 0, [7191, 7193, 78, 1015, 7194], m_Model_wordTo), j0, j0, (.iconst 1, 1, 0, 0, 0, 0, [], j0m), (.istore_n 2, 1, 2, 0, 0, 0, [], j0m), 
  (.iload_n 2, 1, 2, 0, 0, 0, [], j0m), (.aload_n 0, 1, 0, 0, 0, 0, [], j0m), (.getfield 76, 3, 12, 31, 0, 31, [6222], j0m), j0, j0, (.iconst 0, 1, 0, 0, 0, 0, [], j0m), (.iaload, 1, 0, 0, 0, 0, [], j0m), 
  (.if_icmp .gt 25, 3, 0, 90, 0, 0, [], j0m), j0, j0, (.aload_n 0, 1, 0, 0, 0, 0, [], j0m), (.getfield 76, 3, 12, 31, 0, 31, [6222], j0m), j0, j0, (.iload_n 2, 1, 2, 0, 0, 0, [], j0m), (.aload_n 0, 1, 0, 0, 0, 0, [], j0m), 
  (.aload_n 0, 1, 0, 0, 0, 0, [], j0m), (.getfield 76, 3, 12, 31, 0, 31, [6222], j0m), j0, j0, (.iload_n 2, 1, 2, 0, 0, 0, [], j0m), (.iaload, 1, 0, 0, 0, 0, [], j0m), (.invokevirtual 155, 3, 12, 2, 1, 0, [6170, 6172, 62, 1015, 6173], m_Model_folded), 
  j0, j0, (.iastore, 1, 0, 0, 0, 0, [], j0m), (.iinc 2 1, 3, 2, 0, 0, 0, [], j0m), j0, j0, (.goto (-29), 3, 0, 58, 0, 0, [], j0m), j0, j0, (.iconst (-1), 1, 0, 0, 0, 0, [], j0m), (.istore_n 2, 1, 2, 0, 0, 0, [], j0m), 
  (.aload_n 0, 1, 0, 0, 0, 0, [], j0m), (.getfield 13, 3, 12, 1, 0, 1, [6192], j0m), j0, j0, (.iconst 2, 1, 0, 0, 0, 0, [], j0m), (.iaload, 1, 0, 0, 0, 0, [], j0m), (.iconst 1, 1, 0, 0, 0, 0, [], j0m), 
  (.isub, 1, 0, 0, 0, 0, [], j0m), (.istore_n 3, 1, 3, 0, 0, 0, [], j0m), (.iload_n 3, 1, 3, 0, 0, 0, [], j0m), (.ifCond .lt 32, 3, 0, 134, 0, 0, [], j0m), j0, j0, (.aload_n 0, 1, 0, 0, 0, 0, [], j0m), 
  (.sipush 477, 3, 0, 0, 0, 0, [], j0m), j0, j0, (.bipush 106, 2, 0, 0, 0, 0, [], j0m), j0, (.iload_n 3, 1, 3, 0, 0, 0, [], j0m), (.imul, 1, 0, 0, 0, 0, [], j0m), (.iadd, 1, 0, 0, 0, 0, [], j0m), (.iconst 1, 1, 0, 0, 0, 0, [], j0m), 
  (.iadd, 1, 0, 0, 0, 0, [], j0m), (.invokevirtual 363, 3, 12, 2, 1, 0, [8089, 8091, 99, 1015, 8092], m_Model_isTold), j0, j0, (.ifCond .eq 7, 3, 0, 126, 0, 0, [], j0m), j0, j0, (.iload_n 3, 1, 3, 0, 0, 0, [], j0m), 
  (.goto 4, 3, 0, 127, 0, 0, [], j0m), j0, j0, (.iload_n 2, 1, 2, 0, 0, 0, [], j0m), (.istore_n 2, 1, 2, 0, 0, 0, [], j0m), (.iinc 3 (-1), 3, 3, 0, 0, 0, [], j0m), j0, j0, (.goto (-30), 3, 0, 101, 0, 0, [], j0m), 
  j0, j0, (.iconst 0, 1, 0, 0, 0, 0, [], j0m), (.istore_n 3, 1, 3, 0, 0, 0, [], j0m), (.iload_n 3, 1, 3, 0, 0, 0, [], j0m), (.aload_n 0, 1, 0, 0, 0, 0, [], j0m), (.getfield 25, 3, 12, 4, 0, 4, [6195], j0m), 
  j0, j0, (.aload_n 0, 1, 0, 0, 0, 0, [], j0m), (.getfield 357, 3, 12, 30, 0, 30, [6221], j0m), j0, j0, (.iaload, 1, 0, 0, 0, 0, [], j0m), (.if_icmp .ge 45, 3, 0, 191, 0, 0, [], j0m), j0, j0, (.aload_n 1, 1, 1, 0, 0, 0, [], j0m), 
  (.iload_n 3, 1, 3, 0, 0, 0, [], j0m), (.iload_n 2, 1, 2, 0, 0, 0, [], j0m), (.iconst (-1), 1, 0, 0, 0, 0, [], j0m), (.if_icmp .eq 30, 3, 0, 183, 0, 0, [], j0m), j0, j0, (.aload_n 0, 1, 0, 0, 0, 0, [], j0m), 
  (.iload_n 2, 1, 2, 0, 0, 0, [], j0m), (.aload_n 0, 1, 0, 0, 0, 0, [], j0m), (.getfield 28, 3, 12, 5, 0, 5, [6196], j0m), j0, j0, (.sipush 340, 3, 0, 0, 0, 0, [], j0m), j0, j0, (.aload_n 0, 1, 0, 0, 0, 0, [], j0m), 
  (.getfield 357, 3, 12, 30, 0, 30, [6221], j0m), j0, j0, (.imul, 1, 0, 0, 0, 0, [], j0m), (.iload_n 3, 1, 3, 0, 0, 0, [], j0m), (.iadd, 1, 0, 0, 0, 0, [], j0m), (.iaload, 1, 0, 0, 0, 0, [], j0m), (.invokevirtual 366, 3, 12, 3, 1, 0, [8093, 8095, 100, 1015, 8096], m_Model_isOfRoot), 
  j0, j0, (.ifCond .eq 7, 3, 0, 183, 0, 0, [], j0m), j0, j0, (.iconst 1, 1, 0, 0, 0, 0, [], j0m), (.goto 4, 3, 0, 184, 0, 0, [], j0m), j0, j0, (.iconst 0, 1, 0, 0, 0, 0, [], j0m), (.bastore, 1, 0, 0, 3, 0, [], j0m), 
  (.iinc 3 1, 3, 3, 0, 0, 0, [], j0m), j0, j0, (.goto (-52), 3, 0, 136, 0, 0, [], j0m), j0, j0, (.return_, 1, 0, 0, 0, 0, [], j0m)]
set_option maxRecDepth 20000 in
theorem t_Model_readRootWord : okT m_Model_readRootWord k_Model_readRootWord = true := by decide +kernel
def k_Model_isTold : List jO := [
  (.aload_n 0, 1, 0, 0, 0, 0, [], j0m), (.getfield 13, 3, 12, 1, 0, 1, [6192], j0m), j0, j0, (.iload_n 1, 1, 1, 0, 0, 0, [], j0m), (.iaload, 1, 0, 0, 0, 0, [], j0m), (.aload_n 0, 1, 0, 0, 0, 0, [], j0m), 
  (.getfield 76, 3, 12, 31, 0, 31, [6222], j0m), j0, j0, (.iconst 0, 1, 0, 0, 0, 0, [], j0m), (.iaload, 1, 0, 0, 0, 0, [], j0m), (.if_icmp .ne 7, 3, 0, 19, 0, 0, [], j0m), j0, j0, (.iconst 1, 1, 0, 0, 0, 0, [], j0m), 
  (.goto 4, 3, 0, 20, 0, 0, [], j0m), j0, j0, (.iconst 0, 1, 0, 0, 0, 0, [], j0m), (.istore_n 2, 1, 2, 0, 0, 0, [], j0m), (.iconst 1, 1, 0, 0, 0, 0, [], j0m), (.istore_n 3, 1, 3, 0, 0, 0, [], j0m), (.iload_n 3, 1, 3, 0, 0, 0, [], j0m), 
  (.aload_n 0, 1, 0, 0, 0, 0, [], j0m), (.getfield 13, 3, 12, 1, 0, 1, [6192], j0m), j0, j0, (.iload_n 1, 1, 1, 0, 0, 0, [], j0m), (.iaload, 1, 0, 0, 0, 0, [], j0m), (.if_icmp .gt 40, 3, 0, 70, 0, 0, [], j0m), 
  j0, j0, (.iload_n 2, 1, 2, 0, 0, 0, [], j0m), (.ifCond .eq 36, 3, 0, 70, 0, 0, [], j0m), j0, j0, (.aload_n 0, 1, 0, 0, 0, 0, [], j0m), (.aload_n 0, 1, 0, 0, 0, 0, [], j0m), (.getfield 13, 3, 12, 1, 0, 1, [6192], j0m), 
  j0, j0, (.iload_n 1, 1, 1, 0, 0, 0, [], j0m), (.iload_n 3, 1, 3, 0, 0, 0, [], j0m), (.iadd, 1, 0, 0, 0, 0, [], j0m), (.iaload, 1, 0, 0, 0, 0, [], j0m), (.invokevirtual 155, 3, 12, 2, 1, 0, [6170, 6172, 62, 1015, 6173], m_Model_folded), 
  j0, j0, (.aload_n 0, 1, 0, 0, 0, 0, [], j0m), (.getfield 76, 3, 12, 31, 0, 31, [6222], j0m), j0, j0, (.iload_n 3, 1, 3, 0, 0, 0, [], j0m), (.iaload, 1, 0, 0, 0, 0, [], j0m), (.if_icmp .ne 7, 3, 0, 62, 0, 0, [], j0m), 
  j0, j0, (.iconst 1, 1, 0, 0, 0, 0, [], j0m), (.goto 4, 3, 0, 63, 0, 0, [], j0m), j0, j0, (.iconst 0, 1, 0, 0, 0, 0, [], j0m), (.istore_n 2, 1, 2, 0, 0, 0, [], j0m), (.iinc 3 1, 3, 3, 0, 0, 0, [], j0m), 
  j0, j0, (.goto (-44), 3, 0, 23, 0, 0, [], j0m), j0, j0, (.iload_n 2, 1, 2, 0, 0, 0, [], j0m), (.ireturn, 1, 0, 0, 1, 0, [], j0m)]
set_option maxRecDepth 20000 in
theorem t_Model_isTold : okT m_Model_isTold k_Model_isTold = true := by decide +kernel
def k_Model_isOfRoot : List jO := [
  (.sipush 477, 3, 0, 0, 0, 0, [], j0m), j0, j0, (.bipush 106, 2, 0, 0, 0, 0, [], j0m), j0, (.iload_n 1, 1, 1, 0, 0, 0, [], j0m), (.imul, 1, 0, 0, 0, 0, [], j0m), (.iadd, 1, 0, 0, 0, 0, [], j0m), (.istore_n 3, 1, 3, 0, 0, 0, [], j0m), 
  (.iconst 0, 1, 0, 0, 0, 0, [], j0m), (.istore 4, 2, 4, 0, 0, 0, [], j0m), j0, (.iload 4, 2, 4, 0, 0, 0, [], j0m), j0, (.aload_n 0, 1, 0, 0, 0, 0, [], j0m), (.getfield 13, 3, 12, 1, 0, 1, [6192], j0m), 
  j0, j0, (.iload_n 3, 1, 3, 0, 0, 0, [], j0m), (.iaload, 1, 0, 0, 0, 0, [], j0m), (.if_icmp .ge 28, 3, 0, 48, 0, 0, [], j0m), j0, j0, (.aload_n 0, 1, 0, 0, 0, 0, [], j0m), (.iload_n 3, 1, 3, 0, 0, 0, [], j0m), 
  (.iconst 1, 1, 0, 0, 0, 0, [], j0m), (.iadd, 1, 0, 0, 0, 0, [], j0m), (.bipush 21, 2, 0, 0, 0, 0, [], j0m), j0, (.iload 4, 2, 4, 0, 0, 0, [], j0m), j0, (.imul, 1, 0, 0, 0, 0, [], j0m), (.iadd, 1, 0, 0, 0, 0, [], j0m), 
  (.invokevirtual 191, 3, 12, 2, 1, 0, [8039, 8041, 90, 1015, 8042], m_Model_ruledForm), j0, j0, (.iload_n 2, 1, 2, 0, 0, 0, [], j0m), (.if_icmp .ne 5, 3, 0, 42, 0, 0, [], j0m), j0, j0, (.iconst 1, 1, 0, 0, 0, 0, [], j0m), 
  (.ireturn, 1, 0, 0, 1, 0, [], j0m), (.iinc 4 1, 3, 4, 0, 0, 0, [], j0m), j0, j0, (.goto (-33), 3, 0, 12, 0, 0, [], j0m), j0, j0, (.iconst 0, 1, 0, 0, 0, 0, [], j0m), (.ireturn, 1, 0, 0, 1, 0, [], j0m)
  ]
set_option maxRecDepth 20000 in
theorem t_Model_isOfRoot : okT m_Model_isOfRoot k_Model_isOfRoot = true := by decide +kernel
def k_Model_opHere : List jO := [
  (.aload_n 0, 1, 0, 0, 0, 0, [], j0m), (.ldc_w 342, 3, 6, 0, 1, 0, [], j0m), j0, j0, (.invokevirtual 244, 3, 12, 2, 1, 0, [7157, 7159, 71, 1015, 7160], m_Model_is), j0, j0, (.ifCond .eq 7, 3, 0, 14, 0, 0, [], j0m), 
  j0, j0, (.iconst 0, 1, 0, 0, 0, 0, [], j0m), (.goto 60, 3, 0, 71, 0, 0, [], j0m), j0, j0, (.aload_n 0, 1, 0, 0, 0, 0, [], j0m), (.ldc_w 344, 3, 7, 0, 1, 0, [], j0m), j0, j0, (.invokevirtual 244, 3, 12, 2, 1, 0, [7157, 7159, 71, 1015, 7160], m_Model_is), 
  j0, j0, (.ifCond .eq 7, 3, 0, 28, 0, 0, [], j0m), j0, j0, (.iconst 1, 1, 0, 0, 0, 0, [], j0m), (.goto 46, 3, 0, 71, 0, 0, [], j0m), j0, j0, (.aload_n 0, 1, 0, 0, 0, 0, [], j0m), (.ldc_w 346, 3, 8, 0, 1, 0, [], j0m), 
  j0, j0, (.invokevirtual 244, 3, 12, 2, 1, 0, [7157, 7159, 71, 1015, 7160], m_Model_is), j0, j0, (.ifCond .eq 7, 3, 0, 42, 0, 0, [], j0m), j0, j0, (.iconst 2, 1, 0, 0, 0, 0, [], j0m), (.goto 32, 3, 0, 71, 0, 0, [], j0m), 
  j0, j0, (.aload_n 0, 1, 0, 0, 0, 0, [], j0m), (.ldc_w 348, 3, 9, 0, 1, 0, [], j0m), j0, j0, (.invokevirtual 244, 3, 12, 2, 1, 0, [7157, 7159, 71, 1015, 7160], m_Model_is), j0, j0, (.ifCond .eq 7, 3, 0, 56, 0, 0, [], j0m), 
  j0, j0, (.iconst 3, 1, 0, 0, 0, 0, [], j0m), (.goto 18, 3, 0, 71, 0, 0, [], j0m), j0, j0, (.aload_n 0, 1, 0, 0, 0, 0, [], j0m), (.ldc_w 350, 3, 10, 0, 1, 0, [], j0m), j0, j0, (.invokevirtual 244, 3, 12, 2, 1, 0, [7157, 7159, 71, 1015, 7160], m_Model_is), 
  j0, j0, (.ifCond .eq 7, 3, 0, 70, 0, 0, [], j0m), j0, j0, (.iconst 4, 1, 0, 0, 0, 0, [], j0m), (.goto 4, 3, 0, 71, 0, 0, [], j0m), j0, j0, (.iconst 5, 1, 0, 0, 0, 0, [], j0m), (.ireturn, 1, 0, 0, 0, 0, [], j0m)
  ]
set_option maxRecDepth 20000 in
theorem t_Model_opHere : okT m_Model_opHere k_Model_opHere = true := by decide +kernel
def k_Model_joins : List jO := [
  (.iconst 0, 1, 0, 0, 0, 0, [], j0m), (.istore 5, 2, 5, 0, 0, 0, [], j0m), j0, (.iload 5, 2, 5, 0, 0, 0, [], j0m), j0, (.aload_n 0, 1, 0, 0, 0, 0, [], j0m), (.getfield 25, 3, 12, 4, 0, 4, [6195], j0m), 
  j0, j0, (.aload_n 0, 1, 0, 0, 0, 0, [], j0m), (.getfield 357, 3, 12, 30, 0, 30, [6221], j0m), j0, j0, (.iaload, 1, 0, 0, 0, 0, [], j0m), (.if_icmp .ge 224, 3, 0, 238, 0, 0, [], j0m), j0, j0, (.iload_n 1, 1, 1, 0, 0, 0, [], j0m), 
  (.tableswitch 190 0 4 #[34, 66, 98, 130, 160], 34, 0, 0, 0, 0, [], j0m), j0, j0, j0, j0, j0, j0, j0, j0, j0, j0, j0, j0, j0, j0, j0, j0, j0, j0, j0, j0, j0, j0, j0, j0, j0, j0, j0, j0, j0, j0, j0, j0, 
  j0, (.aload_n 3, 1, 3, 0, 0, 0, [], j0m), (.iload 5, 2, 5, 0, 0, 0, [], j0m), j0, (.aload_n 3, 1, 3, 0, 0, 0, [], j0m), (.iload 5, 2, 5, 0, 0, 0, [], j0m), j0, (.baload, 1, 0, 0, 3, 0, [], j0m), (.ifCond .eq 20, 3, 0, 79, 0, 0, [], j0m), 
  j0, j0, (.aload_n 0, 1, 0, 0, 0, 0, [], j0m), (.iload 5, 2, 5, 0, 0, 0, [], j0m), j0, (.iload_n 2, 1, 2, 0, 0, 0, [], j0m), (.aload 4, 2, 4, 0, 0, 0, [], j0m), j0, (.iconst 0, 1, 0, 0, 0, 0, [], j0m), 
  (.invokevirtual 400, 3, 12, 5, 1, 0, [8106, 8108, 103, 1015, 8109], m_Model_isNear), j0, j0, (.ifCond .eq 7, 3, 0, 79, 0, 0, [], j0m), j0, j0, (.iconst 1, 1, 0, 0, 0, 0, [], j0m), (.goto 4, 3, 0, 80, 0, 0, [], j0m), 
  j0, j0, (.iconst 0, 1, 0, 0, 0, 0, [], j0m), (.bastore, 1, 0, 0, 3, 0, [], j0m), (.goto 151, 3, 0, 232, 0, 0, [], j0m), j0, j0, (.aload_n 3, 1, 3, 0, 0, 0, [], j0m), (.iload 5, 2, 5, 0, 0, 0, [], j0m), 
  j0, (.aload_n 3, 1, 3, 0, 0, 0, [], j0m), (.iload 5, 2, 5, 0, 0, 0, [], j0m), j0, (.baload, 1, 0, 0, 3, 0, [], j0m), (.ifCond .eq 20, 3, 0, 111, 0, 0, [], j0m), j0, j0, (.aload_n 0, 1, 0, 0, 0, 0, [], j0m), 
  (.iload 5, 2, 5, 0, 0, 0, [], j0m), j0, (.iload_n 2, 1, 2, 0, 0, 0, [], j0m), (.aload 4, 2, 4, 0, 0, 0, [], j0m), j0, (.iconst 1, 1, 0, 0, 0, 0, [], j0m), (.invokevirtual 400, 3, 12, 5, 1, 0, [8106, 8108, 103, 1015, 8109], m_Model_isNear), 
  j0, j0, (.ifCond .eq 7, 3, 0, 111, 0, 0, [], j0m), j0, j0, (.iconst 1, 1, 0, 0, 0, 0, [], j0m), (.goto 4, 3, 0, 112, 0, 0, [], j0m), j0, j0, (.iconst 0, 1, 0, 0, 0, 0, [], j0m), (.bastore, 1, 0, 0, 3, 0, [], j0m), 
  (.goto 119, 3, 0, 232, 0, 0, [], j0m), j0, j0, (.aload_n 3, 1, 3, 0, 0, 0, [], j0m), (.iload 5, 2, 5, 0, 0, 0, [], j0m), j0, (.aload_n 3, 1, 3, 0, 0, 0, [], j0m), (.iload 5, 2, 5, 0, 0, 0, [], j0m), 
  j0, (.baload, 1, 0, 0, 3, 0, [], j0m), (.ifCond .eq 20, 3, 0, 143, 0, 0, [], j0m), j0, j0, (.aload_n 0, 1, 0, 0, 0, 0, [], j0m), (.iload 5, 2, 5, 0, 0, 0, [], j0m), j0, (.iload_n 2, 1, 2, 0, 0, 0, [], j0m), 
  (.aload 4, 2, 4, 0, 0, 0, [], j0m), j0, (.iconst 0, 1, 0, 0, 0, 0, [], j0m), (.invokevirtual 400, 3, 12, 5, 1, 0, [8106, 8108, 103, 1015, 8109], m_Model_isNear), j0, j0, (.ifCond .ne 7, 3, 0, 143, 0, 0, [], j0m), 
  j0, j0, (.iconst 1, 1, 0, 0, 0, 0, [], j0m), (.goto 4, 3, 0, 144, 0, 0, [], j0m), j0, j0, (.iconst 0, 1, 0, 0, 0, 0, [], j0m), (.bastore, 1, 0, 0, 3, 0, [], j0m), (.goto 87, 3, 0, 232, 0, 0, [], j0m), 
  j0, j0, (.aload_n 3, 1, 3, 0, 0, 0, [], j0m), (.iload 5, 2, 5, 0, 0, 0, [], j0m), j0, (.aload_n 3, 1, 3, 0, 0, 0, [], j0m), (.iload 5, 2, 5, 0, 0, 0, [], j0m), j0, (.baload, 1, 0, 0, 3, 0, [], j0m), 
  (.ifCond .eq 18, 3, 0, 173, 0, 0, [], j0m), j0, j0, (.aload_n 0, 1, 0, 0, 0, 0, [], j0m), (.iload 5, 2, 5, 0, 0, 0, [], j0m), j0, (.aload 4, 2, 4, 0, 0, 0, [], j0m), j0, (.invokevirtual 404, 3, 12, 3, 1, 0, [8111, 8113, 104, 1015, 8114], m_Model_hasInLine), 
  j0, j0, (.ifCond .eq 7, 3, 0, 173, 0, 0, [], j0m), j0, j0, (.iconst 1, 1, 0, 0, 0, 0, [], j0m), (.goto 4, 3, 0, 174, 0, 0, [], j0m), j0, j0, (.iconst 0, 1, 0, 0, 0, 0, [], j0m), (.bastore, 1, 0, 0, 3, 0, [], j0m), 
  (.goto 57, 3, 0, 232, 0, 0, [], j0m), j0, j0, (.aload_n 3, 1, 3, 0, 0, 0, [], j0m), (.iload 5, 2, 5, 0, 0, 0, [], j0m), j0, (.aload_n 3, 1, 3, 0, 0, 0, [], j0m), (.iload 5, 2, 5, 0, 0, 0, [], j0m), j0, 
  (.baload, 1, 0, 0, 3, 0, [], j0m), (.ifCond .eq 18, 3, 0, 203, 0, 0, [], j0m), j0, j0, (.aload_n 0, 1, 0, 0, 0, 0, [], j0m), (.iload 5, 2, 5, 0, 0, 0, [], j0m), j0, (.aload 4, 2, 4, 0, 0, 0, [], j0m), 
  j0, (.invokevirtual 404, 3, 12, 3, 1, 0, [8111, 8113, 104, 1015, 8114], m_Model_hasInLine), j0, j0, (.ifCond .ne 7, 3, 0, 203, 0, 0, [], j0m), j0, j0, (.iconst 1, 1, 0, 0, 0, 0, [], j0m), (.goto 4, 3, 0, 204, 0, 0, [], j0m), 
  j0, j0, (.iconst 0, 1, 0, 0, 0, 0, [], j0m), (.bastore, 1, 0, 0, 3, 0, [], j0m), (.goto 27, 3, 0, 232, 0, 0, [], j0m), j0, j0, (.aload_n 3, 1, 3, 0, 0, 0, [], j0m), (.iload 5, 2, 5, 0, 0, 0, [], j0m), 
  j0, (.aload_n 3, 1, 3, 0, 0, 0, [], j0m), (.iload 5, 2, 5, 0, 0, 0, [], j0m), j0, (.baload, 1, 0, 0, 3, 0, [], j0m), (.ifCond .ne 11, 3, 0, 226, 0, 0, [], j0m), j0, j0, (.aload 4, 2, 4, 0, 0, 0, [], j0m), 
  j0, (.iload 5, 2, 5, 0, 0, 0, [], j0m), j0, (.baload, 1, 0, 0, 3, 0, [], j0m), (.ifCond .eq 7, 3, 0, 230, 0, 0, [], j0m), j0, j0, (.iconst 1, 1, 0, 0, 0, 0, [], j0m), (.goto 4, 3, 0, 231, 0, 0, [], j0m), 
  j0, j0, (.iconst 0, 1, 0, 0, 0, 0, [], j0m), (.bastore, 1, 0, 0, 3, 0, [], j0m), (.iinc 5 1, 3, 5, 0, 0, 0, [], j0m), j0, j0, (.goto (-232), 3, 0, 3, 0, 0, [], j0m), j0, j0, (.return_, 1, 0, 0, 0, 0, [], j0m)
  ]
set_option maxRecDepth 20000 in
theorem t_Model_joins : okT m_Model_joins k_Model_joins = true := by decide +kernel
def k_Model_isNear : List jO := [
  (.iconst 0, 1, 0, 0, 0, 0, [], j0m), (.iload 4, 2, 4, 0, 0, 0, [], j0m), j0, (.ifCond .eq 9, 3, 0, 12, 0, 0, [], j0m), j0, j0, (.iload_n 1, 1, 1, 0, 0, 0, [], j0m), (.iconst 1, 1, 0, 0, 0, 0, [], j0m), 
  (.iadd, 1, 0, 0, 0, 0, [], j0m), (.goto 6, 3, 0, 15, 0, 0, [], j0m), j0, j0, (.iload_n 1, 1, 1, 0, 0, 0, [], j0m), (.iload_n 2, 1, 2, 0, 0, 0, [], j0m), (.isub, 1, 0, 0, 0, 0, [], j0m), (.invokestatic 397, 3, 0, 2, 2, 0, [8110, 1049, 1005, 1050], j0m), 
  j0, j0, (.istore 5, 2, 5, 0, 0, 0, [], j0m), j0, (.iload 5, 2, 5, 0, 0, 0, [], j0m), j0, (.iload_n 1, 1, 1, 0, 0, 0, [], j0m), (.iload_n 2, 1, 2, 0, 0, 0, [], j0m), (.iadd, 1, 0, 0, 0, 0, [], j0m), (.if_icmp .gt 38, 3, 0, 63, 0, 0, [], j0m), 
  j0, j0, (.iload 5, 2, 5, 0, 0, 0, [], j0m), j0, (.aload_n 0, 1, 0, 0, 0, 0, [], j0m), (.getfield 25, 3, 12, 4, 0, 4, [6195], j0m), j0, j0, (.aload_n 0, 1, 0, 0, 0, 0, [], j0m), (.getfield 357, 3, 12, 30, 0, 30, [6221], j0m), 
  j0, j0, (.iaload, 1, 0, 0, 0, 0, [], j0m), (.if_icmp .ge 24, 3, 0, 63, 0, 0, [], j0m), j0, j0, (.iload 5, 2, 5, 0, 0, 0, [], j0m), j0, (.iload_n 1, 1, 1, 0, 0, 0, [], j0m), (.if_icmp .eq 12, 3, 0, 57, 0, 0, [], j0m), 
  j0, j0, (.aload_n 3, 1, 3, 0, 0, 0, [], j0m), (.iload 5, 2, 5, 0, 0, 0, [], j0m), j0, (.baload, 1, 0, 0, 3, 0, [], j0m), (.ifCond .eq 5, 3, 0, 57, 0, 0, [], j0m), j0, j0, (.iconst 1, 1, 0, 0, 0, 0, [], j0m), 
  (.ireturn, 1, 0, 0, 1, 0, [], j0m), (.iinc 5 1, 3, 5, 0, 0, 0, [], j0m), j0, j0, (.goto (-40), 3, 0, 20, 0, 0, [], j0m), j0, j0, (.iconst 0, 1, 0, 0, 0, 0, [], j0m), (.ireturn, 1, 0, 0, 1, 0, [], j0m)
  ]
set_option maxRecDepth 20000 in
theorem t_Model_isNear : okT m_Model_isNear k_Model_isNear = true := by decide +kernel
def k_Model_hasInLine : List jO := [
  (.iconst 0, 1, 0, 0, 0, 0, [], j0m), (.istore_n 3, 1, 3, 0, 0, 0, [], j0m), (.iload_n 3, 1, 3, 0, 0, 0, [], j0m), (.aload_n 0, 1, 0, 0, 0, 0, [], j0m), (.getfield 25, 3, 12, 4, 0, 4, [6195], j0m), j0, 
  j0, (.aload_n 0, 1, 0, 0, 0, 0, [], j0m), (.getfield 357, 3, 12, 30, 0, 30, [6221], j0m), j0, j0, (.iaload, 1, 0, 0, 0, 0, [], j0m), (.if_icmp .ge 50, 3, 0, 62, 0, 0, [], j0m), j0, j0, (.aload_n 2, 1, 2, 0, 0, 0, [], j0m), 
  (.iload_n 3, 1, 3, 0, 0, 0, [], j0m), (.baload, 1, 0, 0, 3, 0, [], j0m), (.ifCond .eq 38, 3, 0, 56, 0, 0, [], j0m), j0, j0, (.aload_n 0, 1, 0, 0, 0, 0, [], j0m), (.getfield 31, 3, 12, 6, 0, 6, [6197], j0m), 
  j0, j0, (.sipush 340, 3, 0, 0, 0, 0, [], j0m), j0, j0, (.aload_n 0, 1, 0, 0, 0, 0, [], j0m), (.getfield 357, 3, 12, 30, 0, 30, [6221], j0m), j0, j0, (.imul, 1, 0, 0, 0, 0, [], j0m), (.iload_n 3, 1, 3, 0, 0, 0, [], j0m), 
  (.iadd, 1, 0, 0, 0, 0, [], j0m), (.iaload, 1, 0, 0, 0, 0, [], j0m), (.aload_n 0, 1, 0, 0, 0, 0, [], j0m), (.getfield 31, 3, 12, 6, 0, 6, [6197], j0m), j0, j0, (.sipush 340, 3, 0, 0, 0, 0, [], j0m), j0, 
  j0, (.aload_n 0, 1, 0, 0, 0, 0, [], j0m), (.getfield 357, 3, 12, 30, 0, 30, [6221], j0m), j0, j0, (.imul, 1, 0, 0, 0, 0, [], j0m), (.iload_n 1, 1, 1, 0, 0, 0, [], j0m), (.iadd, 1, 0, 0, 0, 0, [], j0m), 
  (.iaload, 1, 0, 0, 0, 0, [], j0m), (.if_icmp .ne 5, 3, 0, 56, 0, 0, [], j0m), j0, j0, (.iconst 1, 1, 0, 0, 0, 0, [], j0m), (.ireturn, 1, 0, 0, 1, 0, [], j0m), (.iinc 3 1, 3, 3, 0, 0, 0, [], j0m), j0, 
  j0, (.goto (-57), 3, 0, 2, 0, 0, [], j0m), j0, j0, (.iconst 0, 1, 0, 0, 0, 0, [], j0m), (.ireturn, 1, 0, 0, 1, 0, [], j0m)]
set_option maxRecDepth 20000 in
theorem t_Model_hasInLine : okT m_Model_hasInLine k_Model_hasInLine = true := by decide +kernel
def k_Model_answer : List jO := [
  (.iload_n 1, 1, 1, 0, 0, 0, [], j0m), (.i2l, 1, 0, 0, 0, 0, [], j0m), (.lconst 0, 1, 0, 0, 0, 0, [], j0m), (.aload_n 0, 1, 0, 0, 0, 0, [], j0m), (.getfield 408, 3, 12, 33, 0, 33, [6224], j0m), j0, j0, 
  (.iconst 1, 1, 0, 0, 0, 0, [], j0m), (.isub, 1, 0, 0, 0, 0, [], j0m), (.i2l, 1, 0, 0, 0, 0, [], j0m), (.invokestatic 130, 3, 0, 3, 0, 0, [7110, 7111, 1015, 7112], m_Model_in), j0, j0, (.ifCond .eq 28, 3, 0, 41, 0, 0, [], j0m), 
  j0, j0, (.iload_n 2, 1, 2, 0, 0, 0, [], j0m), (.i2l, 1, 0, 0, 0, 0, [], j0m), (.lconst 0, 1, 0, 0, 0, 0, [], j0m), (.ldc2_w 134, 3, 0, 0, 0, 2, [7109], j0m), j0, j0, (.invokestatic 130, 3, 0, 3, 0, 0, [7110, 7111, 1015, 7112], m_Model_in), 
  j0, j0, (.ifCond .eq 16, 3, 0, 41, 0, 0, [], j0m), j0, j0, (.aload_n 0, 1, 0, 0, 0, 0, [], j0m), (.getfield 79, 3, 12, 32, 0, 32, [6223], j0m), j0, j0, (.iconst 3, 1, 0, 0, 0, 0, [], j0m), (.iload_n 1, 1, 1, 0, 0, 0, [], j0m), 
  (.imul, 1, 0, 0, 0, 0, [], j0m), (.iload_n 2, 1, 2, 0, 0, 0, [], j0m), (.iadd, 1, 0, 0, 0, 0, [], j0m), (.iaload, 1, 0, 0, 0, 0, [], j0m), (.goto 6, 3, 0, 44, 0, 0, [], j0m), j0, j0, (.ldc_w 320, 3, 0, 0, 0, (-2000000000), [8006], j0m), 
  j0, j0, (.ireturn, 1, 0, 0, 0, 0, [], j0m)]
set_option maxRecDepth 20000 in
theorem t_Model_answer : okT m_Model_answer k_Model_answer = true := by decide +kernel
def k_Model_stands : List jO := [
  (.iload_n 1, 1, 1, 0, 0, 0, [], j0m), (.invokestatic 308, 3, 0, 1, 0, 0, [7212, 7213, 1015, 7214], m_Model_isEdition), j0, j0, (.ifCond .eq 15, 3, 0, 19, 0, 0, [], j0m), j0, j0, (.aload_n 0, 1, 0, 0, 0, 0, [], j0m), 
  (.iload_n 2, 1, 2, 0, 0, 0, [], j0m), (.invokevirtual 333, 3, 12, 2, 1, 0, [8031, 8033, 88, 1015, 8034], m_Model_isForm), j0, j0, (.ifCond .eq 7, 3, 0, 19, 0, 0, [], j0m), j0, j0, (.iload_n 3, 1, 3, 0, 0, 0, [], j0m), 
  (.ifCond .ge 5, 3, 0, 21, 0, 0, [], j0m), j0, j0, (.iconst (-1), 1, 0, 0, 0, 0, [], j0m), (.ireturn, 1, 0, 0, 0, 0, [], j0m), (.iload_n 3, 1, 3, 0, 0, 0, [], j0m), (.istore 4, 2, 4, 0, 0, 0, [], j0m), 
  j0, (.iconst 0, 1, 0, 0, 0, 0, [], j0m), (.istore 5, 2, 5, 0, 0, 0, [], j0m), j0, (.iload 5, 2, 5, 0, 0, 0, [], j0m), j0, (.aload_n 0, 1, 0, 0, 0, 0, [], j0m), (.getfield 25, 3, 12, 4, 0, 4, [6195], j0m), 
  j0, j0, (.iload_n 1, 1, 1, 0, 0, 0, [], j0m), (.iaload, 1, 0, 0, 0, 0, [], j0m), (.if_icmp .ge 40, 3, 0, 75, 0, 0, [], j0m), j0, j0, (.aload_n 0, 1, 0, 0, 0, 0, [], j0m), (.getfield 28, 3, 12, 5, 0, 5, [6196], j0m), 
  j0, j0, (.sipush 340, 3, 0, 0, 0, 0, [], j0m), j0, j0, (.iload_n 1, 1, 1, 0, 0, 0, [], j0m), (.imul, 1, 0, 0, 0, 0, [], j0m), (.iload 5, 2, 5, 0, 0, 0, [], j0m), j0, (.iadd, 1, 0, 0, 0, 0, [], j0m), 
  (.iaload, 1, 0, 0, 0, 0, [], j0m), (.iload_n 2, 1, 2, 0, 0, 0, [], j0m), (.if_icmp .eq 6, 3, 0, 58, 0, 0, [], j0m), j0, j0, (.goto 14, 3, 0, 69, 0, 0, [], j0m), j0, j0, (.iload 4, 2, 4, 0, 0, 0, [], j0m), 
  j0, (.ifCond .ne 6, 3, 0, 66, 0, 0, [], j0m), j0, j0, (.iload 5, 2, 5, 0, 0, 0, [], j0m), j0, (.ireturn, 1, 0, 0, 0, 0, [], j0m), (.iinc 4 (-1), 3, 4, 0, 0, 0, [], j0m), j0, j0, (.iinc 5 1, 3, 5, 0, 0, 0, [], j0m), 
  j0, j0, (.goto (-45), 3, 0, 27, 0, 0, [], j0m), j0, j0, (.iconst (-1), 1, 0, 0, 0, 0, [], j0m), (.ireturn, 1, 0, 0, 0, 0, [], j0m)]
set_option maxRecDepth 20000 in
theorem t_Model_stands : okT m_Model_stands k_Model_stands = true := by decide +kernel
def k_Model_pack : List jO := [
  (.iload_n 1, 1, 1, 0, 0, 0, [], j0m), (.invokestatic 308, 3, 0, 1, 0, 0, [7212, 7213, 1015, 7214], m_Model_isEdition), j0, j0, (.ifCond .eq 25, 3, 0, 29, 0, 0, [], j0m), j0, j0, (.aload_n 0, 1, 0, 0, 0, 0, [], j0m), 
  (.iload_n 2, 1, 2, 0, 0, 0, [], j0m), (.invokevirtual 333, 3, 12, 2, 1, 0, [8031, 8033, 88, 1015, 8034], m_Model_isForm), j0, j0, (.ifCond .eq 17, 3, 0, 29, 0, 0, [], j0m), j0, j0, (.iload_n 3, 1, 3, 0, 0, 0, [], j0m), 
  (.i2l, 1, 0, 0, 0, 0, [], j0m), (.ldc2_w 414, 3, 0, 0, 0, (-1), [8127], j0m), j0, j0, (.ldc2_w 416, 3, 0, 0, 0, 10, [8128], j0m), j0, j0, (.invokestatic 130, 3, 0, 3, 0, 0, [7110, 7111, 1015, 7112], m_Model_in), 
  j0, j0, (.ifCond .ne 6, 3, 0, 32, 0, 0, [], j0m), j0, j0, (.bipush (-2), 2, 0, 0, 0, 0, [], j0m), j0, (.ireturn, 1, 0, 0, 0, 0, [], j0m), (.iload_n 3, 1, 3, 0, 0, 0, [], j0m), (.iconst (-1), 1, 0, 0, 0, 0, [], j0m), 
  (.if_icmp .ne 12, 3, 0, 46, 0, 0, [], j0m), j0, j0, (.aload_n 0, 1, 0, 0, 0, 0, [], j0m), (.iload_n 1, 1, 1, 0, 0, 0, [], j0m), (.iload_n 2, 1, 2, 0, 0, 0, [], j0m), (.invokevirtual 418, 3, 12, 3, 1, 0, [8129, 8131, 105, 1015, 8132], m_Model_bestPacked), 
  j0, j0, (.goto 10, 3, 0, 53, 0, 0, [], j0m), j0, j0, (.aload_n 0, 1, 0, 0, 0, 0, [], j0m), (.iload_n 1, 1, 1, 0, 0, 0, [], j0m), (.iload_n 2, 1, 2, 0, 0, 0, [], j0m), (.iload_n 3, 1, 3, 0, 0, 0, [], j0m), 
  (.invokevirtual 411, 3, 12, 4, 1, 0, [8133, 8135, 106, 1015, 8136], m_Model_packed), j0, j0, (.ireturn, 1, 0, 0, 0, 0, [], j0m)]
set_option maxRecDepth 20000 in
theorem t_Model_pack : okT m_Model_pack k_Model_pack = true := by decide +kernel
def k_Model_bestPacked : List jO := [
  (.aload_n 0, 1, 0, 0, 0, 0, [], j0m), (.iload_n 1, 1, 1, 0, 0, 0, [], j0m), (.iload_n 2, 1, 2, 0, 0, 0, [], j0m), (.iconst 0, 1, 0, 0, 0, 0, [], j0m), (.invokevirtual 411, 3, 12, 4, 1, 0, [8133, 8135, 106, 1015, 8136], m_Model_packed), 
  j0, j0, (.istore_n 3, 1, 3, 0, 0, 0, [], j0m), (.iconst 1, 1, 0, 0, 0, 0, [], j0m), (.istore 4, 2, 4, 0, 0, 0, [], j0m), j0, (.iload 4, 2, 4, 0, 0, 0, [], j0m), j0, (.bipush 10, 2, 0, 0, 0, 0, [], j0m), 
  j0, (.if_icmp .gt 22, 3, 0, 37, 0, 0, [], j0m), j0, j0, (.iload_n 3, 1, 3, 0, 0, 0, [], j0m), (.aload_n 0, 1, 0, 0, 0, 0, [], j0m), (.iload_n 1, 1, 1, 0, 0, 0, [], j0m), (.iload_n 2, 1, 2, 0, 0, 0, [], j0m), 
  (.iload 4, 2, 4, 0, 0, 0, [], j0m), j0, (.invokevirtual 411, 3, 12, 4, 1, 0, [8133, 8135, 106, 1015, 8136], m_Model_packed), j0, j0, (.invokestatic 219, 3, 0, 2, 1, 0, [7147, 3076, 1005, 3077], j0m), 
  j0, j0, (.istore_n 3, 1, 3, 0, 0, 0, [], j0m), (.iinc 4 1, 3, 4, 0, 0, 0, [], j0m), j0, j0, (.goto (-23), 3, 0, 11, 0, 0, [], j0m), j0, j0, (.iload_n 3, 1, 3, 0, 0, 0, [], j0m), (.ireturn, 1, 0, 0, 0, 0, [], j0m)
  ]
set_option maxRecDepth 20000 in
theorem t_Model_bestPacked : okT m_Model_bestPacked k_Model_bestPacked = true := by decide +kernel
def k_Model_packed : List jO := [
  (.iconst 0, 1, 0, 0, 0, 0, [], j0m), (.istore 4, 2, 4, 0, 0, 0, [], j0m), j0, (.iconst (-1), 1, 0, 0, 0, 0, [], j0m), (.istore 5, 2, 5, 0, 0, 0, [], j0m), j0, (.iconst 0, 1, 0, 0, 0, 0, [], j0m), (.istore 6, 2, 6, 0, 0, 0, [], j0m), 
  j0, (.iload 6, 2, 6, 0, 0, 0, [], j0m), j0, (.aload_n 0, 1, 0, 0, 0, 0, [], j0m), (.getfield 25, 3, 12, 4, 0, 4, [6195], j0m), j0, j0, (.iload_n 1, 1, 1, 0, 0, 0, [], j0m), (.iaload, 1, 0, 0, 0, 0, [], j0m), 
  (.if_icmp .ge 51, 3, 0, 68, 0, 0, [], j0m), j0, j0, (.aload_n 0, 1, 0, 0, 0, 0, [], j0m), (.getfield 28, 3, 12, 5, 0, 5, [6196], j0m), j0, j0, (.sipush 340, 3, 0, 0, 0, 0, [], j0m), j0, j0, (.iload_n 1, 1, 1, 0, 0, 0, [], j0m), 
  (.imul, 1, 0, 0, 0, 0, [], j0m), (.iload 6, 2, 6, 0, 0, 0, [], j0m), j0, (.iadd, 1, 0, 0, 0, 0, [], j0m), (.iaload, 1, 0, 0, 0, 0, [], j0m), (.iload_n 2, 1, 2, 0, 0, 0, [], j0m), (.if_icmp .eq 6, 3, 0, 40, 0, 0, [], j0m), 
  j0, j0, (.goto 25, 3, 0, 62, 0, 0, [], j0m), j0, j0, (.iload 4, 2, 4, 0, 0, 0, [], j0m), j0, (.iload 6, 2, 6, 0, 0, 0, [], j0m), j0, (.iload 5, 2, 5, 0, 0, 0, [], j0m), j0, (.isub, 1, 0, 0, 0, 0, [], j0m), 
  (.iconst 1, 1, 0, 0, 0, 0, [], j0m), (.isub, 1, 0, 0, 0, 0, [], j0m), (.iload_n 3, 1, 3, 0, 0, 0, [], j0m), (.ishr, 1, 0, 0, 0, 0, [], j0m), (.iconst 1, 1, 0, 0, 0, 0, [], j0m), (.iadd, 1, 0, 0, 0, 0, [], j0m), 
  (.iload_n 3, 1, 3, 0, 0, 0, [], j0m), (.iadd, 1, 0, 0, 0, 0, [], j0m), (.iadd, 1, 0, 0, 0, 0, [], j0m), (.istore 4, 2, 4, 0, 0, 0, [], j0m), j0, (.iload 6, 2, 6, 0, 0, 0, [], j0m), j0, (.istore 5, 2, 5, 0, 0, 0, [], j0m), 
  j0, (.iinc 6 1, 3, 6, 0, 0, 0, [], j0m), j0, j0, (.goto (-56), 3, 0, 9, 0, 0, [], j0m), j0, j0, (.iload 4, 2, 4, 0, 0, 0, [], j0m), j0, (.ireturn, 1, 0, 0, 0, 0, [], j0m)]
set_option maxRecDepth 20000 in
theorem t_Model_packed : okT m_Model_packed k_Model_packed = true := by decide +kernel
def k_Model_room : List jO := [
  (.iload_n 1, 1, 1, 0, 0, 0, [], j0m), (.invokestatic 308, 3, 0, 1, 0, 0, [7212, 7213, 1015, 7214], m_Model_isEdition), j0, j0, (.ifCond .ne 6, 3, 0, 10, 0, 0, [], j0m), j0, j0, (.bipush (-2), 2, 0, 0, 0, 0, [], j0m), 
  j0, (.ireturn, 1, 0, 0, 0, 0, [], j0m), (.iconst 0, 1, 0, 0, 0, 0, [], j0m), (.istore_n 2, 1, 2, 0, 0, 0, [], j0m), (.iconst 0, 1, 0, 0, 0, 0, [], j0m), (.istore_n 3, 1, 3, 0, 0, 0, [], j0m), (.iload_n 3, 1, 3, 0, 0, 0, [], j0m), 
  (.aload_n 0, 1, 0, 0, 0, 0, [], j0m), (.getfield 169, 3, 12, 10, 0, 10, [6201], j0m), j0, j0, (.if_icmp .ge 18, 3, 0, 37, 0, 0, [], j0m), j0, j0, (.iload_n 2, 1, 2, 0, 0, 0, [], j0m), (.aload_n 0, 1, 0, 0, 0, 0, [], j0m), 
  (.iload_n 1, 1, 1, 0, 0, 0, [], j0m), (.iload_n 3, 1, 3, 0, 0, 0, [], j0m), (.invokevirtual 418, 3, 12, 3, 1, 0, [8129, 8131, 105, 1015, 8132], m_Model_bestPacked), j0, j0, (.iadd, 1, 0, 0, 0, 0, [], j0m), 
  (.istore_n 2, 1, 2, 0, 0, 0, [], j0m), (.iinc 3 1, 3, 3, 0, 0, 0, [], j0m), j0, j0, (.goto (-20), 3, 0, 14, 0, 0, [], j0m), j0, j0, (.iload_n 2, 1, 2, 0, 0, 0, [], j0m), (.ireturn, 1, 0, 0, 0, 0, [], j0m)
  ]
set_option maxRecDepth 20000 in
theorem t_Model_room : okT m_Model_room k_Model_room = true := by decide +kernel
def k_Model_shares : List jO := [
  (.iload_n 1, 1, 1, 0, 0, 0, [], j0m), (.invokestatic 308, 3, 0, 1, 0, 0, [7212, 7213, 1015, 7214], m_Model_isEdition), j0, j0, (.ifCond .eq 15, 3, 0, 19, 0, 0, [], j0m), j0, j0, (.iload_n 2, 1, 2, 0, 0, 0, [], j0m), 
  (.i2l, 1, 0, 0, 0, 0, [], j0m), (.lconst 1, 1, 0, 0, 0, 1, [], j0m), (.ldc2_w 421, 3, 0, 0, 0, 8, [8145], j0m), j0, j0, (.invokestatic 130, 3, 0, 3, 0, 0, [7110, 7111, 1015, 7112], m_Model_in), j0, j0, 
  (.ifCond .ne 6, 3, 0, 22, 0, 0, [], j0m), j0, j0, (.bipush (-2), 2, 0, 0, 0, 0, [], j0m), j0, (.ireturn, 1, 0, 0, 0, 0, [], j0m), (.iconst 0, 1, 0, 0, 0, 0, [], j0m), (.istore_n 3, 1, 3, 0, 0, 0, [], j0m), 
  (.iload_n 3, 1, 3, 0, 0, 0, [], j0m), (.bipush 40, 2, 0, 0, 0, 0, [], j0m), j0, (.if_icmp .ge 16, 3, 0, 43, 0, 0, [], j0m), j0, j0, (.aload_n 0, 1, 0, 0, 0, 0, [], j0m), (.getfield 82, 3, 12, 34, 0, 34, [6225], j0m), 
  j0, j0, (.iload_n 3, 1, 3, 0, 0, 0, [], j0m), (.iconst 0, 1, 0, 0, 0, 0, [], j0m), (.iastore, 1, 0, 0, 0, 0, [], j0m), (.iinc 3 1, 3, 3, 0, 0, 0, [], j0m), j0, j0, (.goto (-16), 3, 0, 24, 0, 0, [], j0m), 
  j0, j0, (.iconst 0, 1, 0, 0, 0, 0, [], j0m), (.istore_n 3, 1, 3, 0, 0, 0, [], j0m), (.iload_n 3, 1, 3, 0, 0, 0, [], j0m), (.aload_n 0, 1, 0, 0, 0, 0, [], j0m), (.getfield 25, 3, 12, 4, 0, 4, [6195], j0m), 
  j0, j0, (.iload_n 1, 1, 1, 0, 0, 0, [], j0m), (.iaload, 1, 0, 0, 0, 0, [], j0m), (.if_icmp .ge 30, 3, 0, 82, 0, 0, [], j0m), j0, j0, (.aload_n 0, 1, 0, 0, 0, 0, [], j0m), (.getfield 82, 3, 12, 34, 0, 34, [6225], j0m), 
  j0, j0, (.aload_n 0, 1, 0, 0, 0, 0, [], j0m), (.getfield 31, 3, 12, 6, 0, 6, [6197], j0m), j0, j0, (.sipush 340, 3, 0, 0, 0, 0, [], j0m), j0, j0, (.iload_n 1, 1, 1, 0, 0, 0, [], j0m), (.imul, 1, 0, 0, 0, 0, [], j0m), 
  (.iload_n 3, 1, 3, 0, 0, 0, [], j0m), (.iadd, 1, 0, 0, 0, 0, [], j0m), (.iaload, 1, 0, 0, 0, 0, [], j0m), (.dup2, 1, 0, 0, 0, 0, [], j0m), (.iaload, 1, 0, 0, 0, 0, [], j0m), (.iconst 1, 1, 0, 0, 0, 0, [], j0m), 
  (.iadd, 1, 0, 0, 0, 0, [], j0m), (.iastore, 1, 0, 0, 0, 0, [], j0m), (.iinc 3 1, 3, 3, 0, 0, 0, [], j0m), j0, j0, (.goto (-34), 3, 0, 45, 0, 0, [], j0m), j0, j0, (.iconst 0, 1, 0, 0, 0, 0, [], j0m), 
  (.istore_n 3, 1, 3, 0, 0, 0, [], j0m), (.iconst 0, 1, 0, 0, 0, 0, [], j0m), (.istore 4, 2, 4, 0, 0, 0, [], j0m), j0, (.iload 4, 2, 4, 0, 0, 0, [], j0m), j0, (.aload_n 0, 1, 0, 0, 0, 0, [], j0m), (.iload_n 1, 1, 1, 0, 0, 0, [], j0m), 
  (.invokevirtual 148, 3, 12, 2, 1, 0, [6144, 6146, 57, 1015, 6147], m_Model_linesOf), j0, j0, (.if_icmp .ge 21, 3, 0, 115, 0, 0, [], j0m), j0, j0, (.iload_n 3, 1, 3, 0, 0, 0, [], j0m), (.aload_n 0, 1, 0, 0, 0, 0, [], j0m), 
  (.getfield 82, 3, 12, 34, 0, 34, [6225], j0m), j0, j0, (.iload 4, 2, 4, 0, 0, 0, [], j0m), j0, (.iaload, 1, 0, 0, 0, 0, [], j0m), (.invokestatic 397, 3, 0, 2, 2, 0, [8110, 1049, 1005, 1050], j0m), j0, 
  j0, (.istore_n 3, 1, 3, 0, 0, 0, [], j0m), (.iinc 4 1, 3, 4, 0, 0, 0, [], j0m), j0, j0, (.goto (-25), 3, 0, 87, 0, 0, [], j0m), j0, j0, (.aload_n 0, 1, 0, 0, 0, 0, [], j0m), (.iload_n 1, 1, 1, 0, 0, 0, [], j0m), 
  (.iconst 0, 1, 0, 0, 0, 0, [], j0m), (.iload_n 3, 1, 3, 0, 0, 0, [], j0m), (.invokevirtual 423, 3, 12, 4, 1, 0, [8146, 8148, 107, 1015, 8149], m_Model_handsFor), j0, j0, (.iload_n 2, 1, 2, 0, 0, 0, [], j0m), 
  (.if_icmp .le 9, 3, 0, 132, 0, 0, [], j0m), j0, j0, (.iinc 3 1, 3, 3, 0, 0, 0, [], j0m), j0, j0, (.goto (-14), 3, 0, 115, 0, 0, [], j0m), j0, j0, (.iconst 0, 1, 0, 0, 0, 0, [], j0m), (.istore 4, 2, 4, 0, 0, 0, [], j0m), 
  j0, (.iconst 0, 1, 0, 0, 0, 0, [], j0m), (.istore 5, 2, 5, 0, 0, 0, [], j0m), j0, (.iload 5, 2, 5, 0, 0, 0, [], j0m), j0, (.iload_n 2, 1, 2, 0, 0, 0, [], j0m), (.if_icmp .ge 41, 3, 0, 182, 0, 0, [], j0m), 
  j0, j0, (.aload_n 0, 1, 0, 0, 0, 0, [], j0m), (.getfield 85, 3, 12, 35, 0, 35, [6226], j0m), j0, j0, (.iload 5, 2, 5, 0, 0, 0, [], j0m), j0, (.iload 4, 2, 4, 0, 0, 0, [], j0m), j0, (.iastore, 1, 0, 0, 0, 0, [], j0m), 
  (.aload_n 0, 1, 0, 0, 0, 0, [], j0m), (.iload_n 1, 1, 1, 0, 0, 0, [], j0m), (.iload 4, 2, 4, 0, 0, 0, [], j0m), j0, (.iload_n 3, 1, 3, 0, 0, 0, [], j0m), (.invokevirtual 423, 3, 12, 4, 1, 0, [8146, 8148, 107, 1015, 8149], m_Model_handsFor), 
  j0, j0, (.iload_n 2, 1, 2, 0, 0, 0, [], j0m), (.iconst 1, 1, 0, 0, 0, 0, [], j0m), (.isub, 1, 0, 0, 0, 0, [], j0m), (.iload 5, 2, 5, 0, 0, 0, [], j0m), j0, (.isub, 1, 0, 0, 0, 0, [], j0m), (.if_icmp .le 9, 3, 0, 176, 0, 0, [], j0m), 
  j0, j0, (.iinc 4 1, 3, 4, 0, 0, 0, [], j0m), j0, j0, (.goto (-20), 3, 0, 153, 0, 0, [], j0m), j0, j0, (.iinc 5 1, 3, 5, 0, 0, 0, [], j0m), j0, j0, (.goto (-41), 3, 0, 138, 0, 0, [], j0m), j0, j0, (.aload_n 0, 1, 0, 0, 0, 0, [], j0m), 
  (.iload_n 2, 1, 2, 0, 0, 0, [], j0m), (.putfield 426, 3, 12, 36, 0, 36, [6227], j0m), j0, j0, (.iload_n 3, 1, 3, 0, 0, 0, [], j0m), (.ireturn, 1, 0, 0, 0, 0, [], j0m)]
set_option maxRecDepth 20000 in
theorem t_Model_shares : okT m_Model_shares k_Model_shares = true := by decide +kernel
def k_Model_handsFor : List jO := [
  (.iconst 0, 1, 0, 0, 0, 0, [], j0m), (.istore 4, 2, 4, 0, 0, 0, [], j0m), j0, (.iload_n 2, 1, 2, 0, 0, 0, [], j0m), (.istore 5, 2, 5, 0, 0, 0, [], j0m), j0, (.iload 5, 2, 5, 0, 0, 0, [], j0m), j0, (.aload_n 0, 1, 0, 0, 0, 0, [], j0m), 
  (.iload_n 1, 1, 1, 0, 0, 0, [], j0m), (.invokevirtual 148, 3, 12, 2, 1, 0, [6144, 6146, 57, 1015, 6147], m_Model_linesOf), j0, j0, (.if_icmp .ge 52, 3, 0, 65, 0, 0, [], j0m), j0, j0, (.iload_n 3, 1, 3, 0, 0, 0, [], j0m), 
  (.istore 6, 2, 6, 0, 0, 0, [], j0m), j0, (.iload 5, 2, 5, 0, 0, 0, [], j0m), j0, (.aload_n 0, 1, 0, 0, 0, 0, [], j0m), (.iload_n 1, 1, 1, 0, 0, 0, [], j0m), (.invokevirtual 148, 3, 12, 2, 1, 0, [6144, 6146, 57, 1015, 6147], m_Model_linesOf), 
  j0, j0, (.if_icmp .ge 33, 3, 0, 59, 0, 0, [], j0m), j0, j0, (.aload_n 0, 1, 0, 0, 0, 0, [], j0m), (.getfield 82, 3, 12, 34, 0, 34, [6225], j0m), j0, j0, (.iload 5, 2, 5, 0, 0, 0, [], j0m), j0, (.iaload, 1, 0, 0, 0, 0, [], j0m), 
  (.iload 6, 2, 6, 0, 0, 0, [], j0m), j0, (.if_icmp .gt 21, 3, 0, 59, 0, 0, [], j0m), j0, j0, (.iload 6, 2, 6, 0, 0, 0, [], j0m), j0, (.aload_n 0, 1, 0, 0, 0, 0, [], j0m), (.getfield 82, 3, 12, 34, 0, 34, [6225], j0m), 
  j0, j0, (.iload 5, 2, 5, 0, 0, 0, [], j0m), j0, (.iaload, 1, 0, 0, 0, 0, [], j0m), (.isub, 1, 0, 0, 0, 0, [], j0m), (.istore 6, 2, 6, 0, 0, 0, [], j0m), j0, (.iinc 5 1, 3, 5, 0, 0, 0, [], j0m), j0, j0, 
  (.goto (-37), 3, 0, 19, 0, 0, [], j0m), j0, j0, (.iinc 4 1, 3, 4, 0, 0, 0, [], j0m), j0, j0, (.goto (-56), 3, 0, 6, 0, 0, [], j0m), j0, j0, (.iload 4, 2, 4, 0, 0, 0, [], j0m), j0, (.ireturn, 1, 0, 0, 0, 0, [], j0m)
  ]
set_option maxRecDepth 20000 in
theorem t_Model_handsFor : okT m_Model_handsFor k_Model_handsFor = true := by decide +kernel
def k_Model_share : List jO := [
  (.iload_n 1, 1, 1, 0, 0, 0, [], j0m), (.i2l, 1, 0, 0, 0, 0, [], j0m), (.lconst 0, 1, 0, 0, 0, 0, [], j0m), (.aload_n 0, 1, 0, 0, 0, 0, [], j0m), (.getfield 426, 3, 12, 36, 0, 36, [6227], j0m), j0, j0, 
  (.iconst 1, 1, 0, 0, 0, 0, [], j0m), (.isub, 1, 0, 0, 0, 0, [], j0m), (.i2l, 1, 0, 0, 0, 0, [], j0m), (.invokestatic 130, 3, 0, 3, 0, 0, [7110, 7111, 1015, 7112], m_Model_in), j0, j0, (.ifCond .eq 12, 3, 0, 25, 0, 0, [], j0m), 
  j0, j0, (.aload_n 0, 1, 0, 0, 0, 0, [], j0m), (.getfield 85, 3, 12, 35, 0, 35, [6226], j0m), j0, j0, (.iload_n 1, 1, 1, 0, 0, 0, [], j0m), (.iaload, 1, 0, 0, 0, 0, [], j0m), (.goto 4, 3, 0, 26, 0, 0, [], j0m), 
  j0, j0, (.iconst (-1), 1, 0, 0, 0, 0, [], j0m), (.ireturn, 1, 0, 0, 0, 0, [], j0m)]
set_option maxRecDepth 20000 in
theorem t_Model_share : okT m_Model_share k_Model_share = true := by decide +kernel
def k_Model_alike : List jO := [
  (.aload_n 0, 1, 0, 0, 0, 0, [], j0m), (.invokevirtual 429, 3, 12, 1, 1, 0, [8158, 8160, 108, 1015, 8161], m_Model_likes), j0, j0, (.aload_n 0, 1, 0, 0, 0, 0, [], j0m), (.getfield 89, 3, 12, 37, 0, 37, [6228], j0m), 
  j0, j0, (.iconst 0, 1, 0, 0, 0, 0, [], j0m), (.iaload, 1, 0, 0, 0, 0, [], j0m), (.ireturn, 1, 0, 0, 0, 0, [], j0m)]
set_option maxRecDepth 20000 in
theorem t_Model_alike : okT m_Model_alike k_Model_alike = true := by decide +kernel
def k_Model_likes : List jO := [
  (.aload_n 0, 1, 0, 0, 0, 0, [], j0m), (.getfield 25, 3, 12, 4, 0, 4, [6195], j0m), j0, j0, (.iconst 0, 1, 0, 0, 0, 0, [], j0m), (.iaload, 1, 0, 0, 0, 0, [], j0m), (.istore_n 1, 1, 1, 0, 0, 0, [], j0m), 
  (.iload_n 1, 1, 1, 0, 0, 0, [], j0m), (.ifCond .lt 133, 3, 0, 141, 0, 0, [], j0m), j0, j0, (.aload_n 0, 1, 0, 0, 0, 0, [], j0m), (.getfield 25, 3, 12, 4, 0, 4, [6195], j0m), j0, j0, (.iconst 1, 1, 0, 0, 0, 0, [], j0m), 
  (.iaload, 1, 0, 0, 0, 0, [], j0m), (.istore_n 2, 1, 2, 0, 0, 0, [], j0m), (.iload_n 2, 1, 2, 0, 0, 0, [], j0m), (.ifCond .lt 116, 3, 0, 135, 0, 0, [], j0m), j0, j0, (.iconst 0, 1, 0, 0, 0, 0, [], j0m), 
  (.istore_n 3, 1, 3, 0, 0, 0, [], j0m), (.iload_n 1, 1, 1, 0, 0, 0, [], j0m), (.aload_n 0, 1, 0, 0, 0, 0, [], j0m), (.getfield 25, 3, 12, 4, 0, 4, [6195], j0m), j0, j0, (.iconst 0, 1, 0, 0, 0, 0, [], j0m), 
  (.iaload, 1, 0, 0, 0, 0, [], j0m), (.if_icmp .ge 85, 3, 0, 116, 0, 0, [], j0m), j0, j0, (.iload_n 2, 1, 2, 0, 0, 0, [], j0m), (.aload_n 0, 1, 0, 0, 0, 0, [], j0m), (.getfield 25, 3, 12, 4, 0, 4, [6195], j0m), 
  j0, j0, (.iconst 1, 1, 0, 0, 0, 0, [], j0m), (.iaload, 1, 0, 0, 0, 0, [], j0m), (.if_icmp .ge 75, 3, 0, 116, 0, 0, [], j0m), j0, j0, (.aload_n 0, 1, 0, 0, 0, 0, [], j0m), (.getfield 28, 3, 12, 5, 0, 5, [6196], j0m), 
  j0, j0, (.iload_n 1, 1, 1, 0, 0, 0, [], j0m), (.iaload, 1, 0, 0, 0, 0, [], j0m), (.aload_n 0, 1, 0, 0, 0, 0, [], j0m), (.getfield 28, 3, 12, 5, 0, 5, [6196], j0m), j0, j0, (.sipush 340, 3, 0, 0, 0, 0, [], j0m), 
  j0, j0, (.iload_n 2, 1, 2, 0, 0, 0, [], j0m), (.iadd, 1, 0, 0, 0, 0, [], j0m), (.iaload, 1, 0, 0, 0, 0, [], j0m), (.if_icmp .ne 24, 3, 0, 84, 0, 0, [], j0m), j0, j0, (.iconst 1, 1, 0, 0, 0, 0, [], j0m), 
  (.aload_n 0, 1, 0, 0, 0, 0, [], j0m), (.getfield 89, 3, 12, 37, 0, 37, [6228], j0m), j0, j0, (.sipush 301, 3, 0, 0, 0, 0, [], j0m), j0, j0, (.iload_n 1, 1, 1, 0, 0, 0, [], j0m), (.iconst 1, 1, 0, 0, 0, 0, [], j0m), 
  (.iadd, 1, 0, 0, 0, 0, [], j0m), (.imul, 1, 0, 0, 0, 0, [], j0m), (.iload_n 2, 1, 2, 0, 0, 0, [], j0m), (.iadd, 1, 0, 0, 0, 0, [], j0m), (.iconst 1, 1, 0, 0, 0, 0, [], j0m), (.iadd, 1, 0, 0, 0, 0, [], j0m), 
  (.iaload, 1, 0, 0, 0, 0, [], j0m), (.iadd, 1, 0, 0, 0, 0, [], j0m), (.goto 34, 3, 0, 115, 0, 0, [], j0m), j0, j0, (.aload_n 0, 1, 0, 0, 0, 0, [], j0m), (.getfield 89, 3, 12, 37, 0, 37, [6228], j0m), 
  j0, j0, (.sipush 301, 3, 0, 0, 0, 0, [], j0m), j0, j0, (.iload_n 1, 1, 1, 0, 0, 0, [], j0m), (.iconst 1, 1, 0, 0, 0, 0, [], j0m), (.iadd, 1, 0, 0, 0, 0, [], j0m), (.imul, 1, 0, 0, 0, 0, [], j0m), (.iload_n 2, 1, 2, 0, 0, 0, [], j0m), 
  (.iadd, 1, 0, 0, 0, 0, [], j0m), (.iaload, 1, 0, 0, 0, 0, [], j0m), (.aload_n 0, 1, 0, 0, 0, 0, [], j0m), (.getfield 89, 3, 12, 37, 0, 37, [6228], j0m), j0, j0, (.sipush 301, 3, 0, 0, 0, 0, [], j0m), 
  j0, j0, (.iload_n 1, 1, 1, 0, 0, 0, [], j0m), (.imul, 1, 0, 0, 0, 0, [], j0m), (.iload_n 2, 1, 2, 0, 0, 0, [], j0m), (.iadd, 1, 0, 0, 0, 0, [], j0m), (.iconst 1, 1, 0, 0, 0, 0, [], j0m), (.iadd, 1, 0, 0, 0, 0, [], j0m), 
  (.iaload, 1, 0, 0, 0, 0, [], j0m), (.invokestatic 397, 3, 0, 2, 2, 0, [8110, 1049, 1005, 1050], j0m), j0, j0, (.istore_n 3, 1, 3, 0, 0, 0, [], j0m), (.aload_n 0, 1, 0, 0, 0, 0, [], j0m), (.getfield 89, 3, 12, 37, 0, 37, [6228], j0m), 
  j0, j0, (.sipush 301, 3, 0, 0, 0, 0, [], j0m), j0, j0, (.iload_n 1, 1, 1, 0, 0, 0, [], j0m), (.imul, 1, 0, 0, 0, 0, [], j0m), (.iload_n 2, 1, 2, 0, 0, 0, [], j0m), (.iadd, 1, 0, 0, 0, 0, [], j0m), (.iload_n 3, 1, 3, 0, 0, 0, [], j0m), 
  (.iastore, 1, 0, 0, 0, 0, [], j0m), (.iinc 2 (-1), 3, 2, 0, 0, 0, [], j0m), j0, j0, (.goto (-114), 3, 0, 18, 0, 0, [], j0m), j0, j0, (.iinc 1 (-1), 3, 1, 0, 0, 0, [], j0m), j0, j0, (.goto (-131), 3, 0, 7, 0, 0, [], j0m), 
  j0, j0, (.return_, 1, 0, 0, 0, 0, [], j0m)]
set_option maxRecDepth 20000 in
theorem t_Model_likes : okT m_Model_likes k_Model_likes = true := by decide +kernel
def k_Model_matched : List jO := [
  (.aload_n 0, 1, 0, 0, 0, 0, [], j0m), (.iconst 0, 1, 0, 0, 0, 0, [], j0m), (.iload_n 1, 1, 1, 0, 0, 0, [], j0m), (.invokevirtual 324, 3, 12, 3, 1, 0, [8015, 8017, 86, 1015, 8018], m_Model_isWord), j0, 
  j0, (.ifCond .ne 5, 3, 0, 11, 0, 0, [], j0m), j0, j0, (.iconst (-1), 1, 0, 0, 0, 0, [], j0m), (.ireturn, 1, 0, 0, 0, 0, [], j0m), (.aload_n 0, 1, 0, 0, 0, 0, [], j0m), (.invokevirtual 429, 3, 12, 1, 1, 0, [8158, 8160, 108, 1015, 8161], m_Model_likes), 
  j0, j0, (.iconst 0, 1, 0, 0, 0, 0, [], j0m), (.istore_n 2, 1, 2, 0, 0, 0, [], j0m), (.iconst 0, 1, 0, 0, 0, 0, [], j0m), (.istore_n 3, 1, 3, 0, 0, 0, [], j0m), (.iload_n 2, 1, 2, 0, 0, 0, [], j0m), (.iload_n 1, 1, 1, 0, 0, 0, [], j0m), 
  (.if_icmp .gt 106, 3, 0, 127, 0, 0, [], j0m), j0, j0, (.iload_n 3, 1, 3, 0, 0, 0, [], j0m), (.aload_n 0, 1, 0, 0, 0, 0, [], j0m), (.getfield 25, 3, 12, 4, 0, 4, [6195], j0m), j0, j0, (.iconst 1, 1, 0, 0, 0, 0, [], j0m), 
  (.iaload, 1, 0, 0, 0, 0, [], j0m), (.if_icmp .ge 96, 3, 0, 127, 0, 0, [], j0m), j0, j0, (.aload_n 0, 1, 0, 0, 0, 0, [], j0m), (.getfield 28, 3, 12, 5, 0, 5, [6196], j0m), j0, j0, (.iload_n 2, 1, 2, 0, 0, 0, [], j0m), 
  (.iaload, 1, 0, 0, 0, 0, [], j0m), (.aload_n 0, 1, 0, 0, 0, 0, [], j0m), (.getfield 28, 3, 12, 5, 0, 5, [6196], j0m), j0, j0, (.sipush 340, 3, 0, 0, 0, 0, [], j0m), j0, j0, (.iload_n 3, 1, 3, 0, 0, 0, [], j0m), 
  (.iadd, 1, 0, 0, 0, 0, [], j0m), (.iaload, 1, 0, 0, 0, 0, [], j0m), (.if_icmp .ne 7, 3, 0, 57, 0, 0, [], j0m), j0, j0, (.iconst 1, 1, 0, 0, 0, 0, [], j0m), (.goto 4, 3, 0, 58, 0, 0, [], j0m), j0, j0, 
  (.iconst 0, 1, 0, 0, 0, 0, [], j0m), (.istore 4, 2, 4, 0, 0, 0, [], j0m), j0, (.iload 4, 2, 4, 0, 0, 0, [], j0m), j0, (.ifCond .eq 10, 3, 0, 72, 0, 0, [], j0m), j0, j0, (.iload_n 2, 1, 2, 0, 0, 0, [], j0m), 
  (.iload_n 1, 1, 1, 0, 0, 0, [], j0m), (.if_icmp .ne 5, 3, 0, 72, 0, 0, [], j0m), j0, j0, (.iload_n 3, 1, 3, 0, 0, 0, [], j0m), (.ireturn, 1, 0, 0, 0, 0, [], j0m), (.iload 4, 2, 4, 0, 0, 0, [], j0m), 
  j0, (.ifCond .eq 12, 3, 0, 86, 0, 0, [], j0m), j0, j0, (.iinc 2 1, 3, 2, 0, 0, 0, [], j0m), j0, j0, (.iinc 3 1, 3, 3, 0, 0, 0, [], j0m), j0, j0, (.goto 41, 3, 0, 124, 0, 0, [], j0m), j0, j0, (.aload_n 0, 1, 0, 0, 0, 0, [], j0m), 
  (.getfield 89, 3, 12, 37, 0, 37, [6228], j0m), j0, j0, (.sipush 301, 3, 0, 0, 0, 0, [], j0m), j0, j0, (.iload_n 2, 1, 2, 0, 0, 0, [], j0m), (.iconst 1, 1, 0, 0, 0, 0, [], j0m), (.iadd, 1, 0, 0, 0, 0, [], j0m), 
  (.imul, 1, 0, 0, 0, 0, [], j0m), (.iload_n 3, 1, 3, 0, 0, 0, [], j0m), (.iadd, 1, 0, 0, 0, 0, [], j0m), (.iaload, 1, 0, 0, 0, 0, [], j0m), (.aload_n 0, 1, 0, 0, 0, 0, [], j0m), (.getfield 89, 3, 12, 37, 0, 37, [6228], j0m), 
  j0, j0, (.sipush 301, 3, 0, 0, 0, 0, [], j0m), j0, j0, (.iload_n 2, 1, 2, 0, 0, 0, [], j0m), (.imul, 1, 0, 0, 0, 0, [], j0m), (.iload_n 3, 1, 3, 0, 0, 0, [], j0m), (.iadd, 1, 0, 0, 0, 0, [], j0m), (.iaload, 1, 0, 0, 0, 0, [], j0m), 
  (.if_icmp .ne 9, 3, 0, 121, 0, 0, [], j0m), j0, j0, (.iinc 2 1, 3, 2, 0, 0, 0, [], j0m), j0, j0, (.goto 6, 3, 0, 124, 0, 0, [], j0m), j0, j0, (.iinc 3 1, 3, 3, 0, 0, 0, [], j0m), j0, j0, (.goto (-105), 3, 0, 19, 0, 0, [], j0m), 
  j0, j0, (.iconst (-1), 1, 0, 0, 0, 0, [], j0m), (.ireturn, 1, 0, 0, 0, 0, [], j0m)]
set_option maxRecDepth 20000 in
theorem t_Model_matched : okT m_Model_matched k_Model_matched = true := by decide +kernel
def k_Model_slip : List jO := [
  (.iload_n 1, 1, 1, 0, 0, 0, [], j0m), (.i2l, 1, 0, 0, 0, 0, [], j0m), (.lconst 0, 1, 0, 0, 0, 0, [], j0m), (.ldc2_w 328, 3, 0, 0, 0, 3, [8001], j0m), j0, j0, (.invokestatic 130, 3, 0, 3, 0, 0, [7110, 7111, 1015, 7112], m_Model_in), 
  j0, j0, (.ifCond .eq 12, 3, 0, 21, 0, 0, [], j0m), j0, j0, (.aload_n 0, 1, 0, 0, 0, 0, [], j0m), (.iconst 0, 1, 0, 0, 0, 0, [], j0m), (.iload_n 2, 1, 2, 0, 0, 0, [], j0m), (.invokevirtual 324, 3, 12, 3, 1, 0, [8015, 8017, 86, 1015, 8018], m_Model_isWord), 
  j0, j0, (.ifCond .ne 6, 3, 0, 24, 0, 0, [], j0m), j0, j0, (.bipush (-2), 2, 0, 0, 0, 0, [], j0m), j0, (.ireturn, 1, 0, 0, 0, 0, [], j0m), (.aload_n 0, 1, 0, 0, 0, 0, [], j0m), (.getfield 194, 3, 12, 15, 0, 15, [6206], j0m), 
  j0, j0, (.istore_n 3, 1, 3, 0, 0, 0, [], j0m), (.aload_n 0, 1, 0, 0, 0, 0, [], j0m), (.iconst 0, 1, 0, 0, 0, 0, [], j0m), (.putfield 194, 3, 12, 15, 0, 15, [6206], j0m), j0, j0, (.iload_n 3, 1, 3, 0, 0, 0, [], j0m), 
  (.i2l, 1, 0, 0, 0, 0, [], j0m), (.lconst 1, 1, 0, 0, 0, 1, [], j0m), (.ldc2_w 438, 3, 0, 0, 0, 20, [8170], j0m), j0, j0, (.invokestatic 130, 3, 0, 3, 0, 0, [7110, 7111, 1015, 7112], m_Model_in), j0, 
  j0, (.istore 4, 2, 4, 0, 0, 0, [], j0m), j0, (.iconst 0, 1, 0, 0, 0, 0, [], j0m), (.istore 5, 2, 5, 0, 0, 0, [], j0m), j0, (.iload 5, 2, 5, 0, 0, 0, [], j0m), j0, (.iload_n 3, 1, 3, 0, 0, 0, [], j0m), 
  (.if_icmp .ge 26, 3, 0, 77, 0, 0, [], j0m), j0, j0, (.iload 4, 2, 4, 0, 0, 0, [], j0m), j0, (.ifCond .eq 21, 3, 0, 77, 0, 0, [], j0m), j0, j0, (.aload_n 0, 1, 0, 0, 0, 0, [], j0m), (.getfield 52, 3, 12, 14, 0, 14, [6205], j0m), 
  j0, j0, (.iload 5, 2, 5, 0, 0, 0, [], j0m), j0, (.baload, 1, 0, 0, 2, 0, [], j0m), (.invokestatic 144, 3, 0, 1, 0, 0, [6159, 6160, 1015, 6161], m_Model_isLetter), j0, j0, (.istore 4, 2, 4, 0, 0, 0, [], j0m), 
  j0, (.iinc 5 1, 3, 5, 0, 0, 0, [], j0m), j0, j0, (.goto (-26), 3, 0, 48, 0, 0, [], j0m), j0, j0, (.iload 4, 2, 4, 0, 0, 0, [], j0m), j0, (.ifCond .ne 6, 3, 0, 85, 0, 0, [], j0m), j0, j0, (.bipush (-4), 2, 0, 0, 0, 0, [], j0m), 
  j0, (.ireturn, 1, 0, 0, 0, 0, [], j0m), (.iload_n 1, 1, 1, 0, 0, 0, [], j0m), (.iload_n 2, 1, 2, 0, 0, 0, [], j0m), (.invokestatic 432, 3, 0, 2, 0, 0, [8171, 8172, 1015, 8173], m_Model_slipAt), j0, j0, 
  (.istore 5, 2, 5, 0, 0, 0, [], j0m), j0, (.aload_n 0, 1, 0, 0, 0, 0, [], j0m), (.getfield 13, 3, 12, 1, 0, 1, [6192], j0m), j0, j0, (.iload 5, 2, 5, 0, 0, 0, [], j0m), j0, (.iload_n 3, 1, 3, 0, 0, 0, [], j0m), 
  (.iastore, 1, 0, 0, 0, 0, [], j0m), (.iconst 0, 1, 0, 0, 0, 0, [], j0m), (.istore 6, 2, 6, 0, 0, 0, [], j0m), j0, (.iload 6, 2, 6, 0, 0, 0, [], j0m), j0, (.iload_n 3, 1, 3, 0, 0, 0, [], j0m), (.if_icmp .ge 31, 3, 0, 137, 0, 0, [], j0m), 
  j0, j0, (.aload_n 0, 1, 0, 0, 0, 0, [], j0m), (.getfield 13, 3, 12, 1, 0, 1, [6192], j0m), j0, j0, (.iload 5, 2, 5, 0, 0, 0, [], j0m), j0, (.iconst 1, 1, 0, 0, 0, 0, [], j0m), (.iadd, 1, 0, 0, 0, 0, [], j0m), 
  (.iload 6, 2, 6, 0, 0, 0, [], j0m), j0, (.iadd, 1, 0, 0, 0, 0, [], j0m), (.aload_n 0, 1, 0, 0, 0, 0, [], j0m), (.getfield 52, 3, 12, 14, 0, 14, [6205], j0m), j0, j0, (.iload 6, 2, 6, 0, 0, 0, [], j0m), 
  j0, (.baload, 1, 0, 0, 2, 0, [], j0m), (.bipush 97, 2, 0, 0, 0, 0, [], j0m), j0, (.isub, 1, 0, 0, 0, 0, [], j0m), (.iastore, 1, 0, 0, 0, 0, [], j0m), (.iinc 6 1, 3, 6, 0, 0, 0, [], j0m), j0, j0, (.goto (-31), 3, 0, 103, 0, 0, [], j0m), 
  j0, j0, (.aload_n 0, 1, 0, 0, 0, 0, [], j0m), (.iload_n 1, 1, 1, 0, 0, 0, [], j0m), (.iload_n 2, 1, 2, 0, 0, 0, [], j0m), (.invokevirtual 440, 3, 12, 3, 1, 0, [8174, 8176, 109, 1015, 8177], m_Model_isRight), 
  j0, j0, (.ifCond .eq 7, 3, 0, 150, 0, 0, [], j0m), j0, j0, (.iconst 1, 1, 0, 0, 0, 0, [], j0m), (.goto 4, 3, 0, 151, 0, 0, [], j0m), j0, j0, (.iconst 0, 1, 0, 0, 0, 0, [], j0m), (.ireturn, 1, 0, 0, 0, 0, [], j0m)
  ]
set_option maxRecDepth 20000 in
theorem t_Model_slip : okT m_Model_slip k_Model_slip = true := by decide +kernel
def k_Model_slipAt : List jO := [
  (.sipush 7477, 3, 0, 0, 0, 0, [], j0m), j0, j0, (.bipush 21, 2, 0, 0, 0, 0, [], j0m), j0, (.sipush 300, 3, 0, 0, 0, 0, [], j0m), j0, j0, (.iload_n 0, 1, 0, 0, 0, 0, [], j0m), (.imul, 1, 0, 0, 0, 0, [], j0m), 
  (.iload_n 1, 1, 1, 0, 0, 0, [], j0m), (.iadd, 1, 0, 0, 0, 0, [], j0m), (.imul, 1, 0, 0, 0, 0, [], j0m), (.iadd, 1, 0, 0, 0, 0, [], j0m), (.ireturn, 1, 0, 0, 0, 0, [], j0m)]
set_option maxRecDepth 20000 in
theorem t_Model_slipAt : okT m_Model_slipAt k_Model_slipAt = true := by decide +kernel
def k_Model_isRight : List jO := [
  (.iload_n 2, 1, 2, 0, 0, 0, [], j0m), (.aload_n 0, 1, 0, 0, 0, 0, [], j0m), (.getfield 25, 3, 12, 4, 0, 4, [6195], j0m), j0, j0, (.iconst 0, 1, 0, 0, 0, 0, [], j0m), (.iaload, 1, 0, 0, 0, 0, [], j0m), 
  (.if_icmp .ge 22, 3, 0, 29, 0, 0, [], j0m), j0, j0, (.aload_n 0, 1, 0, 0, 0, 0, [], j0m), (.iload_n 1, 1, 1, 0, 0, 0, [], j0m), (.iload_n 2, 1, 2, 0, 0, 0, [], j0m), (.invokevirtual 435, 3, 12, 3, 1, 0, [8178, 8180, 110, 1015, 8181], m_Model_slipForm), 
  j0, j0, (.aload_n 0, 1, 0, 0, 0, 0, [], j0m), (.getfield 28, 3, 12, 5, 0, 5, [6196], j0m), j0, j0, (.iload_n 2, 1, 2, 0, 0, 0, [], j0m), (.iaload, 1, 0, 0, 0, 0, [], j0m), (.if_icmp .ne 7, 3, 0, 29, 0, 0, [], j0m), 
  j0, j0, (.iconst 1, 1, 0, 0, 0, 0, [], j0m), (.goto 4, 3, 0, 30, 0, 0, [], j0m), j0, j0, (.iconst 0, 1, 0, 0, 0, 0, [], j0m), (.ireturn, 1, 0, 0, 1, 0, [], j0m)]
set_option maxRecDepth 20000 in
theorem t_Model_isRight : okT m_Model_isRight k_Model_isRight = true := by decide +kernel
def k_Model_slipForm : List jO := [
  (.aload_n 0, 1, 0, 0, 0, 0, [], j0m), (.iload_n 1, 1, 1, 0, 0, 0, [], j0m), (.iload_n 2, 1, 2, 0, 0, 0, [], j0m), (.invokestatic 432, 3, 0, 2, 0, 0, [8171, 8172, 1015, 8173], m_Model_slipAt), j0, j0, 
  (.invokevirtual 191, 3, 12, 2, 1, 0, [8039, 8041, 90, 1015, 8042], m_Model_ruledForm), j0, j0, (.ireturn, 1, 0, 0, 0, 0, [], j0m)]
set_option maxRecDepth 20000 in
theorem t_Model_slipForm : okT m_Model_slipForm k_Model_slipForm = true := by decide +kernel
def k_Model_hand : List jO := [
  (.iload_n 1, 1, 1, 0, 0, 0, [], j0m), (.i2l, 1, 0, 0, 0, 0, [], j0m), (.lconst 0, 1, 0, 0, 0, 0, [], j0m), (.ldc2_w 328, 3, 0, 0, 0, 3, [8001], j0m), j0, j0, (.invokestatic 130, 3, 0, 3, 0, 0, [7110, 7111, 1015, 7112], m_Model_in), 
  j0, j0, (.ifCond .eq 15, 3, 0, 24, 0, 0, [], j0m), j0, j0, (.iload_n 2, 1, 2, 0, 0, 0, [], j0m), (.i2l, 1, 0, 0, 0, 0, [], j0m), (.lconst 0, 1, 0, 0, 0, 0, [], j0m), (.ldc2_w 134, 3, 0, 0, 0, 2, [7109], j0m), 
  j0, j0, (.invokestatic 130, 3, 0, 3, 0, 0, [7110, 7111, 1015, 7112], m_Model_in), j0, j0, (.ifCond .ne 7, 3, 0, 28, 0, 0, [], j0m), j0, j0, (.ldc_w 320, 3, 0, 0, 0, (-2000000000), [8006], j0m), j0, j0, 
  (.ireturn, 1, 0, 0, 0, 0, [], j0m), (.iconst 0, 1, 0, 0, 0, 0, [], j0m), (.istore_n 3, 1, 3, 0, 0, 0, [], j0m), (.iconst 0, 1, 0, 0, 0, 0, [], j0m), (.istore 4, 2, 4, 0, 0, 0, [], j0m), j0, (.iload 4, 2, 4, 0, 0, 0, [], j0m), 
  j0, (.sipush 300, 3, 0, 0, 0, 0, [], j0m), j0, j0, (.if_icmp .ge 75, 3, 0, 113, 0, 0, [], j0m), j0, j0, (.iload_n 3, 1, 3, 0, 0, 0, [], j0m), (.iload_n 2, 1, 2, 0, 0, 0, [], j0m), (.iconst 2, 1, 0, 0, 0, 0, [], j0m), 
  (.if_icmp .ne 32, 3, 0, 76, 0, 0, [], j0m), j0, j0, (.iload 4, 2, 4, 0, 0, 0, [], j0m), j0, (.aload_n 0, 1, 0, 0, 0, 0, [], j0m), (.getfield 25, 3, 12, 4, 0, 4, [6195], j0m), j0, j0, (.iconst 0, 1, 0, 0, 0, 0, [], j0m), 
  (.iaload, 1, 0, 0, 0, 0, [], j0m), (.if_icmp .ge 17, 3, 0, 72, 0, 0, [], j0m), j0, j0, (.aload_n 0, 1, 0, 0, 0, 0, [], j0m), (.iload_n 1, 1, 1, 0, 0, 0, [], j0m), (.iload 4, 2, 4, 0, 0, 0, [], j0m), 
  j0, (.invokevirtual 443, 3, 12, 3, 1, 0, [8186, 8188, 111, 1015, 8189], m_Model_hasSlip), j0, j0, (.ifCond .ne 7, 3, 0, 72, 0, 0, [], j0m), j0, j0, (.iconst 1, 1, 0, 0, 0, 0, [], j0m), (.goto 36, 3, 0, 105, 0, 0, [], j0m), 
  j0, j0, (.iconst 0, 1, 0, 0, 0, 0, [], j0m), (.goto 32, 3, 0, 105, 0, 0, [], j0m), j0, j0, (.aload_n 0, 1, 0, 0, 0, 0, [], j0m), (.iload_n 1, 1, 1, 0, 0, 0, [], j0m), (.iload 4, 2, 4, 0, 0, 0, [], j0m), 
  j0, (.invokevirtual 443, 3, 12, 3, 1, 0, [8186, 8188, 111, 1015, 8189], m_Model_hasSlip), j0, j0, (.ifCond .eq 21, 3, 0, 104, 0, 0, [], j0m), j0, j0, (.iload_n 2, 1, 2, 0, 0, 0, [], j0m), (.ifCond .eq 13, 3, 0, 100, 0, 0, [], j0m), 
  j0, j0, (.aload_n 0, 1, 0, 0, 0, 0, [], j0m), (.iload_n 1, 1, 1, 0, 0, 0, [], j0m), (.iload 4, 2, 4, 0, 0, 0, [], j0m), j0, (.invokevirtual 440, 3, 12, 3, 1, 0, [8174, 8176, 109, 1015, 8177], m_Model_isRight), 
  j0, j0, (.ifCond .ne 7, 3, 0, 104, 0, 0, [], j0m), j0, j0, (.iconst 1, 1, 0, 0, 0, 0, [], j0m), (.goto 4, 3, 0, 105, 0, 0, [], j0m), j0, j0, (.iconst 0, 1, 0, 0, 0, 0, [], j0m), (.iadd, 1, 0, 0, 0, 0, [], j0m), 
  (.istore_n 3, 1, 3, 0, 0, 0, [], j0m), (.iinc 4 1, 3, 4, 0, 0, 0, [], j0m), j0, j0, (.goto (-77), 3, 0, 33, 0, 0, [], j0m), j0, j0, (.iload_n 3, 1, 3, 0, 0, 0, [], j0m), (.ireturn, 1, 0, 0, 0, 0, [], j0m)
  ]
set_option maxRecDepth 20000 in
theorem t_Model_hand : okT m_Model_hand k_Model_hand = true := by decide +kernel
def k_Model_hasSlip : List jO := [
  (.aload_n 0, 1, 0, 0, 0, 0, [], j0m), (.getfield 13, 3, 12, 1, 0, 1, [6192], j0m), j0, j0, (.iload_n 1, 1, 1, 0, 0, 0, [], j0m), (.iload_n 2, 1, 2, 0, 0, 0, [], j0m), (.invokestatic 432, 3, 0, 2, 0, 0, [8171, 8172, 1015, 8173], m_Model_slipAt), 
  j0, j0, (.iaload, 1, 0, 0, 0, 0, [], j0m), (.ifCond .le 7, 3, 0, 17, 0, 0, [], j0m), j0, j0, (.iconst 1, 1, 0, 0, 0, 0, [], j0m), (.goto 4, 3, 0, 18, 0, 0, [], j0m), j0, j0, (.iconst 0, 1, 0, 0, 0, 0, [], j0m), 
  (.ireturn, 1, 0, 0, 1, 0, [], j0m)]
set_option maxRecDepth 20000 in
theorem t_Model_hasSlip : okT m_Model_hasSlip k_Model_hasSlip = true := by decide +kernel
def k_Model_copied : List jO := [
  (.iload_n 1, 1, 1, 0, 0, 0, [], j0m), (.i2l, 1, 0, 0, 0, 0, [], j0m), (.lconst 0, 1, 0, 0, 0, 0, [], j0m), (.ldc2_w 328, 3, 0, 0, 0, 3, [8001], j0m), j0, j0, (.invokestatic 130, 3, 0, 3, 0, 0, [7110, 7111, 1015, 7112], m_Model_in), 
  j0, j0, (.ifCond .eq 20, 3, 0, 29, 0, 0, [], j0m), j0, j0, (.iload_n 2, 1, 2, 0, 0, 0, [], j0m), (.i2l, 1, 0, 0, 0, 0, [], j0m), (.lconst 0, 1, 0, 0, 0, 0, [], j0m), (.ldc2_w 328, 3, 0, 0, 0, 3, [8001], j0m), 
  j0, j0, (.invokestatic 130, 3, 0, 3, 0, 0, [7110, 7111, 1015, 7112], m_Model_in), j0, j0, (.ifCond .eq 8, 3, 0, 29, 0, 0, [], j0m), j0, j0, (.iload_n 1, 1, 1, 0, 0, 0, [], j0m), (.iload_n 2, 1, 2, 0, 0, 0, [], j0m), 
  (.if_icmp .ne 6, 3, 0, 32, 0, 0, [], j0m), j0, j0, (.bipush (-2), 2, 0, 0, 0, 0, [], j0m), j0, (.ireturn, 1, 0, 0, 0, 0, [], j0m), (.iconst 0, 1, 0, 0, 0, 0, [], j0m), (.istore_n 3, 1, 3, 0, 0, 0, [], j0m), 
  (.iconst 0, 1, 0, 0, 0, 0, [], j0m), (.istore 4, 2, 4, 0, 0, 0, [], j0m), j0, (.iload 4, 2, 4, 0, 0, 0, [], j0m), j0, (.sipush 300, 3, 0, 0, 0, 0, [], j0m), j0, j0, (.if_icmp .ge 68, 3, 0, 110, 0, 0, [], j0m), 
  j0, j0, (.iload_n 3, 1, 3, 0, 0, 0, [], j0m), (.aload_n 0, 1, 0, 0, 0, 0, [], j0m), (.iload_n 1, 1, 1, 0, 0, 0, [], j0m), (.iload 4, 2, 4, 0, 0, 0, [], j0m), j0, (.invokevirtual 443, 3, 12, 3, 1, 0, [8186, 8188, 111, 1015, 8189], m_Model_hasSlip), 
  j0, j0, (.ifCond .eq 48, 3, 0, 101, 0, 0, [], j0m), j0, j0, (.aload_n 0, 1, 0, 0, 0, 0, [], j0m), (.iload_n 2, 1, 2, 0, 0, 0, [], j0m), (.iload 4, 2, 4, 0, 0, 0, [], j0m), j0, (.invokevirtual 443, 3, 12, 3, 1, 0, [8186, 8188, 111, 1015, 8189], m_Model_hasSlip), 
  j0, j0, (.ifCond .eq 38, 3, 0, 101, 0, 0, [], j0m), j0, j0, (.aload_n 0, 1, 0, 0, 0, 0, [], j0m), (.iload_n 1, 1, 1, 0, 0, 0, [], j0m), (.iload 4, 2, 4, 0, 0, 0, [], j0m), j0, (.invokevirtual 440, 3, 12, 3, 1, 0, [8174, 8176, 109, 1015, 8177], m_Model_isRight), 
  j0, j0, (.ifCond .ne 28, 3, 0, 101, 0, 0, [], j0m), j0, j0, (.aload_n 0, 1, 0, 0, 0, 0, [], j0m), (.iload_n 2, 1, 2, 0, 0, 0, [], j0m), (.iload 4, 2, 4, 0, 0, 0, [], j0m), j0, (.invokevirtual 440, 3, 12, 3, 1, 0, [8174, 8176, 109, 1015, 8177], m_Model_isRight), 
  j0, j0, (.ifCond .ne 18, 3, 0, 101, 0, 0, [], j0m), j0, j0, (.aload_n 0, 1, 0, 0, 0, 0, [], j0m), (.iload_n 1, 1, 1, 0, 0, 0, [], j0m), (.iload_n 2, 1, 2, 0, 0, 0, [], j0m), (.iload 4, 2, 4, 0, 0, 0, [], j0m), 
  j0, (.invokevirtual 446, 3, 12, 4, 1, 0, [8194, 8196, 112, 1015, 8197], m_Model_areAlike), j0, j0, (.ifCond .eq 7, 3, 0, 101, 0, 0, [], j0m), j0, j0, (.iconst 1, 1, 0, 0, 0, 0, [], j0m), (.goto 4, 3, 0, 102, 0, 0, [], j0m), 
  j0, j0, (.iconst 0, 1, 0, 0, 0, 0, [], j0m), (.iadd, 1, 0, 0, 0, 0, [], j0m), (.istore_n 3, 1, 3, 0, 0, 0, [], j0m), (.iinc 4 1, 3, 4, 0, 0, 0, [], j0m), j0, j0, (.goto (-70), 3, 0, 37, 0, 0, [], j0m), 
  j0, j0, (.iload_n 3, 1, 3, 0, 0, 0, [], j0m), (.ireturn, 1, 0, 0, 0, 0, [], j0m)]
set_option maxRecDepth 20000 in
theorem t_Model_copied : okT m_Model_copied k_Model_copied = true := by decide +kernel
def k_Model_areAlike : List jO := [
  (.iload_n 1, 1, 1, 0, 0, 0, [], j0m), (.iload_n 3, 1, 3, 0, 0, 0, [], j0m), (.invokestatic 432, 3, 0, 2, 0, 0, [8171, 8172, 1015, 8173], m_Model_slipAt), j0, j0, (.istore 4, 2, 4, 0, 0, 0, [], j0m), 
  j0, (.iload_n 2, 1, 2, 0, 0, 0, [], j0m), (.iload_n 3, 1, 3, 0, 0, 0, [], j0m), (.invokestatic 432, 3, 0, 2, 0, 0, [8171, 8172, 1015, 8173], m_Model_slipAt), j0, j0, (.istore 5, 2, 5, 0, 0, 0, [], j0m), 
  j0, (.aload_n 0, 1, 0, 0, 0, 0, [], j0m), (.getfield 13, 3, 12, 1, 0, 1, [6192], j0m), j0, j0, (.iload 4, 2, 4, 0, 0, 0, [], j0m), j0, (.iaload, 1, 0, 0, 0, 0, [], j0m), (.aload_n 0, 1, 0, 0, 0, 0, [], j0m), 
  (.getfield 13, 3, 12, 1, 0, 1, [6192], j0m), j0, j0, (.iload 5, 2, 5, 0, 0, 0, [], j0m), j0, (.iaload, 1, 0, 0, 0, 0, [], j0m), (.if_icmp .ne 7, 3, 0, 35, 0, 0, [], j0m), j0, j0, (.iconst 1, 1, 0, 0, 0, 0, [], j0m), 
  (.goto 4, 3, 0, 36, 0, 0, [], j0m), j0, j0, (.iconst 0, 1, 0, 0, 0, 0, [], j0m), (.istore 6, 2, 6, 0, 0, 0, [], j0m), j0, (.iconst 1, 1, 0, 0, 0, 0, [], j0m), (.istore 7, 2, 7, 0, 0, 0, [], j0m), j0, 
  (.iload 7, 2, 7, 0, 0, 0, [], j0m), j0, (.aload_n 0, 1, 0, 0, 0, 0, [], j0m), (.getfield 13, 3, 12, 1, 0, 1, [6192], j0m), j0, j0, (.iload 4, 2, 4, 0, 0, 0, [], j0m), j0, (.iaload, 1, 0, 0, 0, 0, [], j0m), 
  (.if_icmp .gt 52, 3, 0, 102, 0, 0, [], j0m), j0, j0, (.iload 6, 2, 6, 0, 0, 0, [], j0m), j0, (.ifCond .eq 47, 3, 0, 102, 0, 0, [], j0m), j0, j0, (.aload_n 0, 1, 0, 0, 0, 0, [], j0m), (.aload_n 0, 1, 0, 0, 0, 0, [], j0m), 
  (.getfield 13, 3, 12, 1, 0, 1, [6192], j0m), j0, j0, (.iload 4, 2, 4, 0, 0, 0, [], j0m), j0, (.iload 7, 2, 7, 0, 0, 0, [], j0m), j0, (.iadd, 1, 0, 0, 0, 0, [], j0m), (.iaload, 1, 0, 0, 0, 0, [], j0m), 
  (.invokevirtual 155, 3, 12, 2, 1, 0, [6170, 6172, 62, 1015, 6173], m_Model_folded), j0, j0, (.aload_n 0, 1, 0, 0, 0, 0, [], j0m), (.aload_n 0, 1, 0, 0, 0, 0, [], j0m), (.getfield 13, 3, 12, 1, 0, 1, [6192], j0m), 
  j0, j0, (.iload 5, 2, 5, 0, 0, 0, [], j0m), j0, (.iload 7, 2, 7, 0, 0, 0, [], j0m), j0, (.iadd, 1, 0, 0, 0, 0, [], j0m), (.iaload, 1, 0, 0, 0, 0, [], j0m), (.invokevirtual 155, 3, 12, 2, 1, 0, [6170, 6172, 62, 1015, 6173], m_Model_folded), 
  j0, j0, (.if_icmp .ne 7, 3, 0, 93, 0, 0, [], j0m), j0, j0, (.iconst 1, 1, 0, 0, 0, 0, [], j0m), (.goto 4, 3, 0, 94, 0, 0, [], j0m), j0, j0, (.iconst 0, 1, 0, 0, 0, 0, [], j0m), (.istore 6, 2, 6, 0, 0, 0, [], j0m), 
  j0, (.iinc 7 1, 3, 7, 0, 0, 0, [], j0m), j0, j0, (.goto (-58), 3, 0, 41, 0, 0, [], j0m), j0, j0, (.iload 6, 2, 6, 0, 0, 0, [], j0m), j0, (.ireturn, 1, 0, 0, 1, 0, [], j0m)]
set_option maxRecDepth 20000 in
theorem t_Model_areAlike : okT m_Model_areAlike k_Model_areAlike = true := by decide +kernel
def k_Model_rank : List jO := [
  (.iload_n 1, 1, 1, 0, 0, 0, [], j0m), (.invokestatic 308, 3, 0, 1, 0, 0, [7212, 7213, 1015, 7214], m_Model_isEdition), j0, j0, (.ifCond .ne 6, 3, 0, 10, 0, 0, [], j0m), j0, j0, (.bipush (-2), 2, 0, 0, 0, 0, [], j0m), 
  j0, (.ireturn, 1, 0, 0, 0, 0, [], j0m), (.aload_n 0, 1, 0, 0, 0, 0, [], j0m), (.invokevirtual 449, 3, 12, 1, 1, 0, [8202, 8204, 113, 1015, 8205], m_Model_asks), j0, j0, (.aload_n 0, 1, 0, 0, 0, 0, [], j0m), 
  (.iconst 0, 1, 0, 0, 0, 0, [], j0m), (.putfield 452, 3, 12, 41, 0, 41, [6232], j0m), j0, j0, (.iconst 0, 1, 0, 0, 0, 0, [], j0m), (.istore_n 2, 1, 2, 0, 0, 0, [], j0m), (.iload_n 2, 1, 2, 0, 0, 0, [], j0m), 
  (.aload_n 0, 1, 0, 0, 0, 0, [], j0m), (.iload_n 1, 1, 1, 0, 0, 0, [], j0m), (.invokevirtual 148, 3, 12, 2, 1, 0, [6144, 6146, 57, 1015, 6147], m_Model_linesOf), j0, j0, (.if_icmp .ge 16, 3, 0, 43, 0, 0, [], j0m), 
  j0, j0, (.aload_n 0, 1, 0, 0, 0, 0, [], j0m), (.getfield 82, 3, 12, 34, 0, 34, [6225], j0m), j0, j0, (.iload_n 2, 1, 2, 0, 0, 0, [], j0m), (.iconst 0, 1, 0, 0, 0, 0, [], j0m), (.iastore, 1, 0, 0, 0, 0, [], j0m), 
  (.iinc 2 1, 3, 2, 0, 0, 0, [], j0m), j0, j0, (.goto (-19), 3, 0, 21, 0, 0, [], j0m), j0, j0, (.iconst 0, 1, 0, 0, 0, 0, [], j0m), (.istore_n 2, 1, 2, 0, 0, 0, [], j0m), (.iload_n 2, 1, 2, 0, 0, 0, [], j0m), 
  (.aload_n 0, 1, 0, 0, 0, 0, [], j0m), (.getfield 169, 3, 12, 10, 0, 10, [6201], j0m), j0, j0, (.if_icmp .ge 110, 3, 0, 160, 0, 0, [], j0m), j0, j0, (.aload_n 0, 1, 0, 0, 0, 0, [], j0m), (.getfield 92, 3, 12, 38, 0, 38, [6229], j0m), 
  j0, j0, (.iload_n 2, 1, 2, 0, 0, 0, [], j0m), (.baload, 1, 0, 0, 3, 0, [], j0m), (.ifCond .ne 6, 3, 0, 65, 0, 0, [], j0m), j0, j0, (.goto 92, 3, 0, 154, 0, 0, [], j0m), j0, j0, (.iconst 0, 1, 0, 0, 0, 0, [], j0m), 
  (.istore_n 3, 1, 3, 0, 0, 0, [], j0m), (.iconst 0, 1, 0, 0, 0, 0, [], j0m), (.istore 4, 2, 4, 0, 0, 0, [], j0m), j0, (.iload 4, 2, 4, 0, 0, 0, [], j0m), j0, (.aload_n 0, 1, 0, 0, 0, 0, [], j0m), (.iload_n 1, 1, 1, 0, 0, 0, [], j0m), 
  (.invokevirtual 148, 3, 12, 2, 1, 0, [6144, 6146, 57, 1015, 6147], m_Model_linesOf), j0, j0, (.if_icmp .ge 28, 3, 0, 105, 0, 0, [], j0m), j0, j0, (.iload_n 3, 1, 3, 0, 0, 0, [], j0m), (.aload_n 0, 1, 0, 0, 0, 0, [], j0m), 
  (.iload_n 1, 1, 1, 0, 0, 0, [], j0m), (.iload_n 2, 1, 2, 0, 0, 0, [], j0m), (.iload 4, 2, 4, 0, 0, 0, [], j0m), j0, (.invokevirtual 455, 3, 12, 4, 1, 0, [8206, 8208, 114, 1015, 8209], m_Model_beginsIn), 
  j0, j0, (.ifCond .eq 7, 3, 0, 96, 0, 0, [], j0m), j0, j0, (.iconst 1, 1, 0, 0, 0, 0, [], j0m), (.goto 4, 3, 0, 97, 0, 0, [], j0m), j0, j0, (.iconst 0, 1, 0, 0, 0, 0, [], j0m), (.iadd, 1, 0, 0, 0, 0, [], j0m), 
  (.istore_n 3, 1, 3, 0, 0, 0, [], j0m), (.iinc 4 1, 3, 4, 0, 0, 0, [], j0m), j0, j0, (.goto (-32), 3, 0, 70, 0, 0, [], j0m), j0, j0, (.iconst 0, 1, 0, 0, 0, 0, [], j0m), (.istore 4, 2, 4, 0, 0, 0, [], j0m), 
  j0, (.iload 4, 2, 4, 0, 0, 0, [], j0m), j0, (.aload_n 0, 1, 0, 0, 0, 0, [], j0m), (.iload_n 1, 1, 1, 0, 0, 0, [], j0m), (.invokevirtual 148, 3, 12, 2, 1, 0, [6144, 6146, 57, 1015, 6147], m_Model_linesOf), 
  j0, j0, (.if_icmp .ge 39, 3, 0, 154, 0, 0, [], j0m), j0, j0, (.aload_n 0, 1, 0, 0, 0, 0, [], j0m), (.getfield 82, 3, 12, 34, 0, 34, [6225], j0m), j0, j0, (.iload 4, 2, 4, 0, 0, 0, [], j0m), j0, (.dup2, 1, 0, 0, 0, 0, [], j0m), 
  (.iaload, 1, 0, 0, 0, 0, [], j0m), (.aload_n 0, 1, 0, 0, 0, 0, [], j0m), (.iload_n 1, 1, 1, 0, 0, 0, [], j0m), (.iload_n 2, 1, 2, 0, 0, 0, [], j0m), (.iload 4, 2, 4, 0, 0, 0, [], j0m), j0, (.invokevirtual 455, 3, 12, 4, 1, 0, [8206, 8208, 114, 1015, 8209], m_Model_beginsIn), 
  j0, j0, (.ifCond .eq 11, 3, 0, 145, 0, 0, [], j0m), j0, j0, (.sipush 1000, 3, 0, 0, 0, 0, [], j0m), j0, j0, (.iload_n 3, 1, 3, 0, 0, 0, [], j0m), (.idiv, 1, 0, 0, 0, 0, [], j0m), (.goto 4, 3, 0, 146, 0, 0, [], j0m), 
  j0, j0, (.iconst 0, 1, 0, 0, 0, 0, [], j0m), (.iadd, 1, 0, 0, 0, 0, [], j0m), (.iastore, 1, 0, 0, 0, 0, [], j0m), (.iinc 4 1, 3, 4, 0, 0, 0, [], j0m), j0, j0, (.goto (-43), 3, 0, 108, 0, 0, [], j0m), 
  j0, j0, (.iinc 2 1, 3, 2, 0, 0, 0, [], j0m), j0, j0, (.goto (-112), 3, 0, 45, 0, 0, [], j0m), j0, j0, (.iconst 0, 1, 0, 0, 0, 0, [], j0m), (.istore_n 2, 1, 2, 0, 0, 0, [], j0m), (.iload_n 2, 1, 2, 0, 0, 0, [], j0m), 
  (.aload_n 0, 1, 0, 0, 0, 0, [], j0m), (.iload_n 1, 1, 1, 0, 0, 0, [], j0m), (.invokevirtual 148, 3, 12, 2, 1, 0, [6144, 6146, 57, 1015, 6147], m_Model_linesOf), j0, j0, (.if_icmp .ge 110, 3, 0, 278, 0, 0, [], j0m), 
  j0, j0, (.aload_n 0, 1, 0, 0, 0, 0, [], j0m), (.getfield 82, 3, 12, 34, 0, 34, [6225], j0m), j0, j0, (.iload_n 2, 1, 2, 0, 0, 0, [], j0m), (.iaload, 1, 0, 0, 0, 0, [], j0m), (.ifCond .ne 6, 3, 0, 183, 0, 0, [], j0m), 
  j0, j0, (.goto 92, 3, 0, 272, 0, 0, [], j0m), j0, j0, (.aload_n 0, 1, 0, 0, 0, 0, [], j0m), (.getfield 452, 3, 12, 41, 0, 41, [6232], j0m), j0, j0, (.istore_n 3, 1, 3, 0, 0, 0, [], j0m), (.iload_n 3, 1, 3, 0, 0, 0, [], j0m), 
  (.ifCond .le 54, 3, 0, 243, 0, 0, [], j0m), j0, j0, (.aload_n 0, 1, 0, 0, 0, 0, [], j0m), (.getfield 98, 3, 12, 40, 0, 40, [6231], j0m), j0, j0, (.iload_n 3, 1, 3, 0, 0, 0, [], j0m), (.iconst 1, 1, 0, 0, 0, 0, [], j0m), 
  (.isub, 1, 0, 0, 0, 0, [], j0m), (.iaload, 1, 0, 0, 0, 0, [], j0m), (.aload_n 0, 1, 0, 0, 0, 0, [], j0m), (.getfield 82, 3, 12, 34, 0, 34, [6225], j0m), j0, j0, (.iload_n 2, 1, 2, 0, 0, 0, [], j0m), 
  (.iaload, 1, 0, 0, 0, 0, [], j0m), (.if_icmp .ge 37, 3, 0, 243, 0, 0, [], j0m), j0, j0, (.aload_n 0, 1, 0, 0, 0, 0, [], j0m), (.getfield 98, 3, 12, 40, 0, 40, [6231], j0m), j0, j0, (.iload_n 3, 1, 3, 0, 0, 0, [], j0m), 
  (.aload_n 0, 1, 0, 0, 0, 0, [], j0m), (.getfield 98, 3, 12, 40, 0, 40, [6231], j0m), j0, j0, (.iload_n 3, 1, 3, 0, 0, 0, [], j0m), (.iconst 1, 1, 0, 0, 0, 0, [], j0m), (.isub, 1, 0, 0, 0, 0, [], j0m), 
  (.iaload, 1, 0, 0, 0, 0, [], j0m), (.iastore, 1, 0, 0, 0, 0, [], j0m), (.aload_n 0, 1, 0, 0, 0, 0, [], j0m), (.getfield 95, 3, 12, 39, 0, 39, [6230], j0m), j0, j0, (.iload_n 3, 1, 3, 0, 0, 0, [], j0m), 
  (.aload_n 0, 1, 0, 0, 0, 0, [], j0m), (.getfield 95, 3, 12, 39, 0, 39, [6230], j0m), j0, j0, (.iload_n 3, 1, 3, 0, 0, 0, [], j0m), (.iconst 1, 1, 0, 0, 0, 0, [], j0m), (.isub, 1, 0, 0, 0, 0, [], j0m), 
  (.iaload, 1, 0, 0, 0, 0, [], j0m), (.iastore, 1, 0, 0, 0, 0, [], j0m), (.iinc 3 (-1), 3, 3, 0, 0, 0, [], j0m), j0, j0, (.goto (-52), 3, 0, 188, 0, 0, [], j0m), j0, j0, (.aload_n 0, 1, 0, 0, 0, 0, [], j0m), 
  (.getfield 98, 3, 12, 40, 0, 40, [6231], j0m), j0, j0, (.iload_n 3, 1, 3, 0, 0, 0, [], j0m), (.aload_n 0, 1, 0, 0, 0, 0, [], j0m), (.getfield 82, 3, 12, 34, 0, 34, [6225], j0m), j0, j0, (.iload_n 2, 1, 2, 0, 0, 0, [], j0m), 
  (.iaload, 1, 0, 0, 0, 0, [], j0m), (.iastore, 1, 0, 0, 0, 0, [], j0m), (.aload_n 0, 1, 0, 0, 0, 0, [], j0m), (.getfield 95, 3, 12, 39, 0, 39, [6230], j0m), j0, j0, (.iload_n 3, 1, 3, 0, 0, 0, [], j0m), 
  (.iload_n 2, 1, 2, 0, 0, 0, [], j0m), (.iastore, 1, 0, 0, 0, 0, [], j0m), (.aload_n 0, 1, 0, 0, 0, 0, [], j0m), (.dup, 1, 0, 0, 0, 0, [], j0m), (.getfield 452, 3, 12, 41, 0, 41, [6232], j0m), j0, j0, 
  (.iconst 1, 1, 0, 0, 0, 0, [], j0m), (.iadd, 1, 0, 0, 0, 0, [], j0m), (.putfield 452, 3, 12, 41, 0, 41, [6232], j0m), j0, j0, (.iinc 2 1, 3, 2, 0, 0, 0, [], j0m), j0, j0, (.goto (-113), 3, 0, 162, 0, 0, [], j0m), 
  j0, j0, (.aload_n 0, 1, 0, 0, 0, 0, [], j0m), (.getfield 452, 3, 12, 41, 0, 41, [6232], j0m), j0, j0, (.ireturn, 1, 0, 0, 0, 0, [], j0m)]
set_option maxRecDepth 20000 in
theorem t_Model_rank : okT m_Model_rank k_Model_rank = true := by decide +kernel
def k_Model_asks : List jO := [
  (.iconst 0, 1, 0, 0, 0, 0, [], j0m), (.istore_n 1, 1, 1, 0, 0, 0, [], j0m), (.iload_n 1, 1, 1, 0, 0, 0, [], j0m), (.aload_n 0, 1, 0, 0, 0, 0, [], j0m), (.getfield 169, 3, 12, 10, 0, 10, [6201], j0m), 
  j0, j0, (.if_icmp .ge 16, 3, 0, 23, 0, 0, [], j0m), j0, j0, (.aload_n 0, 1, 0, 0, 0, 0, [], j0m), (.getfield 92, 3, 12, 38, 0, 38, [6229], j0m), j0, j0, (.iload_n 1, 1, 1, 0, 0, 0, [], j0m), (.iconst 0, 1, 0, 0, 0, 0, [], j0m), 
  (.bastore, 1, 0, 0, 3, 0, [], j0m), (.iinc 1 1, 3, 1, 0, 0, 0, [], j0m), j0, j0, (.goto (-18), 3, 0, 2, 0, 0, [], j0m), j0, j0, (.iconst 0, 1, 0, 0, 0, 0, [], j0m), (.istore_n 1, 1, 1, 0, 0, 0, [], j0m), 
  (.iload_n 1, 1, 1, 0, 0, 0, [], j0m), (.aload_n 0, 1, 0, 0, 0, 0, [], j0m), (.getfield 194, 3, 12, 15, 0, 15, [6206], j0m), j0, j0, (.if_icmp .ge 122, 3, 0, 152, 0, 0, [], j0m), j0, j0, (.aload_n 0, 1, 0, 0, 0, 0, [], j0m), 
  (.getfield 76, 3, 12, 31, 0, 31, [6222], j0m), j0, j0, (.iconst 0, 1, 0, 0, 0, 0, [], j0m), (.iconst 0, 1, 0, 0, 0, 0, [], j0m), (.iastore, 1, 0, 0, 0, 0, [], j0m), (.iload_n 1, 1, 1, 0, 0, 0, [], j0m), 
  (.aload_n 0, 1, 0, 0, 0, 0, [], j0m), (.getfield 194, 3, 12, 15, 0, 15, [6206], j0m), j0, j0, (.if_icmp .ge 66, 3, 0, 111, 0, 0, [], j0m), j0, j0, (.aload_n 0, 1, 0, 0, 0, 0, [], j0m), (.getfield 52, 3, 12, 14, 0, 14, [6205], j0m), 
  j0, j0, (.iload_n 1, 1, 1, 0, 0, 0, [], j0m), (.baload, 1, 0, 0, 2, 0, [], j0m), (.invokestatic 144, 3, 0, 1, 0, 0, [6159, 6160, 1015, 6161], m_Model_isLetter), j0, j0, (.ifCond .eq 54, 3, 0, 111, 0, 0, [], j0m), 
  j0, j0, (.aload_n 0, 1, 0, 0, 0, 0, [], j0m), (.getfield 76, 3, 12, 31, 0, 31, [6222], j0m), j0, j0, (.iconst 0, 1, 0, 0, 0, 0, [], j0m), (.iaload, 1, 0, 0, 0, 0, [], j0m), (.bipush 20, 2, 0, 0, 0, 0, [], j0m), 
  j0, (.if_icmp .ge 37, 3, 0, 105, 0, 0, [], j0m), j0, j0, (.aload_n 0, 1, 0, 0, 0, 0, [], j0m), (.getfield 76, 3, 12, 31, 0, 31, [6222], j0m), j0, j0, (.iconst 0, 1, 0, 0, 0, 0, [], j0m), (.dup2, 1, 0, 0, 0, 0, [], j0m), 
  (.iaload, 1, 0, 0, 0, 0, [], j0m), (.iconst 1, 1, 0, 0, 0, 0, [], j0m), (.iadd, 1, 0, 0, 0, 0, [], j0m), (.iastore, 1, 0, 0, 0, 0, [], j0m), (.aload_n 0, 1, 0, 0, 0, 0, [], j0m), (.getfield 76, 3, 12, 31, 0, 31, [6222], j0m), 
  j0, j0, (.aload_n 0, 1, 0, 0, 0, 0, [], j0m), (.getfield 76, 3, 12, 31, 0, 31, [6222], j0m), j0, j0, (.iconst 0, 1, 0, 0, 0, 0, [], j0m), (.iaload, 1, 0, 0, 0, 0, [], j0m), (.aload_n 0, 1, 0, 0, 0, 0, [], j0m), 
  (.aload_n 0, 1, 0, 0, 0, 0, [], j0m), (.getfield 52, 3, 12, 14, 0, 14, [6205], j0m), j0, j0, (.iload_n 1, 1, 1, 0, 0, 0, [], j0m), (.baload, 1, 0, 0, 2, 0, [], j0m), (.bipush 97, 2, 0, 0, 0, 0, [], j0m), 
  j0, (.isub, 1, 0, 0, 0, 0, [], j0m), (.invokevirtual 155, 3, 12, 2, 1, 0, [6170, 6172, 62, 1015, 6173], m_Model_folded), j0, j0, (.iastore, 1, 0, 0, 0, 0, [], j0m), (.iinc 1 1, 3, 1, 0, 0, 0, [], j0m), 
  j0, j0, (.goto (-68), 3, 0, 40, 0, 0, [], j0m), j0, j0, (.aload_n 0, 1, 0, 0, 0, 0, [], j0m), (.getfield 76, 3, 12, 31, 0, 31, [6222], j0m), j0, j0, (.iconst 0, 1, 0, 0, 0, 0, [], j0m), (.iaload, 1, 0, 0, 0, 0, [], j0m), 
  (.ifCond .le 15, 3, 0, 132, 0, 0, [], j0m), j0, j0, (.aload_n 0, 1, 0, 0, 0, 0, [], j0m), (.aload_n 0, 1, 0, 0, 0, 0, [], j0m), (.getfield 76, 3, 12, 31, 0, 31, [6222], j0m), j0, j0, (.iconst 0, 1, 0, 0, 0, 0, [], j0m), 
  (.invokevirtual 176, 3, 12, 3, 1, 0, [6182, 6184, 65, 1015, 6185], m_Model_find), j0, j0, (.goto 4, 3, 0, 133, 0, 0, [], j0m), j0, j0, (.iconst (-1), 1, 0, 0, 0, 0, [], j0m), (.istore_n 2, 1, 2, 0, 0, 0, [], j0m), 
  (.iload_n 2, 1, 2, 0, 0, 0, [], j0m), (.iconst (-1), 1, 0, 0, 0, 0, [], j0m), (.if_icmp .eq 10, 3, 0, 146, 0, 0, [], j0m), j0, j0, (.aload_n 0, 1, 0, 0, 0, 0, [], j0m), (.getfield 92, 3, 12, 38, 0, 38, [6229], j0m), 
  j0, j0, (.iload_n 2, 1, 2, 0, 0, 0, [], j0m), (.iconst 1, 1, 0, 0, 0, 0, [], j0m), (.bastore, 1, 0, 0, 3, 0, [], j0m), (.iinc 1 1, 3, 1, 0, 0, 0, [], j0m), j0, j0, (.goto (-124), 3, 0, 25, 0, 0, [], j0m), 
  j0, j0, (.aload_n 0, 1, 0, 0, 0, 0, [], j0m), (.iconst 0, 1, 0, 0, 0, 0, [], j0m), (.putfield 194, 3, 12, 15, 0, 15, [6206], j0m), j0, j0, (.return_, 1, 0, 0, 0, 0, [], j0m)]
set_option maxRecDepth 20000 in
theorem t_Model_asks : okT m_Model_asks k_Model_asks = true := by decide +kernel
def k_Model_beginsIn : List jO := [
  (.iconst 0, 1, 0, 0, 0, 0, [], j0m), (.istore 4, 2, 4, 0, 0, 0, [], j0m), j0, (.iload 4, 2, 4, 0, 0, 0, [], j0m), j0, (.aload_n 0, 1, 0, 0, 0, 0, [], j0m), (.getfield 25, 3, 12, 4, 0, 4, [6195], j0m), 
  j0, j0, (.iload_n 1, 1, 1, 0, 0, 0, [], j0m), (.iaload, 1, 0, 0, 0, 0, [], j0m), (.if_icmp .ge 45, 3, 0, 56, 0, 0, [], j0m), j0, j0, (.aload_n 0, 1, 0, 0, 0, 0, [], j0m), (.getfield 28, 3, 12, 5, 0, 5, [6196], j0m), 
  j0, j0, (.sipush 340, 3, 0, 0, 0, 0, [], j0m), j0, j0, (.iload_n 1, 1, 1, 0, 0, 0, [], j0m), (.imul, 1, 0, 0, 0, 0, [], j0m), (.iload 4, 2, 4, 0, 0, 0, [], j0m), j0, (.iadd, 1, 0, 0, 0, 0, [], j0m), 
  (.iaload, 1, 0, 0, 0, 0, [], j0m), (.iload_n 2, 1, 2, 0, 0, 0, [], j0m), (.if_icmp .ne 22, 3, 0, 50, 0, 0, [], j0m), j0, j0, (.aload_n 0, 1, 0, 0, 0, 0, [], j0m), (.getfield 31, 3, 12, 6, 0, 6, [6197], j0m), 
  j0, j0, (.sipush 340, 3, 0, 0, 0, 0, [], j0m), j0, j0, (.iload_n 1, 1, 1, 0, 0, 0, [], j0m), (.imul, 1, 0, 0, 0, 0, [], j0m), (.iload 4, 2, 4, 0, 0, 0, [], j0m), j0, (.iadd, 1, 0, 0, 0, 0, [], j0m), 
  (.iaload, 1, 0, 0, 0, 0, [], j0m), (.iload_n 3, 1, 3, 0, 0, 0, [], j0m), (.if_icmp .ne 5, 3, 0, 50, 0, 0, [], j0m), j0, j0, (.iconst 1, 1, 0, 0, 0, 0, [], j0m), (.ireturn, 1, 0, 0, 1, 0, [], j0m), (.iinc 4 1, 3, 4, 0, 0, 0, [], j0m), 
  j0, j0, (.goto (-50), 3, 0, 3, 0, 0, [], j0m), j0, j0, (.iconst 0, 1, 0, 0, 0, 0, [], j0m), (.ireturn, 1, 0, 0, 1, 0, [], j0m)]
set_option maxRecDepth 20000 in
theorem t_Model_beginsIn : okT m_Model_beginsIn k_Model_beginsIn = true := by decide +kernel
def k_Model_ranked : List jO := [
  (.iload_n 1, 1, 1, 0, 0, 0, [], j0m), (.i2l, 1, 0, 0, 0, 0, [], j0m), (.lconst 0, 1, 0, 0, 0, 0, [], j0m), (.aload_n 0, 1, 0, 0, 0, 0, [], j0m), (.getfield 452, 3, 12, 41, 0, 41, [6232], j0m), j0, j0, 
  (.iconst 1, 1, 0, 0, 0, 0, [], j0m), (.isub, 1, 0, 0, 0, 0, [], j0m), (.i2l, 1, 0, 0, 0, 0, [], j0m), (.invokestatic 130, 3, 0, 3, 0, 0, [7110, 7111, 1015, 7112], m_Model_in), j0, j0, (.ifCond .ne 7, 3, 0, 20, 0, 0, [], j0m), 
  j0, j0, (.ldc_w 320, 3, 0, 0, 0, (-2000000000), [8006], j0m), j0, j0, (.ireturn, 1, 0, 0, 0, 0, [], j0m), (.iload_n 2, 1, 2, 0, 0, 0, [], j0m), (.ifCond .ne 12, 3, 0, 33, 0, 0, [], j0m), j0, j0, (.aload_n 0, 1, 0, 0, 0, 0, [], j0m), 
  (.getfield 95, 3, 12, 39, 0, 39, [6230], j0m), j0, j0, (.iload_n 1, 1, 1, 0, 0, 0, [], j0m), (.iaload, 1, 0, 0, 0, 0, [], j0m), (.goto 20, 3, 0, 50, 0, 0, [], j0m), j0, j0, (.iload_n 2, 1, 2, 0, 0, 0, [], j0m), 
  (.iconst 1, 1, 0, 0, 0, 0, [], j0m), (.if_icmp .ne 12, 3, 0, 47, 0, 0, [], j0m), j0, j0, (.aload_n 0, 1, 0, 0, 0, 0, [], j0m), (.getfield 98, 3, 12, 40, 0, 40, [6231], j0m), j0, j0, (.iload_n 1, 1, 1, 0, 0, 0, [], j0m), 
  (.iaload, 1, 0, 0, 0, 0, [], j0m), (.goto 6, 3, 0, 50, 0, 0, [], j0m), j0, j0, (.ldc_w 320, 3, 0, 0, 0, (-2000000000), [8006], j0m), j0, j0, (.ireturn, 1, 0, 0, 0, 0, [], j0m)]
set_option maxRecDepth 20000 in
theorem t_Model_ranked : okT m_Model_ranked k_Model_ranked = true := by decide +kernel
def k_Model_begins : List jO := [
  (.iconst 0, 1, 0, 0, 0, 0, [], j0m), (.istore_n 1, 1, 1, 0, 0, 0, [], j0m), (.iconst 0, 1, 0, 0, 0, 0, [], j0m), (.istore_n 2, 1, 2, 0, 0, 0, [], j0m), (.iload_n 2, 1, 2, 0, 0, 0, [], j0m), (.aload_n 0, 1, 0, 0, 0, 0, [], j0m), 
  (.getfield 194, 3, 12, 15, 0, 15, [6206], j0m), j0, j0, (.if_icmp .ge 46, 3, 0, 55, 0, 0, [], j0m), j0, j0, (.aload_n 0, 1, 0, 0, 0, 0, [], j0m), (.getfield 52, 3, 12, 14, 0, 14, [6205], j0m), j0, j0, 
  (.iload_n 2, 1, 2, 0, 0, 0, [], j0m), (.baload, 1, 0, 0, 2, 0, [], j0m), (.invokestatic 144, 3, 0, 1, 0, 0, [6159, 6160, 1015, 6161], m_Model_isLetter), j0, j0, (.ifCond .ne 6, 3, 0, 27, 0, 0, [], j0m), 
  j0, j0, (.goto 25, 3, 0, 49, 0, 0, [], j0m), j0, j0, (.aload_n 0, 1, 0, 0, 0, 0, [], j0m), (.getfield 104, 3, 12, 44, 0, 44, [6235], j0m), j0, j0, (.iload_n 1, 1, 1, 0, 0, 0, [], j0m), (.aload_n 0, 1, 0, 0, 0, 0, [], j0m), 
  (.aload_n 0, 1, 0, 0, 0, 0, [], j0m), (.getfield 52, 3, 12, 14, 0, 14, [6205], j0m), j0, j0, (.iload_n 2, 1, 2, 0, 0, 0, [], j0m), (.baload, 1, 0, 0, 2, 0, [], j0m), (.bipush 97, 2, 0, 0, 0, 0, [], j0m), 
  j0, (.isub, 1, 0, 0, 0, 0, [], j0m), (.invokevirtual 155, 3, 12, 2, 1, 0, [6170, 6172, 62, 1015, 6173], m_Model_folded), j0, j0, (.iastore, 1, 0, 0, 0, 0, [], j0m), (.iinc 1 1, 3, 1, 0, 0, 0, [], j0m), 
  j0, j0, (.iinc 2 1, 3, 2, 0, 0, 0, [], j0m), j0, j0, (.goto (-48), 3, 0, 4, 0, 0, [], j0m), j0, j0, (.aload_n 0, 1, 0, 0, 0, 0, [], j0m), (.iconst 0, 1, 0, 0, 0, 0, [], j0m), (.putfield 194, 3, 12, 15, 0, 15, [6206], j0m), 
  j0, j0, (.aload_n 0, 1, 0, 0, 0, 0, [], j0m), (.iconst 0, 1, 0, 0, 0, 0, [], j0m), (.putfield 458, 3, 12, 43, 0, 43, [6234], j0m), j0, j0, (.iconst 0, 1, 0, 0, 0, 0, [], j0m), (.istore_n 2, 1, 2, 0, 0, 0, [], j0m), 
  (.iload_n 2, 1, 2, 0, 0, 0, [], j0m), (.aload_n 0, 1, 0, 0, 0, 0, [], j0m), (.getfield 169, 3, 12, 10, 0, 10, [6201], j0m), j0, j0, (.if_icmp .ge 104, 3, 0, 176, 0, 0, [], j0m), j0, j0, (.iload_n 1, 1, 1, 0, 0, 0, [], j0m), 
  (.aload_n 0, 1, 0, 0, 0, 0, [], j0m), (.getfield 40, 3, 12, 9, 0, 9, [6200], j0m), j0, j0, (.bipush 21, 2, 0, 0, 0, 0, [], j0m), j0, (.iload_n 2, 1, 2, 0, 0, 0, [], j0m), (.imul, 1, 0, 0, 0, 0, [], j0m), 
  (.iaload, 1, 0, 0, 0, 0, [], j0m), (.if_icmp .gt 7, 3, 0, 92, 0, 0, [], j0m), j0, j0, (.iconst 1, 1, 0, 0, 0, 0, [], j0m), (.goto 4, 3, 0, 93, 0, 0, [], j0m), j0, j0, (.iconst 0, 1, 0, 0, 0, 0, [], j0m), 
  (.istore_n 3, 1, 3, 0, 0, 0, [], j0m), (.iconst 0, 1, 0, 0, 0, 0, [], j0m), (.istore 4, 2, 4, 0, 0, 0, [], j0m), j0, (.iload 4, 2, 4, 0, 0, 0, [], j0m), j0, (.iload_n 1, 1, 1, 0, 0, 0, [], j0m), (.if_icmp .ge 43, 3, 0, 143, 0, 0, [], j0m), 
  j0, j0, (.iload_n 3, 1, 3, 0, 0, 0, [], j0m), (.ifCond .eq 39, 3, 0, 143, 0, 0, [], j0m), j0, j0, (.aload_n 0, 1, 0, 0, 0, 0, [], j0m), (.getfield 40, 3, 12, 9, 0, 9, [6200], j0m), j0, j0, (.bipush 21, 2, 0, 0, 0, 0, [], j0m), 
  j0, (.iload_n 2, 1, 2, 0, 0, 0, [], j0m), (.imul, 1, 0, 0, 0, 0, [], j0m), (.iconst 1, 1, 0, 0, 0, 0, [], j0m), (.iadd, 1, 0, 0, 0, 0, [], j0m), (.iload 4, 2, 4, 0, 0, 0, [], j0m), j0, (.iadd, 1, 0, 0, 0, 0, [], j0m), 
  (.iaload, 1, 0, 0, 0, 0, [], j0m), (.aload_n 0, 1, 0, 0, 0, 0, [], j0m), (.getfield 104, 3, 12, 44, 0, 44, [6235], j0m), j0, j0, (.iload 4, 2, 4, 0, 0, 0, [], j0m), j0, (.iaload, 1, 0, 0, 0, 0, [], j0m), 
  (.if_icmp .ne 7, 3, 0, 135, 0, 0, [], j0m), j0, j0, (.iconst 1, 1, 0, 0, 0, 0, [], j0m), (.goto 4, 3, 0, 136, 0, 0, [], j0m), j0, j0, (.iconst 0, 1, 0, 0, 0, 0, [], j0m), (.istore_n 3, 1, 3, 0, 0, 0, [], j0m), 
  (.iinc 4 1, 3, 4, 0, 0, 0, [], j0m), j0, j0, (.goto (-43), 3, 0, 97, 0, 0, [], j0m), j0, j0, (.iload_n 3, 1, 3, 0, 0, 0, [], j0m), (.ifCond .ne 6, 3, 0, 150, 0, 0, [], j0m), j0, j0, (.goto 23, 3, 0, 170, 0, 0, [], j0m), 
  j0, j0, (.aload_n 0, 1, 0, 0, 0, 0, [], j0m), (.getfield 101, 3, 12, 42, 0, 42, [6233], j0m), j0, j0, (.aload_n 0, 1, 0, 0, 0, 0, [], j0m), (.getfield 458, 3, 12, 43, 0, 43, [6234], j0m), j0, j0, (.iload_n 2, 1, 2, 0, 0, 0, [], j0m), 
  (.iastore, 1, 0, 0, 0, 0, [], j0m), (.aload_n 0, 1, 0, 0, 0, 0, [], j0m), (.dup, 1, 0, 0, 0, 0, [], j0m), (.getfield 458, 3, 12, 43, 0, 43, [6234], j0m), j0, j0, (.iconst 1, 1, 0, 0, 0, 0, [], j0m), 
  (.iadd, 1, 0, 0, 0, 0, [], j0m), (.putfield 458, 3, 12, 43, 0, 43, [6234], j0m), j0, j0, (.iinc 2 1, 3, 2, 0, 0, 0, [], j0m), j0, j0, (.goto (-106), 3, 0, 67, 0, 0, [], j0m), j0, j0, (.aload_n 0, 1, 0, 0, 0, 0, [], j0m), 
  (.getfield 458, 3, 12, 43, 0, 43, [6234], j0m), j0, j0, (.ireturn, 1, 0, 0, 0, 0, [], j0m)]
set_option maxRecDepth 20000 in
theorem t_Model_begins : okT m_Model_begins k_Model_begins = true := by decide +kernel
def k_Model_begun : List jO := [
  (.iload_n 1, 1, 1, 0, 0, 0, [], j0m), (.i2l, 1, 0, 0, 0, 0, [], j0m), (.lconst 0, 1, 0, 0, 0, 0, [], j0m), (.aload_n 0, 1, 0, 0, 0, 0, [], j0m), (.getfield 458, 3, 12, 43, 0, 43, [6234], j0m), j0, j0, 
  (.iconst 1, 1, 0, 0, 0, 0, [], j0m), (.isub, 1, 0, 0, 0, 0, [], j0m), (.i2l, 1, 0, 0, 0, 0, [], j0m), (.invokestatic 130, 3, 0, 3, 0, 0, [7110, 7111, 1015, 7112], m_Model_in), j0, j0, (.ifCond .eq 12, 3, 0, 25, 0, 0, [], j0m), 
  j0, j0, (.aload_n 0, 1, 0, 0, 0, 0, [], j0m), (.getfield 101, 3, 12, 42, 0, 42, [6233], j0m), j0, j0, (.iload_n 1, 1, 1, 0, 0, 0, [], j0m), (.iaload, 1, 0, 0, 0, 0, [], j0m), (.goto 4, 3, 0, 26, 0, 0, [], j0m), 
  j0, j0, (.iconst (-1), 1, 0, 0, 0, 0, [], j0m), (.ireturn, 1, 0, 0, 0, 0, [], j0m)]
set_option maxRecDepth 20000 in
theorem t_Model_begun : okT m_Model_begun k_Model_begun = true := by decide +kernel
def k_Model_print : List jO := [
  (.iload_n 1, 1, 1, 0, 0, 0, [], j0m), (.invokestatic 308, 3, 0, 1, 0, 0, [7212, 7213, 1015, 7214], m_Model_isEdition), j0, j0, (.ifCond .eq 17, 3, 0, 21, 0, 0, [], j0m), j0, j0, (.iload_n 2, 1, 2, 0, 0, 0, [], j0m), 
  (.i2l, 1, 0, 0, 0, 0, [], j0m), (.ldc2_w 461, 3, 0, 0, 0, 5, [8226], j0m), j0, j0, (.ldc2_w 463, 3, 0, 0, 0, 100, [8227], j0m), j0, j0, (.invokestatic 130, 3, 0, 3, 0, 0, [7110, 7111, 1015, 7112], m_Model_in), 
  j0, j0, (.ifCond .ne 6, 3, 0, 24, 0, 0, [], j0m), j0, j0, (.bipush (-2), 2, 0, 0, 0, 0, [], j0m), j0, (.ireturn, 1, 0, 0, 0, 0, [], j0m), (.aload_n 0, 1, 0, 0, 0, 0, [], j0m), (.aload_n 0, 1, 0, 0, 0, 0, [], j0m), 
  (.getfield 169, 3, 12, 10, 0, 10, [6201], j0m), j0, j0, (.putfield 465, 3, 12, 46, 0, 46, [6237], j0m), j0, j0, (.iconst (-1), 1, 0, 0, 0, 0, [], j0m), (.istore_n 3, 1, 3, 0, 0, 0, [], j0m), (.iconst 0, 1, 0, 0, 0, 0, [], j0m), 
  (.istore 4, 2, 4, 0, 0, 0, [], j0m), j0, (.iconst 0, 1, 0, 0, 0, 0, [], j0m), (.istore 5, 2, 5, 0, 0, 0, [], j0m), j0, (.iload 5, 2, 5, 0, 0, 0, [], j0m), j0, (.aload_n 0, 1, 0, 0, 0, 0, [], j0m), (.getfield 169, 3, 12, 10, 0, 10, [6201], j0m), 
  j0, j0, (.if_icmp .ge 120, 3, 0, 166, 0, 0, [], j0m), j0, j0, (.aload_n 0, 1, 0, 0, 0, 0, [], j0m), (.getfield 43, 3, 12, 11, 0, 11, [6202], j0m), j0, j0, (.iload 5, 2, 5, 0, 0, 0, [], j0m), j0, (.iaload, 1, 0, 0, 0, 0, [], j0m), 
  (.istore 6, 2, 6, 0, 0, 0, [], j0m), j0, (.aload_n 0, 1, 0, 0, 0, 0, [], j0m), (.iload_n 1, 1, 1, 0, 0, 0, [], j0m), (.iload 6, 2, 6, 0, 0, 0, [], j0m), j0, (.invokevirtual 321, 3, 12, 3, 1, 0, [8007, 8009, 85, 1015, 8010], m_Model_manyOf), 
  j0, j0, (.istore 7, 2, 7, 0, 0, 0, [], j0m), j0, (.aload_n 0, 1, 0, 0, 0, 0, [], j0m), (.getfield 107, 3, 12, 45, 0, 45, [6236], j0m), j0, j0, (.iload 6, 2, 6, 0, 0, 0, [], j0m), j0, (.iconst (-1), 1, 0, 0, 0, 0, [], j0m), 
  (.iastore, 1, 0, 0, 0, 0, [], j0m), (.iload 7, 2, 7, 0, 0, 0, [], j0m), j0, (.ifCond .eq 83, 3, 0, 160, 0, 0, [], j0m), j0, j0, (.aload_n 0, 1, 0, 0, 0, 0, [], j0m), (.iload 6, 2, 6, 0, 0, 0, [], j0m), 
  j0, (.invokevirtual 336, 3, 12, 2, 1, 0, [8035, 8037, 89, 1015, 8038], m_Model_isStop), j0, j0, (.ifCond .eq 6, 3, 0, 92, 0, 0, [], j0m), j0, j0, (.goto 71, 3, 0, 160, 0, 0, [], j0m), j0, j0, (.iconst 1, 1, 0, 0, 0, 0, [], j0m), 
  (.iload 7, 2, 7, 0, 0, 0, [], j0m), j0, (.iconst 5, 1, 0, 0, 0, 0, [], j0m), (.iadd, 1, 0, 0, 0, 0, [], j0m), (.bipush 6, 2, 0, 0, 0, 0, [], j0m), j0, (.idiv, 1, 0, 0, 0, 0, [], j0m), (.iadd, 1, 0, 0, 0, 0, [], j0m), 
  (.istore 8, 2, 8, 0, 0, 0, [], j0m), j0, (.iload 8, 2, 8, 0, 0, 0, [], j0m), j0, (.iload 4, 2, 4, 0, 0, 0, [], j0m), j0, (.if_icmp .le 15, 3, 0, 122, 0, 0, [], j0m), j0, j0, (.iload 4, 2, 4, 0, 0, 0, [], j0m), 
  j0, (.iload_n 2, 1, 2, 0, 0, 0, [], j0m), (.if_icmp .ge 9, 3, 0, 122, 0, 0, [], j0m), j0, j0, (.iinc 3 1, 3, 3, 0, 0, 0, [], j0m), j0, j0, (.iload_n 2, 1, 2, 0, 0, 0, [], j0m), (.istore 4, 2, 4, 0, 0, 0, [], j0m), 
  j0, (.aload_n 0, 1, 0, 0, 0, 0, [], j0m), (.getfield 107, 3, 12, 45, 0, 45, [6236], j0m), j0, j0, (.iload 6, 2, 6, 0, 0, 0, [], j0m), j0, (.iload_n 3, 1, 3, 0, 0, 0, [], j0m), (.iastore, 1, 0, 0, 0, 0, [], j0m), 
  (.iload 8, 2, 8, 0, 0, 0, [], j0m), j0, (.iload 4, 2, 4, 0, 0, 0, [], j0m), j0, (.if_icmp .le 19, 3, 0, 153, 0, 0, [], j0m), j0, j0, (.iload 8, 2, 8, 0, 0, 0, [], j0m), j0, (.iload 4, 2, 4, 0, 0, 0, [], j0m), 
  j0, (.isub, 1, 0, 0, 0, 0, [], j0m), (.istore 8, 2, 8, 0, 0, 0, [], j0m), j0, (.iinc 3 1, 3, 3, 0, 0, 0, [], j0m), j0, j0, (.iload_n 2, 1, 2, 0, 0, 0, [], j0m), (.istore 4, 2, 4, 0, 0, 0, [], j0m), j0, 
  (.goto (-20), 3, 0, 130, 0, 0, [], j0m), j0, j0, (.iload 4, 2, 4, 0, 0, 0, [], j0m), j0, (.iload 8, 2, 8, 0, 0, 0, [], j0m), j0, (.isub, 1, 0, 0, 0, 0, [], j0m), (.istore 4, 2, 4, 0, 0, 0, [], j0m), 
  j0, (.iinc 5 1, 3, 5, 0, 0, 0, [], j0m), j0, j0, (.goto (-123), 3, 0, 40, 0, 0, [], j0m), j0, j0, (.iload_n 3, 1, 3, 0, 0, 0, [], j0m), (.iconst 1, 1, 0, 0, 0, 0, [], j0m), (.iadd, 1, 0, 0, 0, 0, [], j0m), 
  (.ireturn, 1, 0, 0, 0, 0, [], j0m)]
set_option maxRecDepth 20000 in
theorem t_Model_print : okT m_Model_print k_Model_print = true := by decide +kernel
def k_Model_page : List jO := [
  (.iload_n 1, 1, 1, 0, 0, 0, [], j0m), (.i2l, 1, 0, 0, 0, 0, [], j0m), (.lconst 0, 1, 0, 0, 0, 0, [], j0m), (.aload_n 0, 1, 0, 0, 0, 0, [], j0m), (.getfield 465, 3, 12, 46, 0, 46, [6237], j0m), j0, j0, 
  (.iconst 1, 1, 0, 0, 0, 0, [], j0m), (.isub, 1, 0, 0, 0, 0, [], j0m), (.i2l, 1, 0, 0, 0, 0, [], j0m), (.invokestatic 130, 3, 0, 3, 0, 0, [7110, 7111, 1015, 7112], m_Model_in), j0, j0, (.ifCond .eq 12, 3, 0, 25, 0, 0, [], j0m), 
  j0, j0, (.aload_n 0, 1, 0, 0, 0, 0, [], j0m), (.getfield 107, 3, 12, 45, 0, 45, [6236], j0m), j0, j0, (.iload_n 1, 1, 1, 0, 0, 0, [], j0m), (.iaload, 1, 0, 0, 0, 0, [], j0m), (.goto 4, 3, 0, 26, 0, 0, [], j0m), 
  j0, j0, (.iconst (-1), 1, 0, 0, 0, 0, [], j0m), (.ireturn, 1, 0, 0, 0, 0, [], j0m)]
set_option maxRecDepth 20000 in
theorem t_Model_page : okT m_Model_page k_Model_page = true := by decide +kernel
def k_Model_count : List jO := [
  (.iconst 0, 1, 0, 0, 0, 0, [], j0m), (.istore_n 2, 1, 2, 0, 0, 0, [], j0m), (.iload_n 1, 1, 1, 0, 0, 0, [], j0m), (.tableswitch 194 0 8 #[49, 61, 75, 82, 89, 96, 101, 125, 158], 49, 0, 0, 0, 0, [], j0m), 
  j0, j0, j0, j0, j0, j0, j0, j0, j0, j0, j0, j0, j0, j0, j0, j0, j0, j0, j0, j0, j0, j0, j0, j0, j0, j0, j0, j0, j0, j0, j0, j0, j0, j0, j0, j0, j0, j0, j0, j0, j0, j0, j0, j0, j0, j0, j0, j0, (.aload_n 0, 1, 0, 0, 0, 0, [], j0m), 
  (.iconst 0, 1, 0, 0, 0, 0, [], j0m), (.invokevirtual 148, 3, 12, 2, 1, 0, [6144, 6146, 57, 1015, 6147], m_Model_linesOf), j0, j0, (.aload_n 0, 1, 0, 0, 0, 0, [], j0m), (.iconst 1, 1, 0, 0, 0, 0, [], j0m), 
  (.invokevirtual 148, 3, 12, 2, 1, 0, [6144, 6146, 57, 1015, 6147], m_Model_linesOf), j0, j0, (.iadd, 1, 0, 0, 0, 0, [], j0m), (.ireturn, 1, 0, 0, 0, 0, [], j0m), (.aload_n 0, 1, 0, 0, 0, 0, [], j0m), 
  (.getfield 25, 3, 12, 4, 0, 4, [6195], j0m), j0, j0, (.iconst 0, 1, 0, 0, 0, 0, [], j0m), (.iaload, 1, 0, 0, 0, 0, [], j0m), (.aload_n 0, 1, 0, 0, 0, 0, [], j0m), (.getfield 25, 3, 12, 4, 0, 4, [6195], j0m), 
  j0, j0, (.iconst 1, 1, 0, 0, 0, 0, [], j0m), (.iaload, 1, 0, 0, 0, 0, [], j0m), (.iadd, 1, 0, 0, 0, 0, [], j0m), (.ireturn, 1, 0, 0, 0, 0, [], j0m), (.aload_n 0, 1, 0, 0, 0, 0, [], j0m), (.getfield 13, 3, 12, 1, 0, 1, [6192], j0m), 
  j0, j0, (.iconst 0, 1, 0, 0, 0, 0, [], j0m), (.iaload, 1, 0, 0, 0, 0, [], j0m), (.ireturn, 1, 0, 0, 0, 0, [], j0m), (.aload_n 0, 1, 0, 0, 0, 0, [], j0m), (.getfield 13, 3, 12, 1, 0, 1, [6192], j0m), 
  j0, j0, (.iconst 1, 1, 0, 0, 0, 0, [], j0m), (.iaload, 1, 0, 0, 0, 0, [], j0m), (.ireturn, 1, 0, 0, 0, 0, [], j0m), (.aload_n 0, 1, 0, 0, 0, 0, [], j0m), (.getfield 13, 3, 12, 1, 0, 1, [6192], j0m), 
  j0, j0, (.iconst 2, 1, 0, 0, 0, 0, [], j0m), (.iaload, 1, 0, 0, 0, 0, [], j0m), (.ireturn, 1, 0, 0, 0, 0, [], j0m), (.aload_n 0, 1, 0, 0, 0, 0, [], j0m), (.getfield 194, 3, 12, 15, 0, 15, [6206], j0m), 
  j0, j0, (.ireturn, 1, 0, 0, 0, 0, [], j0m), (.iconst 0, 1, 0, 0, 0, 0, [], j0m), (.istore_n 3, 1, 3, 0, 0, 0, [], j0m), (.iload_n 3, 1, 3, 0, 0, 0, [], j0m), (.iconst 4, 1, 0, 0, 0, 0, [], j0m), (.if_icmp .ge 18, 3, 0, 126, 0, 0, [], j0m), 
  j0, j0, (.iload_n 2, 1, 2, 0, 0, 0, [], j0m), (.aload_n 0, 1, 0, 0, 0, 0, [], j0m), (.iload_n 3, 1, 3, 0, 0, 0, [], j0m), (.iconst 0, 1, 0, 0, 0, 0, [], j0m), (.invokevirtual 468, 3, 12, 3, 1, 0, [8236, 8183, 8184, 1015, 8185], m_Model_hand), 
  j0, j0, (.iadd, 1, 0, 0, 0, 0, [], j0m), (.istore_n 2, 1, 2, 0, 0, 0, [], j0m), (.iinc 3 1, 3, 3, 0, 0, 0, [], j0m), j0, j0, (.goto (-17), 3, 0, 106, 0, 0, [], j0m), j0, j0, (.iload_n 2, 1, 2, 0, 0, 0, [], j0m), 
  (.ireturn, 1, 0, 0, 0, 0, [], j0m), (.iconst 0, 1, 0, 0, 0, 0, [], j0m), (.istore_n 3, 1, 3, 0, 0, 0, [], j0m), (.iload_n 3, 1, 3, 0, 0, 0, [], j0m), (.iconst 4, 1, 0, 0, 0, 0, [], j0m), (.if_icmp .ge 27, 3, 0, 159, 0, 0, [], j0m), 
  j0, j0, (.iload_n 2, 1, 2, 0, 0, 0, [], j0m), (.aload_n 0, 1, 0, 0, 0, 0, [], j0m), (.getfield 110, 3, 12, 47, 0, 47, [6238], j0m), j0, j0, (.iload_n 3, 1, 3, 0, 0, 0, [], j0m), (.iaload, 1, 0, 0, 0, 0, [], j0m), 
  (.iconst (-1), 1, 0, 0, 0, 0, [], j0m), (.if_icmp .ne 7, 3, 0, 150, 0, 0, [], j0m), j0, j0, (.iconst 0, 1, 0, 0, 0, 0, [], j0m), (.goto 4, 3, 0, 151, 0, 0, [], j0m), j0, j0, (.iconst 1, 1, 0, 0, 0, 0, [], j0m), 
  (.iadd, 1, 0, 0, 0, 0, [], j0m), (.istore_n 2, 1, 2, 0, 0, 0, [], j0m), (.iinc 3 1, 3, 3, 0, 0, 0, [], j0m), j0, j0, (.goto (-26), 3, 0, 130, 0, 0, [], j0m), j0, j0, (.iload_n 2, 1, 2, 0, 0, 0, [], j0m), 
  (.ireturn, 1, 0, 0, 0, 0, [], j0m), (.iconst 0, 1, 0, 0, 0, 0, [], j0m), (.istore_n 3, 1, 3, 0, 0, 0, [], j0m), (.iload_n 3, 1, 3, 0, 0, 0, [], j0m), (.bipush 26, 2, 0, 0, 0, 0, [], j0m), j0, (.if_icmp .ge 29, 3, 0, 195, 0, 0, [], j0m), 
  j0, j0, (.iload_n 2, 1, 2, 0, 0, 0, [], j0m), (.aload_n 0, 1, 0, 0, 0, 0, [], j0m), (.getfield 13, 3, 12, 1, 0, 1, [6192], j0m), j0, j0, (.iconst 5, 1, 0, 0, 0, 0, [], j0m), (.iload_n 3, 1, 3, 0, 0, 0, [], j0m), 
  (.iadd, 1, 0, 0, 0, 0, [], j0m), (.iaload, 1, 0, 0, 0, 0, [], j0m), (.iconst (-1), 1, 0, 0, 0, 0, [], j0m), (.if_icmp .ne 7, 3, 0, 186, 0, 0, [], j0m), j0, j0, (.iconst 0, 1, 0, 0, 0, 0, [], j0m), (.goto 4, 3, 0, 187, 0, 0, [], j0m), 
  j0, j0, (.iconst 1, 1, 0, 0, 0, 0, [], j0m), (.iadd, 1, 0, 0, 0, 0, [], j0m), (.istore_n 2, 1, 2, 0, 0, 0, [], j0m), (.iinc 3 1, 3, 3, 0, 0, 0, [], j0m), j0, j0, (.goto (-29), 3, 0, 163, 0, 0, [], j0m), 
  j0, j0, (.iload_n 2, 1, 2, 0, 0, 0, [], j0m), (.ireturn, 1, 0, 0, 0, 0, [], j0m), (.iconst (-1), 1, 0, 0, 0, 0, [], j0m), (.ireturn, 1, 0, 0, 0, 0, [], j0m)]
set_option maxRecDepth 20000 in
theorem t_Model_count : okT m_Model_count k_Model_count = true := by decide +kernel
def k_Model_row : List jO := [
  (.iload_n 1, 1, 1, 0, 0, 0, [], j0m), (.invokestatic 317, 3, 0, 1, 0, 0, [7238, 7239, 1015, 8000], m_Model_isSlot), j0, j0, (.ifCond .eq 21, 3, 0, 25, 0, 0, [], j0m), j0, j0, (.iload_n 2, 1, 2, 0, 0, 0, [], j0m), 
  (.i2l, 1, 0, 0, 0, 0, [], j0m), (.lconst 0, 1, 0, 0, 0, 0, [], j0m), (.ldc2_w 328, 3, 0, 0, 0, 3, [8001], j0m), j0, j0, (.invokestatic 130, 3, 0, 3, 0, 0, [7110, 7111, 1015, 7112], m_Model_in), j0, j0, 
  (.ifCond .eq 9, 3, 0, 25, 0, 0, [], j0m), j0, j0, (.iload_n 3, 1, 3, 0, 0, 0, [], j0m), (.bipush 60, 2, 0, 0, 0, 0, [], j0m), j0, (.if_icmp .le 6, 3, 0, 28, 0, 0, [], j0m), j0, j0, (.bipush (-2), 2, 0, 0, 0, 0, [], j0m), 
  j0, (.ireturn, 1, 0, 0, 0, 0, [], j0m), (.iload_n 3, 1, 3, 0, 0, 0, [], j0m), (.ifCond .ge 6, 3, 0, 35, 0, 0, [], j0m), j0, j0, (.bipush (-3), 2, 0, 0, 0, 0, [], j0m), j0, (.ireturn, 1, 0, 0, 0, 0, [], j0m), 
  (.aload_n 0, 1, 0, 0, 0, 0, [], j0m), (.getfield 110, 3, 12, 47, 0, 47, [6238], j0m), j0, j0, (.iload_n 1, 1, 1, 0, 0, 0, [], j0m), (.iload_n 3, 1, 3, 0, 0, 0, [], j0m), (.iastore, 1, 0, 0, 0, 0, [], j0m), 
  (.aload_n 0, 1, 0, 0, 0, 0, [], j0m), (.getfield 113, 3, 12, 48, 0, 48, [6239], j0m), j0, j0, (.iload_n 1, 1, 1, 0, 0, 0, [], j0m), (.iload_n 2, 1, 2, 0, 0, 0, [], j0m), (.iastore, 1, 0, 0, 0, 0, [], j0m), 
  (.iconst 0, 1, 0, 0, 0, 0, [], j0m), (.istore 4, 2, 4, 0, 0, 0, [], j0m), j0, (.iload 4, 2, 4, 0, 0, 0, [], j0m), j0, (.bipush 60, 2, 0, 0, 0, 0, [], j0m), j0, (.if_icmp .ge 22, 3, 0, 78, 0, 0, [], j0m), 
  j0, j0, (.aload_n 0, 1, 0, 0, 0, 0, [], j0m), (.getfield 116, 3, 12, 49, 0, 49, [7000], j0m), j0, j0, (.bipush 60, 2, 0, 0, 0, 0, [], j0m), j0, (.iload_n 1, 1, 1, 0, 0, 0, [], j0m), (.imul, 1, 0, 0, 0, 0, [], j0m), 
  (.iload 4, 2, 4, 0, 0, 0, [], j0m), j0, (.iadd, 1, 0, 0, 0, 0, [], j0m), (.lconst 0, 1, 0, 0, 0, 0, [], j0m), (.lastore, 1, 0, 0, 0, 0, [], j0m), (.iinc 4 1, 3, 4, 0, 0, 0, [], j0m), j0, j0, (.goto (-23), 3, 0, 52, 0, 0, [], j0m), 
  j0, j0, (.iconst 0, 1, 0, 0, 0, 0, [], j0m), (.ireturn, 1, 0, 0, 0, 0, [], j0m)]
set_option maxRecDepth 20000 in
theorem t_Model_row : okT m_Model_row k_Model_row = true := by decide +kernel
def k_Model_write : List jO := [
  (.iload_n 1, 1, 1, 0, 0, 0, [], j0m), (.invokestatic 317, 3, 0, 1, 0, 0, [7238, 7239, 1015, 8000], m_Model_isSlot), j0, j0, (.ifCond .ne 6, 3, 0, 10, 0, 0, [], j0m), j0, j0, (.bipush (-2), 2, 0, 0, 0, 0, [], j0m), 
  j0, (.ireturn, 1, 0, 0, 0, 0, [], j0m), (.aload_n 0, 1, 0, 0, 0, 0, [], j0m), (.getfield 110, 3, 12, 47, 0, 47, [6238], j0m), j0, j0, (.iload_n 1, 1, 1, 0, 0, 0, [], j0m), (.iaload, 1, 0, 0, 0, 0, [], j0m), 
  (.iconst (-1), 1, 0, 0, 0, 0, [], j0m), (.if_icmp .ne 6, 3, 0, 23, 0, 0, [], j0m), j0, j0, (.bipush (-6), 2, 0, 0, 0, 0, [], j0m), j0, (.ireturn, 1, 0, 0, 0, 0, [], j0m), (.iload_n 2, 1, 2, 0, 0, 0, [], j0m), 
  (.i2l, 1, 0, 0, 0, 0, [], j0m), (.lconst 0, 1, 0, 0, 0, 0, [], j0m), (.aload_n 0, 1, 0, 0, 0, 0, [], j0m), (.getfield 110, 3, 12, 47, 0, 47, [6238], j0m), j0, j0, (.iload_n 1, 1, 1, 0, 0, 0, [], j0m), 
  (.iaload, 1, 0, 0, 0, 0, [], j0m), (.iconst 1, 1, 0, 0, 0, 0, [], j0m), (.isub, 1, 0, 0, 0, 0, [], j0m), (.i2l, 1, 0, 0, 0, 0, [], j0m), (.invokestatic 130, 3, 0, 3, 0, 0, [7110, 7111, 1015, 7112], m_Model_in), 
  j0, j0, (.ifCond .ne 6, 3, 0, 44, 0, 0, [], j0m), j0, j0, (.bipush (-7), 2, 0, 0, 0, 0, [], j0m), j0, (.ireturn, 1, 0, 0, 0, 0, [], j0m), (.aload_n 0, 1, 0, 0, 0, 0, [], j0m), (.getfield 116, 3, 12, 49, 0, 49, [7000], j0m), 
  j0, j0, (.bipush 60, 2, 0, 0, 0, 0, [], j0m), j0, (.iload_n 1, 1, 1, 0, 0, 0, [], j0m), (.imul, 1, 0, 0, 0, 0, [], j0m), (.iload_n 2, 1, 2, 0, 0, 0, [], j0m), (.iadd, 1, 0, 0, 0, 0, [], j0m), (.lload_n 3, 1, 3, 0, 0, 0, [], j0m), 
  (.aload_n 0, 1, 0, 0, 0, 0, [], j0m), (.getfield 113, 3, 12, 48, 0, 48, [6239], j0m), j0, j0, (.iload_n 1, 1, 1, 0, 0, 0, [], j0m), (.iaload, 1, 0, 0, 0, 0, [], j0m), (.invokestatic 471, 3, 0, 2, 0, 0, [9005, 9006, 1015, 9007], m_Model_cut), 
  j0, j0, (.lastore, 1, 0, 0, 0, 0, [], j0m), (.iconst 0, 1, 0, 0, 0, 0, [], j0m), (.ireturn, 1, 0, 0, 0, 0, [], j0m)]
set_option maxRecDepth 20000 in
theorem t_Model_write : okT m_Model_write k_Model_write = true := by decide +kernel
def k_Model_cut : List jO := [
  (.bipush 64, 2, 0, 0, 0, 0, [], j0m), j0, (.bipush 8, 2, 0, 0, 0, 0, [], j0m), j0, (.iload_n 2, 1, 2, 0, 0, 0, [], j0m), (.ishl, 1, 0, 0, 0, 0, [], j0m), (.isub, 1, 0, 0, 0, 0, [], j0m), (.istore_n 3, 1, 3, 0, 0, 0, [], j0m), 
  (.lload_n 0, 1, 0, 0, 0, 0, [], j0m), (.iload_n 3, 1, 3, 0, 0, 0, [], j0m), (.lshl, 1, 0, 0, 0, 0, [], j0m), (.iload_n 3, 1, 3, 0, 0, 0, [], j0m), (.lshr, 1, 0, 0, 0, 0, [], j0m), (.lreturn, 1, 0, 0, 0, 0, [], j0m)
  ]
set_option maxRecDepth 20000 in
theorem t_Model_cut : okT m_Model_cut k_Model_cut = true := by decide +kernel
def k_Model_paste : List jO := [
  (.iload_n 1, 1, 1, 0, 0, 0, [], j0m), (.invokestatic 317, 3, 0, 1, 0, 0, [7238, 7239, 1015, 8000], m_Model_isSlot), j0, j0, (.ifCond .eq 10, 3, 0, 14, 0, 0, [], j0m), j0, j0, (.iload_n 3, 1, 3, 0, 0, 0, [], j0m), 
  (.invokestatic 317, 3, 0, 1, 0, 0, [7238, 7239, 1015, 8000], m_Model_isSlot), j0, j0, (.ifCond .ne 6, 3, 0, 17, 0, 0, [], j0m), j0, j0, (.bipush (-2), 2, 0, 0, 0, 0, [], j0m), j0, (.ireturn, 1, 0, 0, 0, 0, [], j0m), 
  (.aload_n 0, 1, 0, 0, 0, 0, [], j0m), (.getfield 110, 3, 12, 47, 0, 47, [6238], j0m), j0, j0, (.iload_n 1, 1, 1, 0, 0, 0, [], j0m), (.iaload, 1, 0, 0, 0, 0, [], j0m), (.iconst (-1), 1, 0, 0, 0, 0, [], j0m), 
  (.if_icmp .eq 13, 3, 0, 37, 0, 0, [], j0m), j0, j0, (.aload_n 0, 1, 0, 0, 0, 0, [], j0m), (.getfield 110, 3, 12, 47, 0, 47, [6238], j0m), j0, j0, (.iload_n 3, 1, 3, 0, 0, 0, [], j0m), (.iaload, 1, 0, 0, 0, 0, [], j0m), 
  (.iconst (-1), 1, 0, 0, 0, 0, [], j0m), (.if_icmp .ne 6, 3, 0, 40, 0, 0, [], j0m), j0, j0, (.bipush (-6), 2, 0, 0, 0, 0, [], j0m), j0, (.ireturn, 1, 0, 0, 0, 0, [], j0m), (.aload_n 0, 1, 0, 0, 0, 0, [], j0m), 
  (.getfield 113, 3, 12, 48, 0, 48, [6239], j0m), j0, j0, (.iload_n 1, 1, 1, 0, 0, 0, [], j0m), (.iaload, 1, 0, 0, 0, 0, [], j0m), (.aload_n 0, 1, 0, 0, 0, 0, [], j0m), (.getfield 113, 3, 12, 48, 0, 48, [6239], j0m), 
  j0, j0, (.iload_n 3, 1, 3, 0, 0, 0, [], j0m), (.iaload, 1, 0, 0, 0, 0, [], j0m), (.if_icmp .eq 6, 3, 0, 58, 0, 0, [], j0m), j0, j0, (.bipush (-8), 2, 0, 0, 0, 0, [], j0m), j0, (.ireturn, 1, 0, 0, 0, 0, [], j0m), 
  (.iload_n 2, 1, 2, 0, 0, 0, [], j0m), (.ifCond .lt 48, 3, 0, 107, 0, 0, [], j0m), j0, j0, (.iload 4, 2, 4, 0, 0, 0, [], j0m), j0, (.ifCond .lt 43, 3, 0, 107, 0, 0, [], j0m), j0, j0, (.iload 5, 2, 5, 0, 0, 0, [], j0m), 
  j0, (.ifCond .lt 38, 3, 0, 107, 0, 0, [], j0m), j0, j0, (.iload_n 2, 1, 2, 0, 0, 0, [], j0m), (.i2l, 1, 0, 0, 0, 0, [], j0m), (.iload 5, 2, 5, 0, 0, 0, [], j0m), j0, (.i2l, 1, 0, 0, 0, 0, [], j0m), (.ladd, 1, 0, 0, 0, 0, [], j0m), 
  (.aload_n 0, 1, 0, 0, 0, 0, [], j0m), (.getfield 110, 3, 12, 47, 0, 47, [6238], j0m), j0, j0, (.iload_n 1, 1, 1, 0, 0, 0, [], j0m), (.iaload, 1, 0, 0, 0, 0, [], j0m), (.i2l, 1, 0, 0, 0, 0, [], j0m), 
  (.lcmp, 1, 0, 0, 0, 0, [], j0m), (.ifCond .gt 21, 3, 0, 107, 0, 0, [], j0m), j0, j0, (.iload 4, 2, 4, 0, 0, 0, [], j0m), j0, (.i2l, 1, 0, 0, 0, 0, [], j0m), (.iload 5, 2, 5, 0, 0, 0, [], j0m), j0, (.i2l, 1, 0, 0, 0, 0, [], j0m), 
  (.ladd, 1, 0, 0, 0, 0, [], j0m), (.aload_n 0, 1, 0, 0, 0, 0, [], j0m), (.getfield 110, 3, 12, 47, 0, 47, [6238], j0m), j0, j0, (.iload_n 3, 1, 3, 0, 0, 0, [], j0m), (.iaload, 1, 0, 0, 0, 0, [], j0m), 
  (.i2l, 1, 0, 0, 0, 0, [], j0m), (.lcmp, 1, 0, 0, 0, 0, [], j0m), (.ifCond .le 6, 3, 0, 110, 0, 0, [], j0m), j0, j0, (.bipush (-7), 2, 0, 0, 0, 0, [], j0m), j0, (.ireturn, 1, 0, 0, 0, 0, [], j0m), (.iconst 0, 1, 0, 0, 0, 0, [], j0m), 
  (.istore 6, 2, 6, 0, 0, 0, [], j0m), j0, (.iload 6, 2, 6, 0, 0, 0, [], j0m), j0, (.iload 5, 2, 5, 0, 0, 0, [], j0m), j0, (.if_icmp .ge 30, 3, 0, 147, 0, 0, [], j0m), j0, j0, (.aload_n 0, 1, 0, 0, 0, 0, [], j0m), 
  (.getfield 120, 3, 12, 50, 0, 50, [7001], j0m), j0, j0, (.iload 6, 2, 6, 0, 0, 0, [], j0m), j0, (.aload_n 0, 1, 0, 0, 0, 0, [], j0m), (.getfield 116, 3, 12, 49, 0, 49, [7000], j0m), j0, j0, (.bipush 60, 2, 0, 0, 0, 0, [], j0m), 
  j0, (.iload_n 1, 1, 1, 0, 0, 0, [], j0m), (.imul, 1, 0, 0, 0, 0, [], j0m), (.iload_n 2, 1, 2, 0, 0, 0, [], j0m), (.iadd, 1, 0, 0, 0, 0, [], j0m), (.iload 6, 2, 6, 0, 0, 0, [], j0m), j0, (.iadd, 1, 0, 0, 0, 0, [], j0m), 
  (.laload, 1, 0, 0, 0, 0, [], j0m), (.lastore, 1, 0, 0, 0, 0, [], j0m), (.iinc 6 1, 3, 6, 0, 0, 0, [], j0m), j0, j0, (.goto (-31), 3, 0, 113, 0, 0, [], j0m), j0, j0, (.iconst 0, 1, 0, 0, 0, 0, [], j0m), 
  (.istore 6, 2, 6, 0, 0, 0, [], j0m), j0, (.iload 6, 2, 6, 0, 0, 0, [], j0m), j0, (.iload 5, 2, 5, 0, 0, 0, [], j0m), j0, (.if_icmp .ge 31, 3, 0, 185, 0, 0, [], j0m), j0, j0, (.aload_n 0, 1, 0, 0, 0, 0, [], j0m), 
  (.getfield 116, 3, 12, 49, 0, 49, [7000], j0m), j0, j0, (.bipush 60, 2, 0, 0, 0, 0, [], j0m), j0, (.iload_n 3, 1, 3, 0, 0, 0, [], j0m), (.imul, 1, 0, 0, 0, 0, [], j0m), (.iload 4, 2, 4, 0, 0, 0, [], j0m), 
  j0, (.iadd, 1, 0, 0, 0, 0, [], j0m), (.iload 6, 2, 6, 0, 0, 0, [], j0m), j0, (.iadd, 1, 0, 0, 0, 0, [], j0m), (.aload_n 0, 1, 0, 0, 0, 0, [], j0m), (.getfield 120, 3, 12, 50, 0, 50, [7001], j0m), j0, 
  j0, (.iload 6, 2, 6, 0, 0, 0, [], j0m), j0, (.laload, 1, 0, 0, 0, 0, [], j0m), (.lastore, 1, 0, 0, 0, 0, [], j0m), (.iinc 6 1, 3, 6, 0, 0, 0, [], j0m), j0, j0, (.goto (-32), 3, 0, 150, 0, 0, [], j0m), 
  j0, j0, (.iconst 0, 1, 0, 0, 0, 0, [], j0m), (.ireturn, 1, 0, 0, 0, 0, [], j0m)]
set_option maxRecDepth 20000 in
theorem t_Model_paste : okT m_Model_paste k_Model_paste = true := by decide +kernel

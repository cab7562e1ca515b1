def xNW : List Jvm.Cond := [.methodLinkNest "WholeNumbers$Whole" 9 ⟨"WholeNumbers$Row", "<init>", "()V"⟩ "WholeNumbers", .methodLinkNest "WholeNumbers$Divider" 11 ⟨"WholeNumbers$Row", "<init>", "()V"⟩ "WholeNumbers", .methodLinkNest "WholeNumbers$Powers" 11 ⟨"WholeNumbers$Row", "<init>", "()V"⟩ "WholeNumbers", .methodLinkNest "WholeNumbers$Powers" 26 ⟨"WholeNumbers$Divider", "<init>", "()V"⟩ "WholeNumbers", .methodLinkNest "WholeNumbers$Roots" 9 ⟨"WholeNumbers$Row", "<init>", "()V"⟩ "WholeNumbers", .methodLinkNest "WholeNumbers$Roots" 21 ⟨"WholeNumbers$Divider", "<init>", "()V"⟩ "WholeNumbers", .methodLinkNest "WholeNumbers$Divisors" 11 ⟨"WholeNumbers$Row", "<init>", "()V"⟩ "WholeNumbers", .methodLinkNest "WholeNumbers$Divisors" 23 ⟨"WholeNumbers$Divider", "<init>", "()V"⟩ "WholeNumbers", .methodLinkNest "WholeNumbers$Page" 17 ⟨"WholeNumbers$Row", "<init>", "()V"⟩ "WholeNumbers", .methodLinkNest "WholeNumbers" 15 ⟨"WholeNumbers$Whole", "<init>", "()V"⟩ "WholeNumbers", .methodLinkNest "WholeNumbers" 22 ⟨"WholeNumbers$Row", "<init>", "()V"⟩ "WholeNumbers", .methodLinkNest "WholeNumbers" 32 ⟨"WholeNumbers$Divider", "<init>", "()V"⟩ "WholeNumbers", .methodLinkNest "WholeNumbers" 39 ⟨"WholeNumbers$Powers", "<init>", "()V"⟩ "WholeNumbers", .methodLinkNest "WholeNumbers" 46 ⟨"WholeNumbers$Roots", "<init>", "()V"⟩ "WholeNumbers", .methodLinkNest "WholeNumbers" 53 ⟨"WholeNumbers$Divisors", "<init>", "()V"⟩ "WholeNumbers", .methodLinkNest "WholeNumbers" 60 ⟨"WholeNumbers$Text", "<init>", "()V"⟩ "WholeNumbers", .methodLinkNest "WholeNumbers" 67 ⟨"WholeNumbers$Page", "<init>", "()V"⟩ "WholeNumbers", .methodLinkNest "WholeNumbers$Row" 29 ⟨"WholeNumbers", "bitsOf", "(I)I"⟩ "WholeNumbers", .methodLinkNest "WholeNumbers$Powers" 35 ⟨"WholeNumbers", "bitsOf", "(I)I"⟩ "WholeNumbers", .castable "java/lang/IllegalArgumentException" "java/lang/IllegalArgumentException", .castable "java/lang/UnsupportedOperationException" "java/lang/UnsupportedOperationException", .castable "java/lang/ArithmeticException" "java/lang/ArithmeticException", .declares ⟨"java/lang/RuntimeException", "<init>", "(Ljava/lang/String;)V"⟩, .declares ⟨"java/lang/Exception", "<init>", "(Ljava/lang/String;)V"⟩, .declares ⟨"java/lang/Throwable", "<init>", "(Ljava/lang/String;)V"⟩]
def xks : List Value := [.long 2147483647, .int 65536, .int 100000, .long (-1), .int 1431655765, .int 858993459, .int 252645135, .long 65535, .int 65535, .int 32768, .long 8192, .long 4294967295]
def xlt : List (List (Nat × Nat × Nat × Nat)) := [[(5, 3, 0, 0), (0, 9, 2, 0)],
  [(5, 1, 0, 0), (3, 7, 2, 0), (2, 9, 0, 0), (0, 10, 1, 0)],
  [(5, 3, 0, 0), (3, 9, 2, 0), (2, 11, 0, 0), (0, 12, 3, 0), (0, 18, 3, 1), (0, 21, 3, 2)],
  [(5, 3, 0, 0), (3, 9, 2, 0), (2, 11, 0, 0), (0, 12, 4, 0), (0, 18, 4, 1), (0, 21, 4, 2), (3, 24, 3, 0), (2, 26, 2, 0), (0, 27, 4, 3)],
  [(5, 1, 0, 0), (3, 7, 2, 0), (2, 9, 0, 0), (0, 10, 5, 0), (0, 16, 5, 1), (3, 19, 3, 0), (2, 21, 2, 0), (0, 22, 5, 2)],
  [(5, 3, 0, 0), (3, 9, 2, 0), (2, 11, 0, 0), (0, 12, 6, 0), (0, 18, 6, 1), (3, 21, 3, 0), (2, 23, 2, 0), (0, 24, 6, 2)],
  [(5, 3, 0, 0), (0, 9, 7, 0)],
  [(5, 3, 0, 0), (0, 9, 8, 0), (3, 15, 2, 0), (2, 17, 0, 0), (0, 18, 8, 1)],
  [(5, 1, 0, 0), (6, 9, 0, 0), (0, 11, 0, 0), (3, 9, 1, 0), (2, 15, 1, 0), (0, 16, 0, 1), (3, 20, 2, 0), (2, 22, 0, 0), (0, 23, 0, 2), (0, 27, 0, 3), (3, 30, 3, 0), (2, 32, 2, 0), (0, 33, 0, 4), (3, 37, 4, 0), (2, 39, 3, 0), (0, 40, 0, 5), (3, 44, 5, 0), (2, 46, 4, 0), (0, 47, 0, 6), (3, 51, 6, 0), (2, 53, 5, 0), (0, 54, 0, 7), (3, 58, 7, 0), (2, 60, 6, 0), (0, 61, 0, 8), (3, 65, 8, 0), (2, 67, 7, 0), (0, 68, 0, 9)],
  [(0, 15, 7, 1), (0, 9, 7, 0)],
  [(0, 61, 0, 8), (1, 232, 9, 0)],
  [(0, 22, 8, 2), (0, 9, 8, 0)],
  [(0, 68, 0, 9), (1, 255, 11, 0)],
  [(0, 15, 7, 1)],
  [(0, 61, 0, 8), (1, 245, 13, 0), (0, 68, 0, 9), (0, 252, 8, 2), (8, 258, 1, 0), (1, 255, 11, 0), (1, 232, 9, 0)],
  [(0, 11, 0, 0), (4, 206, 0, 0)],
  [(0, 9, 2, 0), (7, 15, 0, 0), (0, 17, 2, 1)],
  [(0, 17, 2, 1), (1, 25, 16, 0)],
  [(0, 9, 2, 0)],
  [(0, 17, 2, 1), (1, 21, 18, 0)],
  [(1, 47, 17, 0), (1, 25, 16, 0), (1, 44, 19, 0)],
  [(0, 10, 1, 0), (1, 28, 20, 0), (0, 20, 1, 1)],
  [(1, 72, 15, 0), (1, 76, 21, 0)],
  [(0, 17, 2, 1), (8, 38, 0, 0), (1, 21, 18, 0), (1, 25, 16, 0), (1, 44, 19, 0)],
  [(0, 17, 2, 1)],
  [(0, 10, 1, 0), (1, 32, 23, 0), (1, 16, 24, 0), (0, 20, 1, 1)],
  [(0, 10, 1, 0), (0, 20, 1, 1), (1, 24, 25, 0)],
  [(1, 72, 15, 0), (1, 80, 26, 0)],
  [(4, 206, 1, 0)],
  [(1, 47, 17, 0), (0, 17, 2, 1), (1, 21, 18, 0), (1, 25, 16, 0), (1, 44, 19, 0)],
  [(0, 10, 1, 0), (1, 46, 29, 0), (0, 20, 1, 1), (1, 16, 24, 0)],
  [(0, 17, 2, 1), (8, 38, 0, 0), (1, 21, 18, 0), (1, 25, 16, 0), (1, 44, 19, 0)],
  [(0, 17, 2, 1), (1, 21, 18, 0)],
  [(0, 17, 2, 1), (1, 21, 18, 0), (1, 25, 16, 0), (1, 44, 19, 0)],
  [(0, 20, 1, 1), (0, 10, 1, 0), (1, 24, 25, 0), (1, 36, 31, 0), (1, 39, 32, 0), (1, 32, 23, 0), (1, 43, 33, 0), (1, 16, 24, 0)],
  [(7, 264, 1, 0)],
  [(1, 265, 35, 0)],
  [(0, 17, 2, 1), (1, 21, 18, 0), (2, 29, 36, 0)],
  [(0, 16, 0, 1), (0, 110, 1, 0), (1, 179, 37, 0), (4, 183, 2, 0), (1, 80, 26, 0)],
  [(1, 72, 15, 0), (1, 84, 28, 0), (0, 16, 0, 1), (1, 88, 30, 0), (1, 92, 34, 0), (1, 96, 38, 0)],
  [(0, 10, 1, 0), (1, 16, 24, 0)],
  [(1, 47, 17, 0), (0, 17, 2, 1), (1, 21, 18, 0), (1, 25, 16, 0), (1, 44, 19, 0)],
  [(0, 21, 3, 2), (0, 24, 2, 1), (1, 61, 18, 0), (0, 18, 3, 1), (7, 64, 0, 0), (8, 66, 2, 0)],
  [(0, 21, 3, 2), (0, 24, 2, 1), (0, 18, 3, 1), (1, 61, 18, 0), (1, 51, 16, 0)],
  [(0, 21, 3, 2), (0, 24, 2, 1), (0, 18, 3, 1), (1, 61, 18, 0), (1, 51, 16, 0)],
  [(0, 17, 2, 1), (1, 21, 18, 0), (1, 25, 16, 0), (1, 44, 19, 0)],
  [(0, 24, 2, 1), (1, 28, 37, 0), (0, 12, 3, 0), (1, 32, 17, 0), (0, 18, 3, 1), (1, 35, 41, 0), (0, 21, 3, 2), (1, 39, 42, 0), (1, 43, 43, 0), (1, 47, 44, 0), (1, 51, 16, 0), (1, 55, 19, 0), (1, 58, 45, 0)],
  [(0, 17, 2, 1), (1, 21, 18, 0), (1, 25, 16, 0), (1, 44, 19, 0)],
  [(1, 72, 15, 0), (1, 84, 28, 0), (1, 99, 40, 0), (4, 103, 3, 0), (0, 33, 0, 4), (0, 110, 1, 0), (1, 113, 46, 0), (0, 117, 1, 1), (0, 121, 3, 1), (1, 124, 24, 0), (0, 125, 3, 0), (1, 128, 47, 0), (1, 132, 25, 0), (0, 23, 0, 2), (1, 136, 23, 0), (1, 139, 33, 0)],
  [(0, 10, 1, 0), (1, 32, 23, 0), (0, 20, 1, 1), (1, 50, 47, 0)],
  [],
  [(0, 10, 1, 0), (1, 32, 23, 0), (0, 20, 1, 1), (1, 50, 47, 0)],
  [(1, 72, 15, 0), (1, 84, 28, 0), (0, 23, 0, 2), (1, 142, 49, 0), (0, 27, 0, 3), (0, 117, 1, 1), (7, 145, 0, 0), (1, 147, 50, 0), (0, 151, 2, 1), (8, 155, 0, 0), (1, 161, 18, 0), (1, 165, 16, 0), (1, 169, 19, 0), (0, 16, 0, 1), (1, 172, 51, 0), (1, 96, 38, 0)],
  [(1, 72, 15, 0), (1, 84, 28, 0), (0, 23, 0, 2), (1, 142, 49, 0), (1, 175, 45, 0), (0, 117, 1, 1), (1, 172, 51, 0), (1, 99, 40, 0), (0, 110, 1, 0), (1, 179, 37, 0), (4, 183, 2, 0), (1, 188, 41, 0), (1, 132, 25, 0)],
  [(0, 21, 4, 2), (0, 12, 4, 0), (1, 43, 29, 0), (1, 47, 37, 0), (1, 51, 23, 0)],
  [(0, 12, 4, 0), (1, 31, 20, 0), (2, 35, 36, 0), (1, 39, 54, 0)],
  [(1, 72, 15, 0), (1, 84, 28, 0), (0, 40, 0, 5), (0, 110, 1, 0), (1, 192, 55, 0), (4, 183, 2, 0), (0, 196, 4, 0), (0, 117, 1, 1), (1, 132, 25, 0)],
  [(0, 16, 5, 1), (1, 26, 20, 0), (0, 10, 5, 0), (1, 30, 37, 0), (1, 34, 41, 0), (1, 38, 24, 0), (0, 22, 5, 2), (1, 42, 46, 0), (0, 46, 3, 0), (1, 49, 23, 0), (1, 53, 31, 0), (1, 56, 45, 0), (1, 60, 32, 0)],
  [(1, 72, 15, 0), (0, 117, 1, 1), (4, 103, 4, 0), (0, 47, 0, 6), (0, 110, 1, 0), (1, 201, 57, 0), (0, 203, 5, 0), (1, 132, 25, 0)],
  [(1, 21, 18, 0)],
  [(7, 88, 0, 0), (0, 75, 6, 3), (0, 78, 6, 5), (0, 44, 6, 4), (0, 81, 6, 6), (8, 90, 3, 0)],
  [(0, 12, 6, 0), (1, 61, 37, 0), (8, 65, 0, 0), (1, 71, 59, 0), (0, 18, 6, 1), (0, 75, 6, 3), (0, 44, 6, 4), (0, 78, 6, 5), (0, 81, 6, 6), (1, 84, 60, 0)],
  [(0, 24, 6, 2), (0, 12, 6, 0), (0, 18, 6, 1), (1, 54, 46, 0), (1, 32, 23, 0), (0, 58, 3, 1)],
  [(0, 12, 6, 0), (0, 94, 2, 1), (1, 98, 18, 0), (0, 18, 6, 1), (0, 75, 6, 3), (0, 44, 6, 4), (0, 78, 6, 5), (0, 81, 6, 6), (1, 101, 16, 0), (1, 105, 19, 0)],
  [(1, 28, 32, 0), (0, 12, 6, 0), (1, 32, 23, 0), (0, 18, 6, 1), (7, 36, 2, 0), (1, 37, 24, 0), (1, 41, 61, 0), (0, 44, 6, 4), (1, 48, 62, 0), (1, 51, 63, 0)],
  [(1, 72, 15, 0), (0, 54, 0, 7), (0, 110, 1, 0), (1, 204, 64, 0), (0, 205, 6, 0), (1, 132, 25, 0)],
  [(0, 21, 4, 2), (0, 12, 4, 0), (1, 43, 29, 0), (0, 27, 4, 3), (1, 60, 46, 0), (0, 63, 3, 1), (1, 51, 23, 0)],
  [(1, 21, 18, 0)],
  [(0, 27, 4, 3), (0, 55, 1, 0), (1, 60, 46, 0), (0, 18, 4, 1), (0, 63, 3, 1), (1, 51, 23, 0), (0, 66, 1, 1), (1, 70, 24, 0), (1, 74, 33, 0), (0, 12, 4, 0), (1, 31, 20, 0), (1, 47, 37, 0), (1, 77, 66, 0), (1, 80, 67, 0)],
  [(1, 72, 15, 0), (0, 23, 0, 2), (1, 142, 49, 0), (0, 27, 0, 3), (1, 179, 37, 0), (4, 206, 5, 0), (0, 117, 1, 1), (1, 99, 40, 0), (4, 103, 6, 0), (0, 40, 0, 5), (0, 110, 1, 0), (1, 213, 68, 0), (0, 196, 4, 0), (1, 132, 25, 0)],
  [(0, 20, 1, 1), (0, 10, 1, 0), (1, 39, 32, 0)],
  [(1, 72, 15, 0), (1, 217, 70, 0)],
  [(1, 72, 15, 0), (0, 23, 0, 2), (1, 142, 49, 0), (1, 161, 18, 0), (0, 117, 1, 1), (7, 221, 3, 0)],
  [(1, 72, 15, 0), (0, 23, 0, 2), (1, 142, 49, 0), (1, 179, 37, 0)],
  [(1, 72, 15, 0), (4, 206, 7, 0), (0, 23, 0, 2), (1, 142, 49, 0), (1, 225, 67, 0), (0, 117, 1, 1)],
  [(7, 265, 4, 0), (7, 266, 5, 0), (7, 267, 6, 0)],
  [(0, 17, 2, 1), (1, 21, 18, 0), (1, 33, 75, 0)],
  [(1, 72, 15, 0), (0, 23, 0, 2), (1, 142, 49, 0), (1, 229, 76, 0)],
  [(0, 15, 7, 1), (0, 9, 7, 0)],
  [(0, 9, 7, 0)],
  [(1, 19, 78, 0), (0, 15, 7, 1), (1, 23, 79, 0)],
  [(1, 27, 17, 0), (1, 19, 78, 0), (0, 15, 7, 1), (1, 23, 79, 0), (7, 32, 0, 0), (1, 34, 47, 0)],
  [(1, 72, 15, 0), (1, 84, 28, 0), (0, 61, 0, 8), (1, 235, 80, 0), (0, 23, 0, 2), (1, 239, 81, 0), (1, 179, 37, 0), (1, 242, 78, 0), (1, 132, 25, 0), (1, 245, 13, 0)],
  [(0, 22, 8, 2), (0, 9, 8, 0)],
  [(0, 17, 2, 1), (1, 21, 18, 0), (1, 25, 16, 0), (1, 44, 19, 0)],
  [(0, 18, 8, 1), (1, 35, 24, 0), (1, 39, 83, 0)],
  [(0, 22, 8, 2), (0, 18, 8, 1), (0, 26, 1, 0), (1, 31, 23, 0), (1, 35, 24, 0), (1, 39, 83, 0), (7, 43, 0, 0), (0, 9, 8, 0), (1, 45, 84, 0), (1, 49, 85, 0), (0, 53, 1, 1)],
  [(1, 72, 15, 0), (1, 84, 28, 0), (0, 68, 0, 9), (1, 248, 86, 0), (0, 252, 8, 2)],
  [(5, 1, 0, 0), (0, 7, 9, 1), (0, 13, 9, 2), (0, 16, 9, 3), (0, 19, 9, 4), (0, 22, 9, 5), (0, 25, 9, 6), (0, 28, 9, 7), (0, 31, 9, 8), (0, 34, 9, 9), (0, 37, 9, 10), (0, 40, 9, 11), (0, 43, 9, 13), (0, 46, 9, 15)],
  [(0, 49, 9, 0)],
  [],
  [],
  [(0, 7, 9, 1), (0, 13, 9, 2)],
  [(1, 88, 90, 0), (0, 49, 9, 0), (0, 16, 9, 3), (7, 62, 7, 0), (1, 58, 91, 0), (1, 92, 92, 0)],
  [(0, 7, 9, 1)],
  [(1, 88, 90, 0), (0, 49, 9, 0), (0, 16, 9, 3), (1, 96, 94, 0), (0, 13, 9, 2), (1, 92, 92, 0)],
  [(0, 31, 9, 8), (7, 62, 7, 0), (1, 58, 91, 0)],
  [(0, 49, 9, 0), (1, 92, 92, 0)],
  [],
  [(1, 53, 98, 0), (7, 57, 8, 0), (1, 58, 91, 0)],
  [],
  [(1, 53, 98, 0), (7, 57, 8, 0), (1, 58, 91, 0)],
  [],
  [(0, 100, 9, 12), (0, 16, 9, 3), (0, 19, 9, 4), (1, 103, 99, 0), (1, 68, 100, 0), (1, 106, 101, 0), (1, 64, 102, 0)],
  [(1, 88, 90, 0), (0, 49, 9, 0), (0, 16, 9, 3), (1, 96, 94, 0), (0, 19, 9, 4), (1, 109, 96, 0), (0, 31, 9, 8), (0, 13, 9, 2), (1, 112, 97, 0), (1, 115, 103, 0), (0, 100, 9, 12)],
  [(1, 58, 91, 0)],
  [],
  [(7, 62, 7, 0)],
  [(0, 40, 9, 11), (0, 37, 9, 10), (1, 53, 98, 0), (7, 62, 7, 0), (7, 57, 8, 0)],
  [(0, 37, 9, 10), (1, 64, 102, 0), (0, 40, 9, 11), (0, 34, 9, 9), (1, 68, 100, 0), (1, 72, 105, 0), (1, 75, 106, 0), (7, 79, 9, 0), (1, 80, 107, 0), (1, 84, 108, 0), (1, 58, 91, 0)],
  [(7, 57, 8, 0)],
  [(1, 88, 90, 0), (0, 13, 9, 2), (0, 49, 9, 0), (0, 16, 9, 3), (1, 96, 94, 0), (0, 19, 9, 4), (1, 119, 109, 0), (0, 37, 9, 10), (0, 34, 9, 9), (1, 122, 110, 0), (1, 92, 92, 0), (1, 106, 101, 0)],
  [(7, 57, 8, 0), (1, 58, 91, 0)],
  [(1, 125, 112, 0), (7, 57, 8, 0)],
  [(1, 88, 90, 0), (0, 49, 9, 0), (0, 16, 9, 3), (1, 96, 94, 0), (0, 19, 9, 4), (0, 13, 9, 2), (1, 128, 113, 0), (7, 79, 9, 0), (7, 57, 8, 0), (1, 58, 91, 0), (1, 122, 110, 0), (1, 112, 97, 0)],
  [(1, 80, 107, 0)],
  [(1, 72, 105, 0)],
  [(1, 88, 90, 0), (0, 49, 9, 0), (0, 16, 9, 3), (1, 96, 94, 0), (1, 131, 115, 0), (1, 134, 116, 0), (0, 13, 9, 2), (1, 122, 110, 0), (1, 112, 97, 0)],
  [],
  [(1, 88, 90, 0), (0, 49, 9, 0), (0, 16, 9, 3), (1, 96, 94, 0), (1, 138, 118, 0), (7, 142, 10, 0), (0, 19, 9, 4), (1, 75, 106, 0), (1, 109, 96, 0), (0, 31, 9, 8), (1, 64, 102, 0), (0, 13, 9, 2), (1, 112, 97, 0)],
  [(1, 88, 90, 0), (0, 13, 9, 2), (0, 49, 9, 0), (0, 16, 9, 3), (1, 96, 94, 0), (0, 19, 9, 4), (1, 75, 106, 0), (1, 138, 118, 0), (1, 131, 115, 0), (1, 119, 109, 0), (0, 34, 9, 9), (0, 22, 9, 5), (1, 64, 102, 0), (1, 103, 99, 0), (1, 72, 105, 0), (1, 68, 100, 0), (1, 92, 92, 0)],
  [(1, 88, 90, 0), (0, 49, 9, 0), (0, 16, 9, 3), (1, 96, 94, 0), (0, 19, 9, 4), (1, 119, 109, 0), (1, 64, 102, 0), (0, 37, 9, 10), (1, 92, 92, 0)],
  [(0, 28, 9, 7), (1, 96, 94, 0), (0, 13, 9, 2), (1, 125, 112, 0), (1, 138, 118, 0)],
  [(1, 53, 98, 0)],
  [(1, 88, 90, 0), (1, 144, 122, 0), (0, 13, 9, 2), (0, 49, 9, 0), (0, 16, 9, 3), (1, 96, 94, 0), (0, 22, 9, 5), (0, 25, 9, 6), (1, 119, 109, 0), (0, 37, 9, 10), (1, 64, 102, 0), (0, 28, 9, 7), (1, 106, 101, 0), (0, 19, 9, 4), (1, 75, 106, 0), (1, 138, 118, 0), (1, 109, 96, 0), (0, 31, 9, 8), (1, 147, 123, 0), (1, 92, 92, 0)],
  [(1, 88, 90, 0), (0, 49, 9, 0), (0, 13, 9, 2), (0, 16, 9, 3), (1, 96, 94, 0), (0, 19, 9, 4), (1, 68, 100, 0)],
  [(1, 88, 90, 0), (0, 49, 9, 0), (0, 16, 9, 3), (1, 96, 94, 0), (1, 53, 98, 0), (0, 13, 9, 2)],
  [(1, 88, 90, 0), (0, 49, 9, 0), (1, 144, 122, 0)],
  [(1, 88, 90, 0), (0, 49, 9, 0), (1, 144, 122, 0), (0, 28, 9, 7), (1, 147, 123, 0), (0, 13, 9, 2)],
  [(1, 88, 90, 0), (0, 49, 9, 0), (1, 144, 122, 0), (0, 28, 9, 7), (1, 147, 123, 0)],
  [(0, 49, 9, 0), (0, 150, 9, 14), (0, 43, 9, 13)],
  [],
  [(1, 88, 90, 0), (0, 49, 9, 0), (0, 150, 9, 14), (0, 43, 9, 13), (1, 153, 131, 0), (0, 16, 9, 3), (1, 80, 107, 0), (1, 92, 92, 0)],
  [(0, 46, 9, 15), (0, 156, 9, 16)],
  [(1, 88, 90, 0), (0, 49, 9, 0), (0, 16, 9, 3), (1, 96, 94, 0), (0, 156, 9, 16), (7, 79, 9, 0), (1, 72, 105, 0), (1, 159, 133, 0), (0, 13, 9, 2), (0, 46, 9, 15)],
  [(0, 49, 9, 0), (0, 156, 9, 16), (0, 46, 9, 15)],
  [(0, 49, 9, 0), (0, 156, 9, 16), (0, 150, 9, 14), (0, 43, 9, 13), (0, 46, 9, 15)],
  [(1, 7, 22, 0)],
  [(1, 15, 27, 0)],
  [(1, 19, 39, 0)],
  [(1, 25, 48, 0)],
  [(1, 30, 52, 0)],
  [(1, 33, 53, 0)],
  [(1, 37, 56, 0)],
  [(1, 40, 58, 0)],
  [(1, 43, 65, 0)],
  [(1, 46, 69, 0)],
  [(1, 49, 71, 0)],
  [(1, 53, 72, 0)],
  [(1, 57, 73, 0)],
  [(1, 61, 74, 0)],
  [(1, 65, 77, 0)],
  [(1, 68, 82, 0)],
  [(1, 71, 87, 0)],
  [(3, 8, 0, 0), (1, 74, 8, 0), (3, 75, 9, 0), (1, 77, 88, 0), (7, 78, 11, 0), (1, 80, 137, 0), (1, 85, 93, 0), (1, 86, 89, 0), (1, 90, 138, 0), (1, 93, 95, 0), (1, 94, 139, 0), (1, 97, 104, 0), (1, 98, 140, 0), (1, 100, 111, 0), (1, 101, 141, 0), (1, 103, 114, 0), (1, 104, 142, 0), (1, 107, 117, 0), (1, 108, 143, 0), (1, 110, 119, 0), (1, 111, 144, 0), (1, 113, 120, 0), (1, 114, 145, 0), (1, 116, 121, 0), (1, 117, 146, 0), (1, 119, 124, 0), (1, 120, 147, 0), (1, 123, 125, 0), (1, 124, 148, 0), (1, 127, 126, 0), (1, 128, 149, 0), (1, 130, 127, 0), (1, 131, 150, 0), (1, 133, 128, 0), (1, 134, 151, 0), (1, 136, 129, 0), (1, 137, 10, 0), (1, 141, 130, 0), (1, 142, 152, 0), (1, 144, 132, 0), (1, 145, 153, 0), (1, 147, 134, 0), (1, 148, 12, 0), (1, 151, 135, 0), (1, 152, 14, 0), (1, 155, 136, 0)]]
def xkdt : List (Nat × Nat) := [(2, 0), (2, 0), (2, 0), (2, 0), (2, 0), (2, 0), (2, 0), (2, 0), (2, 0), (1, 1), (1, 1), (1, 1), (1, 1), (1, 0), (1, 0), (1, 1), (1, 2), (1, 0), (1, 1), (1, 0), (1, 1), (1, 1), (1, 2), (1, 1), (1, 0), (1, 2), (1, 1), (1, 2), (0, 3), (1, 2), (1, 2), (1, 1), (1, 1), (1, 1), (1, 3), (0, 1), (0, 1), (1, 0), (1, 1), (1, 4), (1, 0), (1, 2), (1, 1), (1, 2), (1, 1), (1, 1), (1, 2), (1, 2), (1, 4), (1, 1), (0, 3), (1, 2), (1, 4), (1, 3), (1, 1), (1, 2), (1, 3), (1, 1), (1, 2), (1, 1), (1, 1), (1, 0), (1, 0), (1, 0), (1, 2), (1, 3), (1, 2), (1, 1), (1, 3), (1, 4), (1, 1), (1, 2), (1, 1), (1, 1), (1, 2), (0, 1), (1, 0), (1, 1), (1, 0), (1, 1), (1, 1), (1, 2), (1, 2), (1, 1), (1, 1), (1, 3), (1, 2), (1, 2), (2, 0), (1, 0), (0, 1), (0, 1), (1, 3), (1, 2), (1, 2), (1, 2), (1, 2), (1, 3), (0, 2), (0, 2), (0, 2), (0, 2), (0, 2), (1, 2), (1, 4), (0, 2), (0, 2), (0, 3), (1, 1), (1, 2), (1, 1), (1, 4), (0, 1), (0, 3), (1, 4), (0, 2), (0, 2), (1, 3), (0, 1), (1, 3), (1, 2), (1, 3), (1, 1), (0, 2), (1, 4), (1, 2), (1, 1), (1, 1), (1, 2), (1, 1), (1, 1), (0, 1), (1, 2), (1, 1), (1, 2), (1, 1), (1, 0), (0, 3), (0, 3), (0, 5), (0, 5), (0, 5), (0, 4), (0, 4), (0, 3), (0, 4), (0, 5), (0, 4), (0, 3), (0, 3), (0, 4), (0, 3), (0, 4), (0, 4), (0, 1)]
/-! EVERY ENTRY OF THE TABLES IS WHAT THE STATEMENT SAYS: decided, method by method. -/
def xT : List Jvm.Cond := lw_tbl.filter goodWord
def xW (w : Jvm.Cond) : Bool := decide (w ∈ lw_tbl) && goodWord w
theorem xW_in {w : Jvm.Cond} (h : xW w = true) : w ∈ xT := by
  unfold xW at h
  rw [Bool.and_eq_true, decide_eq_true_eq] at h
  exact List.mem_filter.mpr h
def xgl {α : Type} (d : α) : List α → Nat → α
  | [], _ => d
  | m :: r, n => match n with
    | 0 => m
    | k + 1 => xgl d r k
def xln (y : Nat) : List (Nat × Nat × Nat × Nat) := xgl [] xlt y
def xkd (y : Nat) : Nat := (xgl (9, 0) xkdt y).1
def xpn (y : Nat) : Nat := (xgl (9, 0) xkdt y).2
def xow (y : Nat) : String := (xnm y).cls
def xcode (y : Nat) : Jvm.Cond := match xhh y with
  | [] => .code (xnm y) (xby y) (xml y) (xrt y)
  | h :: t => .codeWith (xnm y) (xby y) (xml y) (xrt y) (h :: t)
def xexn : List String := ["java/lang/RuntimeException", "java/lang/Exception"]
/-- what a throw wants: own class, link of the exception's class, the class, the text's link, the text, the constructor's link -/
def xtok (t : String × Nat × String × Nat × String × Nat) : Bool :=
  Bundle.fit t.2.2.1 && xexn.all Bundle.fit && xW (.classLink t.1 t.2.1 t.2.2.1) && xW (.initialized t.2.2.1) &&
  (vx_atS t.1 t.2.2.2.2.2 t.2.2.1 xexn).all (fun w => xW w || decide (w ∈ xNW)) &&
  (Jvm.Cond.classLink t.1 t.2.1 t.2.2.1 :: .initialized t.2.2.1 :: vx_atS t.1 t.2.2.2.2.2 t.2.2.1 xexn).all vx_ot
def xlok (y : Nat) (q : Nat × Nat × Nat × Nat) : Bool := match q.1 with
  | 0 => (match xcl[q.2.2.1]? with | some c => Nat.blt q.2.2.2 c.2.2 && xW (.fieldLink (xow y) q.2.1 (c.2.1 q.2.2.2).1 (c.2.1 q.2.2.2).2.1 (c.2.1 q.2.2.2).2.2.1) | none => false)
  | 1 => xW (.methodLink (xow y) q.2.1 (xnm q.2.2.1))
  | 2 => decide (Jvm.Cond.methodLinkNest (xow y) q.2.1 (xnm q.2.2.1) "WholeNumbers" ∈ xNW)
  | 3 => (match xcl[q.2.2.1]? with | some c => xW (.classLink (xow y) q.2.1 c.1) && xW (.instantiable c.1 c.2.2) && xW (.initialized c.1) | none => false)
  | 4 => (match xthr[q.2.2.1]? with | some t => decide (t.1 = xow y) && Nat.beq t.2.1 q.2.1 && xtok t | none => false)
  | 5 => xW (.methodLink (xow y) q.2.1 objectInit) && xW (.instanceMethod objectInit) && xW (.code objectInit ⟨#[0xb1]⟩ 1 none)
  | 6 => xW (.classLink (xow y) q.2.1 "WholeNumbers$Whole")
  | 8 => (match q.2.2.1 with
    | 0 => xW (.methodLink (xow y) q.2.1 Lib.Math.max.name) && xW (.static Lib.Math.max.name) && xW (.initialized "java/lang/Math") && xW (.code Lib.Math.max.name Lib.Math.max.code 2 (some .int))
    | 1 => xW (.methodLink (xow y) q.2.1 Lib.Math.min.name) && xW (.static Lib.Math.min.name) && xW (.initialized "java/lang/Math") && xW (.code Lib.Math.min.name Lib.Math.min.code 2 (some .int))
    | 2 => xW (.methodLink (xow y) q.2.1 Lib.MathLoose.min_long.x) && xW (.static Lib.MathLoose.min_long.x) && xW (.initialized "java/lang/Math") && xW (.code Lib.MathLoose.min_long.x Lib.MathLoose.min_long.code 4 (some .long))
    | 3 => xW (.methodLink (xow y) q.2.1 Lib.MathLoose.abs_long.x) && xW (.static Lib.MathLoose.abs_long.x) && xW (.initialized "java/lang/Math") && xW (.code Lib.MathLoose.abs_long.x Lib.MathLoose.abs_long.code 2 (some .long))
    | _ => false)
  | 7 => (match xks[q.2.2.1]? with | some (.int c) => xW (.constant (xow y) q.2.1 c) | some (.long c) => xW (.constantLong (xow y) q.2.1 c) | _ => false)
  | _ => false
/-- what a call wants of the called -/
def xmok (y : Nat) : Bool := xW (xcode y) && xW (.initialized (xow y)) && decide (xow y ≠ "java/lang/invoke/MethodHandle" ∧ xow y ≠ "java/lang/invoke/VarHandle") && plainName (xow y) &&
  decide ((parseMethodDescriptor (xnm y).desc).map (fun d => d.parameters.length) = some (xpn y)) &&
  (match xkd y with
    | 0 => xW (.static (xnm y))
    | 1 => xW (.instanceMethod (xnm y)) && xW (.selects (xow y) (xnm y) (xnm y)) && decide (xhh y = [])
    | _ => xW (.instanceMethod (xnm y)) && decide ((xnm y).name = "<init>") && decide (xrt y = none) && decide (xhh y = []))
def xcov (h : Nat × Nat × Nat × Nat) (pc : Nat) : Bool := Nat.ble h.1 pc && Nat.blt pc h.2.1
/-- a call's place: its link, how many values it takes, the room; where there are handlers, they cover it -/
def xsit (y pc ix : Nat) (v : Value) (a b : Nat) : Bool :=
  Nat.blt a 154 && decide ((if b % 10 = 3 ∨ b % 10 = 5 then 2 else 1, ix, a, 0) ∈ xln y) && Nat.ble (xfr a + 1) (xfr y) && Nat.ble (8 + (xml a + 11) + xlo a) (xlo y) && (xhh y).all (fun h => xcov h pc) &&
  decide (v = .retAddr (xpn a + (if b % 10 = 0 ∨ b % 10 = 3 then 0 else 1))) && decide (xhh a = [] ∨ b % 10 = 0)
def xaux (y pc : Nat) (i : Instr) (len : Nat) (v : Value) (a b : Nat) : Bool := match i with
  | .iconst n => Nat.beq len 1 && decide (v = .int (Int32.ofInt n))
  | .bipush n => Nat.beq len 2 && decide (v = .int (Int8.ofInt n).toInt32)
  | .sipush n => Nat.beq len 3 && decide (v = .int (Int16.ofInt n).toInt32)
  | .lconst n => Nat.beq len 1 && decide (v = .long (Int64.ofNat (n : Nat)))
  | .ldc ix => Nat.beq len 2 && (decide (xks[a]? = some v) && (match v with | .int _ => true | _ => false)) && decide ((7, ix, a, 0) ∈ xln y)
  | .ldc_w ix => Nat.beq len 3 && (decide (xks[a]? = some v) && (match v with | .int _ => true | _ => false)) && decide ((7, ix, a, 0) ∈ xln y)
  | .ldc2_w ix => Nat.beq len 3 && (decide (xks[a]? = some v) && (match v with | .long _ => true | _ => false)) && decide ((7, ix, a, 0) ∈ xln y)
  | .iload_n k => Nat.beq len 1 && Nat.beq k.val a
  | .lload_n k => Nat.beq len 1 && Nat.beq k.val a
  | .aload_n k => Nat.beq len 1 && Nat.beq k.val a
  | .iload k => Nat.beq len 2 && Nat.beq k a
  | .lload k => Nat.beq len 2 && Nat.beq k a
  | .aload k => Nat.beq len 2 && Nat.beq k a
  | .istore_n k => Nat.beq len 1 && Nat.beq k.val a && Nat.blt a (xml y)
  | .lstore_n k => Nat.beq len 1 && Nat.beq k.val a && Nat.blt (a + 1) (xml y)
  | .astore_n k => Nat.beq len 1 && Nat.beq k.val a && Nat.blt a (xml y)
  | .istore k => Nat.beq len 2 && Nat.beq k a && Nat.blt a (xml y)
  | .lstore k => Nat.beq len 2 && Nat.beq k a && Nat.blt (a + 1) (xml y)
  | .astore k => Nat.beq len 2 && Nat.beq k a && Nat.blt a (xml y)
  | .iinc k n => Nat.beq len 3 && Nat.beq k a && decide (v = .int (Int32.ofInt n)) && Nat.blt a (xml y)
  | .ifCond _ off => Nat.beq len 3 && decide ((pc : Int) + off = (a : Int))
  | .if_icmp _ off => Nat.beq len 3 && decide ((pc : Int) + off = (a : Int))
  | .goto off => Nat.beq len 3 && decide ((pc : Int) + off = (a : Int))
  | .tableswitch d lo hi offs => Nat.beq a pc && decide (0 ≤ (pc : Int) + d) && offs.toList.all (fun x => decide (0 ≤ (pc : Int) + x)) && decide ((offs.size : Int) = hi - lo + 1)
  | .getfield ix => Nat.beq len 3 && decide ((0, ix, a, b) ∈ xln y)
  | .putfield ix => Nat.beq len 3 && decide ((0, ix, a, b) ∈ xln y) && (match xcl[a]? with | some c => !(c.2.1 b).2.2.2 || (decide ((xnm y).name = "<init>") && decide ((c.2.1 b).1 = xow y)) | none => false)
  | .new ix => Nat.beq len 3 && (bif Nat.beq b 0 then decide ((3, ix, a, 0) ∈ xln y) else
      decide ((4, ix, a, 0) ∈ xln y) && decide (xhh y = []) && Nat.ble 7 (xfr y) && Nat.ble 90 (xlo y) && decide (decode (xby y) (pc + 3) = .ok (.dup, 1)) &&
      (match xthr[a]? with
        | some t => decide (xecl[xnr v]? = some t.2.2.1) && (bif Nat.beq b 1 then decide (decode (xby y) (pc + 4) = .ok (.ldc t.2.2.2.1, 2)) && decide (decode (xby y) (pc + 6) = .ok (.invokespecial t.2.2.2.2.2, 3)) && decide (decode (xby y) (pc + 9) = .ok (.athrow, 1))
            else decide (decode (xby y) (pc + 4) = .ok (.ldc_w t.2.2.2.1, 3)) && decide (decode (xby y) (pc + 7) = .ok (.invokespecial t.2.2.2.2.2, 3)) && decide (decode (xby y) (pc + 10) = .ok (.athrow, 1)))
        | none => false))
  | .newarray t => Nat.beq len 2 && (match t with | .int => Nat.beq a 1 | .long => Nat.beq a 4 | _ => false)
  | .anewarray ix => Nat.beq len 3 && decide ((6, ix, 0, 0) ∈ xln y)
  | .invokestatic ix => Nat.beq len 3 && (bif Nat.beq b 8 then decide ((8, ix, a, 0) ∈ xln y) && Nat.ble 24 (xlo y) && Nat.ble 1 (xfr y) else (Nat.beq b 0 || Nat.beq b 3 || Nat.beq (b % 10) 0 || Nat.beq (b % 10) 3) && Nat.beq (xkd a) 0 && xsit y pc ix v a b)
  | .invokevirtual ix => Nat.beq len 3 && Nat.beq (b % 10) 1 && Nat.beq (xkd a) 1 && decide ((xcl[b / 10]?).map (fun c => c.1) = some (xow a)) && xsit y pc ix v a b
  | .invokespecial ix => Nat.beq len 3 && (bif Nat.beq b 9 then decide ((5, ix, 0, 0) ∈ xln y) && Nat.ble 20 (xlo y) && Nat.ble 1 (xfr y) else (Nat.beq (b % 10) 2 || Nat.beq (b % 10) 5) && Nat.beq (xkd a) 2 && xsit y pc ix v a b)
  | _ => Nat.beq len 1
def xokl (y : Nat) : Nat → List xI → Bool
  | _, [] => true
  | pc, (i, len, v, a, b) :: is => decide (decode (xby y) pc = .ok (i, len)) && xaux y pc i len v a b && xokl y (pc + len) is
/-- a handler: its class, and the store behind which it begins -/
def xhok (y : Nat) (q : (Nat × Nat × Nat × Nat) × (Nat × Nat × Nat)) : Bool :=
  Nat.blt q.2.2.2 (xml y) && (match xecl[q.2.1]? with | some E => !(Nat.beq q.1.2.2.2 0) && xW (.classLink (xow y) q.1.2.2.2 E) | none => false) &&
  (decide (decode (xby y) q.1.2.2.1 = .ok (.astore q.2.2.2, 2)) && Nat.beq (q.1.2.2.1 + 2) q.2.2.1 ||
   (match q.2.2.2 with | 0 => decide (decode (xby y) q.1.2.2.1 = .ok (.astore_n 0, 1)) | 1 => decide (decode (xby y) q.1.2.2.1 = .ok (.astore_n 1, 1)) | 2 => decide (decode (xby y) q.1.2.2.1 = .ok (.astore_n 2, 1)) | 3 => decide (decode (xby y) q.1.2.2.1 = .ok (.astore_n 3, 1)) | _ => false) && Nat.beq (q.1.2.2.1 + 1) q.2.2.1)
def xhsh (l : List (Nat × Nat × Nat)) : Bool := match l with
  | [] => true
  | [_] => true
  | [p, q] => Nat.beq p.1 0 && (Nat.beq q.1 1 || Nat.beq q.1 2)
  | _ => false
def xchk (y : Nat) : Bool := (xln y).all (xlok y) && (Nat.beq y 154 || xmok y) && (xbl y).all (fun q => xokl y q.1 q.2) && Nat.beq (xhh y).length (xhd y).length && ((xhh y).zip (xhd y)).all (xhok y) && xhsh (xhd y)


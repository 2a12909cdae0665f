theorem tt1 : ∀ pc ∈ [0,1,2,3,4,7,10,11,14,15,18,19,20,21,22,25,28,31,32], (decode (mB 100) pc).isOk = true := by decide +kernel

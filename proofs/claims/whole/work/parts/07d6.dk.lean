theorem zdk_6 : (List.range' 231 35).all zdk = true := by decide +kernel

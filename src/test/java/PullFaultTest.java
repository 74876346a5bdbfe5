import java.util.Random;

/** FAULTS of PULLS against the document's grammar, for texts that are nearly right. */
public final class PullFaultTest {
    private static final String SIGNS = "yy::;?|&!()=<>+-*/[]dwkmnh0123456789  x" + (char) 200;

    public static void main(String[] args) {
        Check check = new Check();
        Earley earley = new Earley();
        Random random = new Random(1);
        for (int i = 0; i < 6000; i++) {
            String text = PullTexts.pull(random);
            if (text.length() > 90) {
                continue;
            }
            if (i % 4 != 0) {
                text = spoil(text, random);
            }
            check.due("fault(1) of " + text, Check.faultOf(1, text), earley.fault(text));
        }
        check.close("PullFaultTest");
    }

    private static String spoil(String text, Random random) {
        int at = random.nextInt(text.length() + 1);
        String sign = String.valueOf(SIGNS.charAt(random.nextInt(SIGNS.length())));
        switch (random.nextInt(4)) {
            case 0: return text.substring(0, at);
            case 1: return text.substring(0, at) + sign + text.substring(at);
            case 2: return text.substring(0, at) + text.substring(Math.min(text.length(), at + 1));
            default: return text.substring(0, at) + sign + text.substring(Math.min(text.length(), at + 1));
        }
    }
}

import com.sun.management.ThreadMXBean;
import java.lang.management.ManagementFactory;

/** The room: all rows are made with the object, and a call makes nothing. */
public final class RoomTest {
    private static final ThreadMXBean THREADS = (ThreadMXBean) ManagementFactory.getThreadMXBean();

    public static void main(String[] args) {
        MendedLetters warm = new MendedLetters();
        ask(warm);
        long before = made();
        MendedLetters x = new MendedLetters();
        long behind = made();
        // some 100,000 numbers of 4 bytes
        Check.is("an object is small: " + (behind - before), behind - before < 600000, true);
        tell(x, "abcdefghijkl 1; bbb 2; aab 3; c-c;", 0);
        tell(x, "a=b;b=a;aa=b;b=aa;c=ab;", 1);
        tell(x, "a?b\nc\nbbb[a1 b2]\na-\nb c-c ??? ????????????\n????????????", 2);
        before = made();
        ask(x);
        behind = made();
        Check.is("calls make nothing: " + (behind - before), behind - before < 2000, true);
        Check.end("RoomTest");
    }

    private static long made() {
        return THREADS.getThreadAllocatedBytes(Thread.currentThread().getId());
    }

    private static void tell(MendedLetters x, String text, int kind) {
        Check.feed(x, text);
        int got = kind == 0 ? x.lexicon(text.length()) : kind == 1 ? x.shapes(text.length()) : x.reading(text.length());
        Check.is("told without a FAULT", got > 0, true);
    }

    private static int ask(MendedLetters x) {
        int sum = 0;
        for (int i = 0; i < 20; i++) {
            x.set(0, 20 + i);
            for (int token = 0; token < x.told(3); token++) {
                sum += x.best(token, 0, 1) + x.way(token, 0) + x.said(token) + x.rest(token, 0) + x.token(token, 3);
                x.learn(token);
            }
            for (int shape = 0; shape < x.told(2); shape++) {
                sum += x.used(shape);
            }
            sum += x.text(0) + x.at(i) + x.twins(9) + x.sentence(0);
            x.feed(0x61203B20, 0x61203B20, 0x61203B20, 0x61203B20, 0x61203B20);
            sum += x.lexicon(20);
            x.feed(0x61203B20, 0x61203B20, 0x61203B20, 0x61203B20, 0x61203B20);
            sum += x.shapes(20);
        }
        return sum;
    }
}

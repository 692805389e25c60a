/** Promises 1 to 3: a new object, feed, end. */
public final class TapeTest {
    private static final int FULL = 0x61616161;

    public static void main(String[] args) {
        Due due = new Due();
        aNewObject(due);
        feeding(due);
        ending(due);
        due.end("TapeTest");
    }

    private static void aNewObject(Due due) {
        SecondHas x = new SecondHas();
        due.is("new: strivers", x.count(0), 0);
        due.is("new: rules", x.count(1), 0);
        due.is("new: bytes", x.count(2), 0);
        due.is("new: book", x.count(3), 0);
        due.is("new: law", x.law(4), Due.NONE);
        due.is("new: change", x.change(0, 1), false);
        due.is("new: rule", x.rule(0, Due.NONE), false);
        due.is("new: striver", Due.striver(x, 0, 0), Long.MIN_VALUE);
        due.is("new: undo", x.undo(), Due.NONE);
        due.is("new: back", x.back(), Due.NONE);
        due.is("NONE", SecondHas.NONE, -1);
        due.is("HIDDEN", SecondHas.HIDDEN, -1000000);
    }

    private static void feeding(Due due) {
        SecondHas x = new SecondHas();
        due.is("feed nothing", x.feed(0, 0, 0, 0, 0), 0);
        due.is("feed the highest byte first", x.feed('s' << 24, ';' << 16, 's' << 8, 0, 0), 3);
        due.is("the tape is s;s", x.fault(0), Due.NONE);
        due.is("zeros are left out within, too", x.feed(0, 0x00200020, 0, 0x20, 0), 6);
        due.is("a byte above 127", x.feed(-1, 0, 0, 0, 0), 10);
        due.is("is on the tape", x.fault(0), 6);
        SecondHas full = new SecondHas();
        for (int i = 1; i <= 7; i++) {
            due.is("feed twenty", full.feed(FULL, FULL, FULL, FULL, FULL), 20 * i);
        }
        due.is("feed one", full.feed(0, 0, 0, 0, 1), 141);
        due.is("feed twenty above 160", full.feed(FULL, FULL, FULL, FULL, FULL), Due.NONE);
        due.is("nothing came", full.count(2), 141);
        due.is("feed up to 160", full.feed(FULL, FULL, FULL, FULL, FULL >>> 8), 160);
        due.is("feed none to a full one", full.feed(0, 0, 0, 0, 0), 160);
        due.is("feed one to a full one", full.feed(1 << 24, 0, 0, 0, 0), Due.NONE);
        due.is("still full", full.count(2), 160);
    }

    private static void ending(Due due) {
        SecondHas x = new SecondHas();
        Due.feed(x, "s;s;s");
        due.is("end above", x.end(6), false);
        due.is("end below", x.end(-1), false);
        due.is("end far below", x.end(Integer.MIN_VALUE), false);
        due.is("nothing is gone", x.count(2), 5);
        due.is("end as it is", x.end(5), true);
        due.is("end shorter", x.end(3), true);
        due.is("bytes then", x.count(2), 3);
        due.is("end where it was", x.end(5), false);
        due.is("two strivers", x.text(0), 2);
        due.is("the tape is empty", x.count(2), 0);
        due.is("end of an empty one", x.end(0), true);
        due.is("end above an empty one", x.end(1), false);
    }
}

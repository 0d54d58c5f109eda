/** Each promise of the document by answers worked out by hand: ordinary ones, edges, wrong inputs. */
public final class PromiseTest {
    private static final int BEYOND = -1000000001;
    private static final int NONE = -1000000002;
    private static final int STATE = -1000000003;
    private static final int FULL = -1000000004;
    private static final int KIND = -1000000005;
    private static final int PARTED = -1000000006;

    private static int wrong = 0;
    private static int asked = 0;
    private static int promise = 0;
    private static NetMender x = null;

    public static void main(String[] args) {
        aNewObject();
        tie();
        knotIs();
        holdsAndTakes();
        as();
        threadIs();
        cut();
        wear();
        twineAndSpeed();
        feed();
        text();
        textWorth();
        textFaults();
        untell();
        run();
        odd();
        cuts();
        way();
        hole();
        open();
        minutes();
        days();
        draws();
        then();
        goes();
        mendAhead();
        hands();
        swimsOut();
        voice();
        body();
        sheet();
        put();
        move();
        cutAll();
        judge();
        image();
        tellAndCheck();
        count();
        told();
        System.out.println(wrong == 0 ? asked + " answers are as due" : wrong + " of " + asked + " answers are not as due");
        if (wrong != 0) {
            System.exit(1);
        }
    }

    private static void begin(int number) {
        promise = number;
        x = new NetMender();
    }

    private static void due(String call, long want, long... args) {
        StringBuilder told = new StringBuilder(call).append('(');
        for (int i = 0; i < args.length; i++) {
            told.append(i > 0 ? ", " : "").append(args[i]);
        }
        asked++;
        long got = Calls.make(x, call, args);
        if (got != want) {
            wrong++;
            System.out.println("promise " + promise + ": " + told + ") answered " + got + ", due is " + want);
        }
    }

    private static void cutThreads(int... threads) {
        for (int t : threads) {
            x.cut(t);
        }
    }

    private static void feedText(String bytes) {
        for (int i = 0; i < bytes.length(); i++) {
            x.feed(bytes.charAt(i), 1);
        }
    }

    /** A TEXT of HOLDS is held within 0 .. 99, so its worth is told by KNOT 0, a TOLD one with m 3, of HAND 2. */
    private static void worth(String bytes, int want) {
        feedText(bytes);
        due("text", 1, 0);
        asked++;
        int got = x.knotIs(0, 4);
        if (got != want) {
            wrong++;
            System.out.println("promise " + promise + ": the TEXT " + bytes + " gives " + got + ", due is " + want);
        }
    }

    private static void fault(String bytes, int use, int place) {
        feedText(bytes);
        int got = x.text(use);
        asked++;
        if (got != -10 - place) {
            wrong++;
            System.out.println("promise " + promise + ": the TEXT " + bytes + " answered " + got + ", due is " + (-10 - place));
        }
        due("count", 0, 5);
    }

    private static void row(int sheet, int bits, int... numbers) {
        x.sheet(sheet, bits, numbers.length);
        for (int i = 0; i < numbers.length; i++) {
            x.put(sheet, i, numbers[i]);
        }
    }

    private static void aNewObject() {
        begin(1);
        for (int k = 0; k < 20; k++) {
            due("knotIs", 0, k, 0);
            due("knotIs", 5, k, 1);
            due("knotIs", 0, k, 2);
            due("knotIs", 0, k, 3);
            due("knotIs", 25, k, 4);
            due("knotIs", 1, k, 5);
            due("knotIs", 0, k, 6);
        }
        for (int t = 0; t < 31; t++) {
            due("threadIs", 1, t, 0);
            due("threadIs", 0, t, 1);
            due("threadIs", 0, t, 2);
            due("threadIs", 50, t, 3);
        }
        int[] counts = {0, 0, 31, 100, 0, 0, 0, 0, 1, 5, 5, 5};
        for (int what = 0; what < counts.length; what++) {
            due("count", counts[what], what);
        }
        for (int k = 1; k <= 6; k++) {
            due("told", 0, k);
        }
        due("untell", 0, 0);
        due("untell", 0, 1);
        due("restore", NONE);
        due("body", NONE, 0);
        for (int i = 0; i < 4; i++) {
            due("put", NONE, i, 0, 0);
        }
        due("image", 1);
    }

    private static void tie() {
        begin(2);
        due("tie", 5, 7, 69, 4);
        due("tie", 69, 7, 0, 0);
        due("days", 0, 3);
        due("tie", 0, 7, 12, 1);
        due("knotIs", 1, 7, 0);
        due("knotIs", 2, 7, 1);
        due("knotIs", 1, 7, 2);
        due("knotIs", 3, 7, 3);
        due("knotIs", 0, 8, 3);
        due("tie", 5, 0, 5, 0);
        due("tie", 5, 19, 5, 0);
        due("tie", BEYOND, -1, 5, 0);
        due("tie", BEYOND, 20, 5, 0);
        due("tie", BEYOND, 7, -1, 0);
        due("tie", BEYOND, 7, 70, 0);
        due("tie", BEYOND, 7, 5, -1);
        due("tie", BEYOND, 7, 5, 5);
        due("knotIs", 1, 7, 0);
        due("knotIs", 3, 7, 3);
    }

    private static void knotIs() {
        begin(3);
        cutThreads(5, 6, 18, 23);
        due("knotIs", 4, 7, 6);
        due("knotIs", 1, 6, 6);
        due("knotIs", 1, 8, 6);
        due("knotIs", 1, 2, 6);
        due("knotIs", 1, 12, 6);
        due("knotIs", 0, 11, 6);
        due("knotIs", BEYOND, -1, 0);
        due("knotIs", BEYOND, 20, 0);
        due("knotIs", BEYOND, 0, -1);
        due("knotIs", BEYOND, 0, 7);
    }

    private static void holdsAndTakes() {
        begin(3);
        int[] kms = {9, 19, 18, 29, 35, 49, 59, 50, 69};
        int[] holds = {29, 14, 14, 58, 10, 23, 43, 25, 29};
        int[] takes = {1, 1, 1, 2, 1, 2, 2, 2, 1};
        int[] later = {29, 12, 12, 58, 10, 21, 43, 25, 29};
        int[] latest = {29, 5, 5, 58, 10, 14, 43, 25, 29};
        for (int i = 0; i < kms.length; i++) {
            x.tie(i, kms[i], 0);
            due("knotIs", holds[i], i, 4);
            due("knotIs", takes[i], i, 5);
        }
        x.days(2);
        for (int i = 0; i < kms.length; i++) {
            due("knotIs", later[i], i, 4);
        }
        x.days(7);
        for (int i = 0; i < kms.length; i++) {
            due("knotIs", latest[i], i, 4);
        }
        x.days(1);
        due("knotIs", 5, 1, 4);
        due("knotIs", 14, 5, 4);
        x.tie(9, 19, 0);
        due("knotIs", 14, 9, 4);
        x.days(1);
        due("knotIs", 13, 9, 4);
    }

    private static void as() {
        begin(4);
        for (int kind = 0; kind < 7; kind++) {
            x.tie(kind, 10 * kind + 2, 0);
        }
        int[] holds = {22, 11, 44, 10, 13, 29, 22};
        String[] above = {"0", "01", "02", "03", "014", "025", "06"};
        for (int kind = 0; kind < 7; kind++) {
            for (int as = 0; as < 7; as++) {
                due("as", above[kind].indexOf('0' + as) >= 0 ? holds[kind] : KIND, kind, as);
            }
        }
        due("as", BEYOND, -1, 0);
        due("as", BEYOND, 20, 0);
        due("as", BEYOND, 0, -1);
        due("as", BEYOND, 0, 7);
    }

    private static void threadIs() {
        begin(5);
        int[][] ends = {{0, 0, 1}, {3, 3, 4}, {4, 5, 6}, {15, 18, 19}, {16, 0, 5}, {20, 4, 9}, {21, 5, 10}, {30, 14, 19}};
        for (int[] e : ends) {
            due("threadIs", e[1], e[0], 4);
            due("threadIs", e[2], e[0], 5);
        }
        x.wear(4, 60);
        due("threadIs", 60, 4, 1);
        due("threadIs", -10, 4, 3);
        x.tie(6, 30, 0);
        due("threadIs", -25, 4, 3);
        x.cut(4);
        due("threadIs", 0, 4, 0);
        due("threadIs", 0, 4, 1);
        due("threadIs", 35, 4, 3);
        due("threadIs", BEYOND, -1, 0);
        due("threadIs", BEYOND, 31, 0);
        due("threadIs", BEYOND, 0, -1);
        due("threadIs", BEYOND, 0, 6);
    }

    private static void cut() {
        begin(6);
        x.wear(30, 9);
        due("cut", 1, 30);
        due("cut", 2, 0);
        due("cut", STATE, 30);
        due("cut", BEYOND, 31);
        due("cut", BEYOND, -1);
        due("count", 2, 1);
        due("count", 0, 4);
        due("threadIs", 0, 0, 0);
    }

    private static void wear() {
        begin(7);
        due("wear", 0, 3, 99);
        due("wear", 99, 3, 0);
        due("wear", 0, 3, 12);
        due("threadIs", 12, 3, 1);
        due("wear", BEYOND, 3, 100);
        due("wear", BEYOND, 3, -1);
        due("wear", BEYOND, 31, 1);
        due("wear", BEYOND, -1, 1);
        x.cut(3);
        due("wear", STATE, 3, 1);
        due("wear", BEYOND, 3, 100);
        due("threadIs", 0, 3, 1);
    }

    private static void twineAndSpeed() {
        begin(8);
        due("twine", 100, 0);
        due("twine", 0, 9999);
        due("twine", BEYOND, 10000);
        due("twine", BEYOND, -1);
        due("twine", 9999, 7);
        due("count", 7, 3);
        promise = 9;
        due("speed", 5, 0, 1);
        due("speed", 1, 0, 30);
        due("speed", 5, 2, 8);
        due("speed", 5, 1, 6);
        due("speed", BEYOND, 0, 31);
        due("speed", BEYOND, 0, 0);
        due("speed", BEYOND, 3, 1);
        due("speed", BEYOND, -1, 1);
        due("count", 30, 9);
        due("count", 6, 10);
        due("count", 8, 11);
    }

    private static void feed() {
        begin(10);
        due("feed", BEYOND, 0, 0);
        due("feed", BEYOND, 0, 9);
        due("feed", BEYOND, 0, -1);
        // 7 + m, the lowest byte first; what stands above n bytes does not come.
        due("feed", 2, 0x7777777777772b37L, 2);
        due("feed", 3, 0x6dL, 1);
        x.tie(0, 64, 0);
        due("text", 1, 0);
        due("knotIs", 11, 0, 4);
        for (int i = 1; i <= 7; i++) {
            due("feed", 8 * i, -1L, 8);
        }
        due("feed", FULL, 0, 5);
        due("feed", BEYOND, 0, 9);
        due("count", 56, 5);
        due("feed", 60, 0, 4);
        due("feed", FULL, 0, 1);
        due("count", 60, 5);
    }

    private static void text() {
        begin(11);
        x.tie(0, 63, 2);
        feedText("m*9");
        due("text", BEYOND, 2);
        due("text", BEYOND, -1);
        due("count", 3, 5);
        due("text", 1, 0);
        due("count", 0, 5);
        due("knotIs", 27, 0, 4);
        due("knotIs", 25, 1, 4);
        feedText("m*");
        due("text", -12, 0);
        due("count", 0, 5);
        due("knotIs", 27, 0, 4);
        feedText("11");
        due("text", 1, 0);
        due("knotIs", 11, 0, 4);
        due("text", -10, 0);
        due("knotIs", 11, 0, 4);
        feedText("9");
        due("text", 1, 1);
        due("knotIs", 11, 0, 4);
        due("days", 0, 2);
        due("threadIs", 18, 9, 1);
        due("told", 2, 1);
    }

    private static void textWorth() {
        begin(11);
        x.tie(0, 63, 2);
        worth("m", 3);
        worth("h", 2);
        worth("d", 0);
        worth("99", 99);
        worth("100", 99);
        worth("9999*9999", 99);
        worth("0-1", 0);
        worth("10-3-2", 5);
        worth("2+3*4", 14);
        worth("(2+3)*4", 20);
        worth("17/5*5", 15);
        worth("17%5*5", 10);
        worth("9-17/5", 6);
        worth("10+(0-17)/5", 7);
        worth("10+(0-17)%5", 8);
        worth("7/0+1", 1);
        worth("7%0+1", 1);
        // 1024*1024*2048 wraps to the least int, which by -1 is itself.
        worth("1024*1024*2048<0", 1);
        worth("1024*1024*2048-1>0", 1);
        worth("1024*1024*2048/(0-1)<0", 1);
        worth("1024*1024*2048%(0-1)+5", 5);
        worth("(0-1)*(0-1)", 1);
        worth("!0", 1);
        worth("!7", 0);
        worth("!!7", 1);
        worth("!0+5", 6);
        worth("!(0+5)+3", 3);
        worth("!m=0", 1);
        worth("5&6", 1);
        worth("5&0", 0);
        worth("0|6", 1);
        worth("0|0", 0);
        worth("(0|0)+5", 5);
        worth("(0|7)+5", 6);
        worth("(0&7)+5", 5);
        worth("(8&7)+5", 6);
        worth("(2<1)+5", 5);
        worth("(2=1)+5", 5);
        worth("(1>2)+5", 5);
        worth("7|0&0", 1);
        worth("0&0|7", 1);
        worth("0&(0|7)", 0);
        worth("2<3", 1);
        worth("3<3", 0);
        worth("3=3", 1);
        worth("3=2", 0);
        worth("4>3", 1);
        worth("3>3", 0);
        worth("1+1<3&2", 1);
        worth("2>1+1", 0);
        worth("(1<2)=(3>2)", 1);
        worth("1<2&3>2", 1);
        worth("0-1<0", 1);
        worth("((((m))))+(((((h)))))", 5);
        worth("!!!!!m+!!!!!m", 0);
        worth("0007", 7);
        x.days(6);
        worth("d*7", 42);
    }

    private static void textFaults() {
        begin(11);
        fault("", 0, 0);
        fault("x", 0, 0);
        fault("t", 0, 0);
        fault("m", 1, 0);
        fault("m+t", 0, 2);
        fault("m+w", 0, 2);
        fault("m+a", 0, 2);
        fault("t+d", 1, 2);
        fault("t+h", 1, 2);
        fault("12345", 0, 4);
        fault("1+12345", 1, 6);
        fault("m ", 0, 1);
        fault("m+", 0, 2);
        fault("+m", 0, 0);
        fault("m++m", 0, 2);
        fault("mm", 0, 1);
        fault("m3", 0, 1);
        fault("3m", 0, 1);
        fault("m!", 0, 1);
        fault("m(", 0, 1);
        fault("()", 0, 1);
        fault("(m", 0, 2);
        fault("m)", 0, 1);
        fault("(m))", 0, 3);
        fault("!", 0, 1);
        fault("1<2<3", 0, 3);
        fault("1<2=3", 0, 3);
        fault("1+1>2-1=1", 0, 7);
        fault("(1<2)<3<4", 0, 7);
        fault("((((((m))))))", 0, 5);
        fault("!!!!!!m", 0, 5);
        fault("!(!(!(m", 0, 5);
        fault("!(!(!m)+!", 0, 9);
        fault("!(!(!m)+!(", 0, 10);
        fault("!(!(!m)+!((m", 0, 12);
        fault("!(!(!m)+!(((", 0, 11);
        fault("m\u00ed", 0, 1);
        fault("\u0000", 0, 0);
        fault("\u00b1", 0, 0);
        feedText("1+(1+1)=3&2<3|1");
        due("text", 1, 0);
        StringBuilder full = new StringBuilder("1");
        for (int i = 0; i < 29; i++) {
            full.append("+1");
        }
        fault(full + "+", 0, 60);
        feedText(full + "0");
        due("text", 1, 0);
        x.tie(3, 60, 0);
        due("knotIs", 39, 3, 4);
    }

    private static void untell() {
        begin(12);
        feedText("3");
        x.text(0);
        feedText("4");
        x.text(1);
        x.tie(0, 65, 0);
        due("knotIs", 3, 0, 4);
        due("untell", BEYOND, 2);
        due("untell", BEYOND, -1);
        due("untell", 1, 0);
        due("knotIs", 25, 0, 4);
        due("untell", 0, 0);
        x.days(1);
        due("threadIs", 4, 30, 1);
        due("untell", 1, 1);
        x.days(1);
        due("threadIs", 5, 30, 1);
    }

    private static void run() {
        begin(13);
        due("run", BEYOND, 4, 0);
        due("run", BEYOND, -1, 0);
        due("run", BEYOND, 0, 5);
        due("run", BEYOND, 0, -1);
        due("run", NONE, 0, 0);
        x.sheet(0, 8, 0);
        due("run", NONE, 0, 0);
        row(0, 8, 19);
        due("run", 0, 0, 0);
        row(0, 8, 20);
        due("run", -10, 0, 0);
        row(0, 32, -1);
        due("run", -10, 0, 0);
        row(0, 8, 19, 14);
        due("run", -11, 0, 0);
        x.days(3);
        cutThreads(0, 1, 17, 23, 8);
        x.tie(1, 27, 3);
        x.tie(7, 41, 3);
        x.tie(10, 52, 3);
        x.days(1);
        // 4 and 5 are neighbours in number alone, even while all around them is MISSING.
        cutThreads(3, 20, 4, 16, 21);
        row(1, 16, 9, 4, 5);
        due("run", -12, 1, 0);
        row(1, 16, 4, 9, 10, 5);
        due("run", -12, 1, 0);
        row(1, 16, 5, 0);
        due("run", 1, 1, 0);
        row(1, 16, 6, 5, 10);
        due("run", 2, 1, 0);
        // 0 and 5 take 3 ells each, and 10, a GRANNY, 4.
        due("twine", 90, 100);
        // All goes up to the sixth number: the THREAD from 1 to 2 is mended by then.
        row(1, 16, 6, 1, 2, 1);
        due("run", -13, 1, 1);
        due("count", 100, 3);
        due("count", 7, 1);
        due("knotIs", 3, 1, 2);
        row(1, 16, 0, 1, 6);
        due("twine", 100, 6);
        due("run", FULL, 1, 1);
        due("count", 6, 3);
        due("count", 7, 1);
        due("twine", 6, 7);
        due("run", 2, 1, 1);
        due("count", 0, 3);
        due("count", 5, 1);
        due("threadIs", 1, 0, 0);
        due("threadIs", 4, 0, 2);
        due("threadIs", 0, 0, 1);
        due("threadIs", 4, 17, 2);
        due("threadIs", 0, 1, 0);
        due("knotIs", 2, 1, 0);
        due("knotIs", 7, 1, 1);
        due("knotIs", 1, 1, 2);
        due("knotIs", 4, 1, 3);
        due("knotIs", 0, 0, 2);
        due("knotIs", 1, 6, 2);
        // A wrong place is told ahead of what is lacking of TWINE.
        row(1, 16, 2, 7);
        due("run", -11, 1, 1);
        row(1, 16, 12, 7, 7);
        due("run", -12, 1, 1);
        row(1, 16, 12, 7);
        due("run", FULL, 1, 1);
        due("twine", 0, 4);
        due("run", 1, 1, 4);
        due("knotIs", 4, 7, 2);
        due("twine", 0, 20);
        row(1, 16, 10, 11);
        due("run", 1, 1, 0);
        due("count", 17, 3);
        row(1, 16, 2, 1, 20);
        due("run", -12, 1, 0);
        row(1, 16, 4, 3);
        due("run", 1, 1, 0);
        due("told", 2, 2);
        due("told", 2, 4);
        // A RUN ends with its last number.
        begin(13);
        cutThreads(0, 1);
        x.days(5);
        row(0, 8, 2, 1);
        due("run", 1, 0, 3);
        due("knotIs", 0, 2, 2);
        due("knotIs", 0, 2, 3);
        due("knotIs", 3, 1, 2);
        due("knotIs", 5, 1, 3);
        due("threadIs", 0, 0, 0);
        due("threadIs", 1, 1, 0);
    }

    private static void odd() {
        begin(14);
        due("odd", 0, 1);
        due("odd", BEYOND, -1);
        due("odd", BEYOND, 2);
        cutThreads(0, 16, 4, 17);
        due("odd", 0, 0);
        due("odd", 1, 1);
        cutThreads(1);
        due("odd", 2, 0);
        due("odd", 1, 1);
        cutThreads(15);
        due("odd", 4, 0);
        due("odd", 0, 1);
        begin(14);
        cutThreads(0, 16, 4, 17, 14, 15);
        due("odd", 2, 0);
        due("odd", 0, 1);
        begin(14);
        cutThreads(0, 16, 4, 17, 11, 15, 29, 30);
        due("odd", 0, 0);
        due("odd", 0, 1);
    }

    private static void cuts() {
        begin(15);
        due("cuts", BEYOND, -2);
        due("cuts", BEYOND, 3);
        due("cuts", NONE, -1);
        cutThreads(0);
        due("cuts", 0, -1);
        due("cuts", NONE, 0);
        // 1 alone joins 0 and 2.
        cutThreads(2);
        due("cuts", 1, -1);
        due("cuts", 1, 0);
        due("cuts", NONE, 1);
        // Three apart: two more are needed, and 1, 2 are the least.
        begin(15);
        cutThreads(0, 3);
        due("cuts", 2, -1);
        due("cuts", 1, 0);
        due("cuts", 2, 1);
        due("cuts", NONE, 2);
        // From 1 to 14 it is five more.
        begin(15);
        cutThreads(0, 30);
        due("cuts", NONE, -1);
        due("cuts", NONE, 0);
        due("cuts", BEYOND, 3);
        // From 5 to 12 it is three more, by 4 5 23, 4 9 22 or 8 9 21; a third HOLE asks for a fourth.
        begin(15);
        cutThreads(16, 28);
        due("cuts", 3, -1);
        due("cuts", 4, 0);
        due("cuts", 5, 1);
        due("cuts", 23, 2);
        due("count", 2, 1);
        cutThreads(29);
        due("cuts", NONE, -1);
        // A fork from 1 hangs together, but has four ends, no two of them one THREAD apart.
        begin(15);
        cutThreads(0, 1, 17);
        due("cuts", 2, -1);
        due("cuts", 4, 0);
        due("cuts", 16, 1);
        // So has a cross: the two to the left above are joined by 0 16.
        begin(15);
        cutThreads(4, 5, 17, 22);
        due("cuts", 2, -1);
        due("cuts", 0, 0);
        due("cuts", 16, 1);
        due("cuts", NONE, 2);
    }

    private static void way() {
        begin(16);
        due("way", BEYOND, -1);
        due("way", STATE, 0);
        cutThreads(5, 23);
        int[] bent = {6, 7, 12};
        for (int i = 0; i < bent.length; i++) {
            due("way", bent[i], i);
        }
        due("way", NONE, 3);
        due("way", NONE, Integer.MAX_VALUE);
        due("way", BEYOND, Integer.MIN_VALUE);
        begin(16);
        cutThreads(0);
        due("way", 0, 0);
        due("way", 1, 1);
        due("way", NONE, 2);
        // A ring begins at its least KNOT, and goes to the less of two.
        begin(16);
        cutThreads(5, 9, 22, 23);
        int[] ring = {6, 7, 12, 11, 6};
        for (int i = 0; i < ring.length; i++) {
            due("way", ring[i], i);
        }
        due("way", NONE, 5);
        // Squares 0 1 6 5 and 6 7 12 11: at 6 it may not go home to 0 first.
        begin(16);
        cutThreads(0, 4, 16, 17, 5, 9, 22, 23);
        int[] eight = {0, 1, 6, 7, 12, 11, 6, 5, 0};
        for (int i = 0; i < eight.length; i++) {
            due("way", eight[i], i);
        }
        due("way", NONE, 9);
        // With a tail at 1 that ends at 2: it begins at the less of 1 and 2, and may not go to 2 first.
        cutThreads(1);
        int[] tailed = {1, 0, 5, 6, 7, 12, 11, 6, 1, 2};
        for (int i = 0; i < tailed.length; i++) {
            due("way", tailed[i], i);
        }
        due("way", NONE, 10);
        cutThreads(15);
        due("way", STATE, 0);
        due("way", BEYOND, -1);
    }

    private static void hole() {
        begin(17);
        due("hole", 0, -1);
        due("hole", NONE, 0);
        due("hole", BEYOND, -2);
        cutThreads(15, 30, 26, 2, 17, 5, 22);
        due("hole", 4, -1);
        due("hole", 1, 0);
        due("hole", 3, 1);
        due("hole", 2, 2);
        due("hole", 1, 3);
        due("hole", NONE, 4);
        due("hole", NONE, 31);
        // 16 joins none of them, 1 joins two, at their KNOTS 1 and 2.
        cutThreads(1);
        due("hole", 3, -1);
        due("hole", 5, 0);
        due("hole", 2, 1);
        due("hole", 1, 2);
        cutThreads(0, 16);
        due("hole", 7, 0);
    }

    private static void open() {
        begin(18);
        due("open", 1);
        cutThreads(0, 1, 2, 3, 12, 13, 14, 15, 16, 21, 26, 20, 25, 30);
        due("open", 1);
        cutThreads(4);
        due("open", 2);
        cutThreads(11);
        due("open", 2);
        cutThreads(8);
        due("open", 3);
        cutThreads(27, 28);
        due("open", 5);
        cutThreads(29);
        due("open", 7);
        cutThreads(17, 18, 19);
        due("open", 10);
        cutThreads(22);
        due("open", 11);
        cutThreads(24);
        due("open", 12);
    }

    private static void minutes() {
        begin(19);
        due("minutes", 0, -1);
        due("minutes", NONE, 0);
        due("minutes", BEYOND, -2);
        // HOLES of 1, 2, 3 and 1 THREADS.
        cutThreads(0, 2, 3, 8, 9, 10, 15);
        due("hole", 4, -1);
        due("minutes", 15, -1);
        int[] even = {0, 0, 1, 2};
        for (int i = 0; i < even.length; i++) {
            due("minutes", even[i], i);
        }
        x.speed(2, 1);
        // All by man 2 would be 7; 1 by another is 5, and 2 by him 5 too.
        due("minutes", 5, -1);
        int[] swift = {0, 2, 2, 1};
        for (int i = 0; i < swift.length; i++) {
            due("minutes", swift[i], i);
        }
        due("minutes", NONE, 4);
        x.speed(0, 30);
        x.speed(1, 30);
        due("minutes", 7, -1);
        due("minutes", 2, 0);
        due("minutes", 2, 3);
        begin(19);
        cutThreads(0, 2, 4, 6, 8, 10);
        due("minutes", 10, -1);
        due("minutes", 0, 1);
        due("minutes", 1, 2);
        due("minutes", 2, 5);
        cutThreads(12);
        due("hole", 7, -1);
        due("minutes", FULL, -1);
        due("minutes", FULL, 6);
        due("minutes", NONE, 7);
        due("minutes", BEYOND, -2);
        // The longest that there is.
        begin(19);
        for (int t = 0; t < 31; t++) {
            x.cut(t);
        }
        for (int man = 0; man < 3; man++) {
            x.speed(man, 30);
        }
        due("minutes", 930, -1);
        due("minutes", 0, 0);
        x.speed(2, 29);
        due("minutes", 899, -1);
        due("minutes", 2, 0);
    }

    private static void days() {
        begin(20);
        due("days", BEYOND, 0);
        due("days", BEYOND, 61);
        due("days", BEYOND, -1);
        x.wear(0, 49);
        x.wear(1, 48);
        x.wear(30, 99);
        due("days", 2, 1);
        due("count", 1, 0);
        due("threadIs", 0, 0, 0);
        due("threadIs", 1, 1, 0);
        due("threadIs", 49, 1, 1);
        due("threadIs", 1, 2, 1);
        due("threadIs", 0, 30, 0);
        due("days", 3, 1);
        // WORN stands at 99 at most; two of DOUBLE KNOTS hold 116.
        begin(20);
        x.tie(0, 29, 0);
        x.tie(1, 29, 0);
        x.wear(0, 98);
        due("days", 0, 1);
        due("threadIs", 99, 0, 1);
        due("days", 0, 2);
        due("threadIs", 99, 0, 1);
        // What WEARS gives is held within 0 .. 20.
        begin(20);
        feedText("21*(t=1)-9*(t=2)+w*(t=3)+(a+1)*(t=4)");
        x.text(1);
        x.wear(3, 4);
        due("days", 0, 1);
        due("threadIs", 20, 1, 1);
        due("threadIs", 0, 2, 1);
        due("threadIs", 8, 3, 1);
        due("threadIs", 1, 4, 1);
        due("days", 0, 1);
        due("threadIs", 16, 3, 1);
        due("threadIs", 3, 4, 1);
        due("days", 1, 1);
        due("threadIs", 6, 4, 1);
        due("threadIs", 32, 3, 1);
        // STRENGTH is that of the DAY that goes by: KNOTS hold 30 on DAY 0, 0 on DAY 1.
        begin(20);
        feedText("30*(d=0)");
        x.text(0);
        for (int k = 0; k < 20; k++) {
            x.tie(k, 60, 0);
        }
        due("days", 0, 1);
        due("threadIs", -1, 0, 3);
        due("days", 31, 1);
        // Up to DAY 9999, and not beyond.
        begin(20);
        for (int i = 0; i < 166; i++) {
            x.days(60);
        }
        due("count", 9960, 0);
        due("days", STATE, 40);
        due("days", BEYOND, 61);
        due("draws", STATE, 40);
        due("count", 1, 8);
        due("days", 31, 38);
        due("draws", 31, 1);
        due("count", 9999, 0);
        due("days", STATE, 1);
        due("draws", STATE, 1);
        due("then", 0, 60, 0, 0);
        due("hands", 0, 0, 9999);
        due("tie", 5, 0, 60, 0);
        due("hands", 1, 0, 9999);
    }

    private static void draws() {
        begin(21);
        due("draws", BEYOND, 0);
        due("draws", BEYOND, 61);
        due("draws", BEYOND, Integer.MIN_VALUE);
        // z is 1103527590 then; by 256 it is 4310654, its rest by 31 is 11.
        due("draws", 1, 1);
        due("count", 1103527590, 8);
        due("threadIs", 0, 4310654 % 31, 0);
        due("threadIs", 1, 0, 1);
        due("count", 1, 0);
        promise = 22;
        due("seed", 1103527590, 0);
        // z is 12345 then, by 256 it is 48, its rest by 31 is 17.
        due("draws", 2, 1);
        due("threadIs", 0, 17, 0);
        due("seed", 12345, 0);
        due("draws", 2, 1);
        due("seed", 12345, Integer.MIN_VALUE);
        due("seed", Integer.MIN_VALUE, BEYOND);
        due("seed", BEYOND, 4);
        due("told", 3, 1);
        promise = 21;
        // z is a negative int then, whose bytes are read without its sign.
        begin(21);
        x.seed(2);
        due("draws", 1, 1);
        due("count", -2087924461, 8);
        due("threadIs", 0, 8621261 % 31, 0);
        // The bite comes ahead of the DAY: what is bitten is not WORN.
        due("count", 30, 4);
    }

    private static void then() {
        begin(23);
        x.wear(7, 47);
        x.tie(19, 15, 0);
        due("then", 47, 0, 7, 1);
        due("then", 3, 0, 7, 3);
        due("then", 1, 2, 7, 3);
        due("then", 49, 2, 7, 1);
        due("then", 0, 3, 7, 0);
        due("then", 0, 3, 7, 1);
        due("then", 50, 3, 7, 3);
        // 25 and 12 - 5, less 5.
        due("then", 27, 5, 30, 3);
        due("then", 0, 60, 0, 0);
        due("then", 0, 0, 0, 2);
        due("then", 18, 60, 15, 4);
        due("then", 19, 60, 15, 5);
        due("count", 0, 0);
        due("threadIs", 47, 7, 1);
        due("then", BEYOND, -1, 0, 0);
        due("then", BEYOND, 61, 0, 0);
        due("then", BEYOND, 1, -1, 0);
        due("then", BEYOND, 1, 31, 0);
        due("then", BEYOND, 1, 0, -1);
        due("then", BEYOND, 1, 0, 6);
    }

    private static void goes() {
        begin(24);
        due("goes", NONE, 49, 0);
        due("goes", 0, 50, 0);
        due("goes", 50, 50, 1);
        due("goes", 50, 60, 1);
        x.wear(9, 40);
        x.wear(8, 40);
        x.wear(1, 39);
        x.cut(0);
        due("goes", 8, 60, 0);
        due("goes", 10, 60, 1);
        due("goes", NONE, 9, 0);
        due("goes", NONE, 9, 1);
        due("goes", BEYOND, 0, 0);
        due("goes", BEYOND, 61, 0);
        due("goes", BEYOND, 1, -1);
        due("goes", BEYOND, 1, 2);
        due("count", 0, 0);
        x.wear(30, 49);
        due("goes", 30, 1, 0);
        due("goes", 1, 1, 1);
        x.days(60);
        due("goes", NONE, 60, 0);
    }

    private static void mendAhead() {
        begin(25);
        due("mendAhead", 0, 49, 0);
        due("mendAhead", 0, 49, 1);
        due("mendAhead", 0, 50, 0);
        due("mendAhead", 31, 50, 1);
        x.wear(9, 49);
        x.wear(12, 30);
        x.cut(2);
        due("mendAhead", 9, 1, 0);
        due("mendAhead", 1, 1, 1);
        due("mendAhead", 9, 20, 0);
        due("mendAhead", 2, 20, 1);
        due("threadIs", 49, 9, 1);
        // By WEARS: what came long ago does not wear, so new ones wear more.
        feedText("20*(a<4)+(t=9)");
        x.text(1);
        x.days(0);
        due("mendAhead", 9, 2, 0);
        due("mendAhead", 2, 2, 1);
        x.wear(12, 0);
        x.wear(9, 0);
        due("mendAhead", 0, 2, 0);
        due("mendAhead", 1, 2, 1);
        due("mendAhead", BEYOND, 0, 0);
        due("mendAhead", BEYOND, 61, 0);
        due("mendAhead", BEYOND, 1, -1);
        due("mendAhead", BEYOND, 1, 2);
        x.days(60);
        due("mendAhead", NONE, 60, 0);
        due("mendAhead", NONE, 60, 1);
        due("mendAhead", BEYOND, 61, 1);
        // What is new now has come on this DAY: it alone wears then.
        begin(25);
        feedText("0");
        x.text(1);
        x.days(9);
        feedText("20*(a<5)");
        x.text(1);
        due("then", 1, 3, 0, 0);
        due("mendAhead", 0, 2, 1);
        due("mendAhead", 1, 3, 1);
        due("mendAhead", 0, 3, 0);
    }

    private static void hands() {
        begin(26);
        due("hands", 20, 0, 0);
        due("hands", 0, 1, 0);
        x.tie(4, 0, 1);
        x.days(5);
        x.tie(5, 0, 1);
        due("hands", 18, 0, 0);
        due("hands", 2, 1, 0);
        due("hands", 1, 1, 1);
        due("hands", 1, 1, 5);
        due("hands", 0, 1, 6);
        due("hands", 0, 4, 9999);
        due("hands", BEYOND, -1, 0);
        due("hands", BEYOND, 5, 0);
        due("hands", BEYOND, 1, -1);
        due("hands", BEYOND, 1, 10000);
    }

    private static void swimsOut() {
        begin(27);
        due("swimsOut", 0, 0);
        due("swimsOut", 1, 1);
        for (int t = 0; t < 30; t++) {
            x.cut(t);
            due("swimsOut", t + 1, 0);
            due("swimsOut", 31, 1);
        }
        x.cut(30);
        due("swimsOut", 1, 0);
        due("swimsOut", 1, 1);
        due("swimsOut", BEYOND, 2);
        due("swimsOut", BEYOND, -1);
        due("told", 2, 1);
    }

    private static void voice() {
        begin(28);
        int[] kms = {4, 14, 24, 34, 44, 54, 64};
        int[][] said = {
            {101, 202, 198, 33},
            {94, 188, 184, 50 - 10},
            {103, -206, -210, 100},
            {104, 208, 108 - 4, PARTED},
            {291, 582, 578 ^ 5, -100 - 12},
            {106, -214, -218, -50},
            {4, 12, 8, -33},
        };
        for (int kind = 0; kind < 7; kind++) {
            x.tie(kind + 1, kms[kind], 0);
        }
        for (int kind = 0; kind < 7; kind++) {
            for (int voice = 0; voice < 4; voice++) {
                due("voice", said[kind][voice], kind + 1, voice, 100);
            }
        }
        due("told", 1, 6);
        due("voice", -2147483639, 10, 0, Integer.MAX_VALUE);
        x.tie(6, 5, 0);
        due("voice", Integer.MIN_VALUE, 6, 3, Integer.MIN_VALUE);
        due("voice", 0, 6, 3, 0);
    }

    private static void body() {
        begin(29);
        x.tie(4, 47, 0);
        x.tie(5, 55, 0);
        x.tie(6, 16, 0);
        x.tie(7, 60, 0);
        trace(4, 3, 21, 13, 11, 50, 20, 10);
        trace(4, 2, 51, 12, 11, 50, 20, 10);
        trace(5, 2, 12, 60, 30, 11, 10);
        // PARTED: what stands right of it is not worked out.
        due("voice", PARTED, 6, 3, 9);
        due("count", 2, 7);
        due("body", 21, 0);
        due("body", 13, 1);
        due("body", NONE, 2);
        trace(7, 1, 71, 11, 70);
        trace(7, 3, 13);
        due("voice", BEYOND, 20, 0, 0);
        due("voice", BEYOND, -1, 0, 0);
        due("voice", BEYOND, 0, 4, 0);
        due("voice", BEYOND, 0, -1, 0);
        due("body", 13, 0);
        due("body", NONE, 1);
        due("body", NONE, -1);
        due("body", NONE, Integer.MIN_VALUE);
        due("body", NONE, Integer.MAX_VALUE);
    }

    private static void trace(int knot, int voice, int... bodies) {
        x.voice(knot, voice, 1);
        due("count", bodies.length, 7);
        for (int i = 0; i < bodies.length; i++) {
            due("body", bodies[i], i);
        }
        due("body", NONE, bodies.length);
    }

    private static void sheet() {
        begin(30);
        due("sheet", BEYOND, -1, 8, 1);
        due("sheet", BEYOND, 4, 8, 1);
        due("sheet", BEYOND, 0, 7, 1);
        due("sheet", BEYOND, 0, -8, 1);
        due("sheet", BEYOND, 0, 24, 1);
        due("sheet", BEYOND, 0, 64, 1);
        due("sheet", BEYOND, 0, 24, -1);
        due("sheet", BEYOND, 4, 8, -1);
        due("sheet", STATE, 0, 8, -1);
        due("sheet", STATE, 0, 32, Integer.MIN_VALUE);
        due("sheet", BEYOND, 0, 8, 41);
        due("sheet", 1, 0, 8, 40);
        due("put", 1, 0, 39, 1);
        due("put", BEYOND, 0, 40, 1);
        due("sheet", BEYOND, 0, 16, 41);
        due("sheet", STATE, 0, 16, -1);
        due("put", 1, 0, 39, 0);
        due("judge", 31, 0);
        due("put", 1, 0, 0, 5);
        due("judge", 0, 0);
        due("sheet", 1, 0, 16, 3);
        due("judge", 3, 0);
        due("sheet", 1, 0, 32, 0);
        due("judge", 0, 0);
        due("put", BEYOND, 0, 0, 1);
        due("sheet", 1, 0, 0, -9);
        due("put", NONE, 0, 0, 1);
        due("sheet", 1, 0, 0, 99);
        due("sheet", 1, 3, 0, 0);
    }

    private static void put() {
        begin(31);
        due("put", BEYOND, 4, 0, 0);
        due("put", BEYOND, -1, 0, 0);
        due("put", NONE, 3, 99, 0);
        x.sheet(3, 8, 2);
        due("put", 1, 3, 1, 0);
        due("put", BEYOND, 3, 2, 0);
        due("put", BEYOND, 3, -1, 0);
        x.wear(0, 44);
        due("put", 1, 3, 0, 300);
        due("judge", 2, 3);
        x.sheet(3, 16, 2);
        due("put", 1, 3, 0, 300);
        due("judge", 0, 3);
        due("put", 1, 3, 0, 65536 * 7 + 44);
        due("judge", 2, 3);
        x.sheet(3, 32, 2);
        due("put", 1, 3, 0, 65536 * 7 + 44);
        due("judge", 0, 3);
        due("put", 1, 3, 0, 44);
        due("judge", 2, 3);
    }

    private static void move() {
        begin(32);
        due("move", BEYOND, 0, 0, 4, 0, 1);
        due("move", BEYOND, -1, 0, 1, 0, 1);
        due("move", NONE, 0, 0, 1, 0, 1);
        row(0, 8, 1, 2, 3, 4, 5);
        due("move", NONE, 0, 0, 1, 0, -1);
        due("move", NONE, 1, 0, 0, 0, -1);
        x.sheet(1, 16, 5);
        due("move", KIND, 0, 0, 1, 0, -1);
        x.sheet(1, 8, 3);
        due("move", BEYOND, 0, 0, 1, 0, 4);
        due("move", BEYOND, 0, 3, 1, 0, 3);
        due("move", BEYOND, 0, 0, 1, 1, 3);
        due("move", BEYOND, 0, -1, 1, 0, 1);
        due("move", BEYOND, 0, 0, 1, -1, 1);
        due("move", BEYOND, 0, 0, 1, 0, -1);
        due("move", BEYOND, 0, Integer.MAX_VALUE, 1, 0, Integer.MAX_VALUE);
        due("move", BEYOND, 0, 1, 1, 0, Integer.MAX_VALUE);
        due("move", BEYOND, 0, 6, 1, 0, 0);
        due("move", BEYOND, 0, 0, 1, 4, 0);
        due("move", 0, 0, 5, 1, 3, 0);
        due("judge", 3, 1);
        due("move", 3, 0, 2, 1, 0, 3);
        for (int t = 0; t < 3; t++) {
            x.wear(t, t + 3);
        }
        due("judge", 3, 1);
        due("move", 4, 0, 0, 0, 1, 4);
        int[] shifted = {1, 1, 2, 3, 4};
        for (int t = 0; t < 5; t++) {
            x.wear(t, shifted[t]);
        }
        due("judge", 5, 0);
        due("move", 4, 0, 1, 0, 0, 4);
        int[] back = {1, 2, 3, 4, 4};
        for (int t = 0; t < 5; t++) {
            x.wear(t, back[t]);
        }
        due("judge", 5, 0);
    }

    private static void cutAll() {
        begin(33);
        due("cutAll", BEYOND, 4);
        due("cutAll", BEYOND, -1);
        due("cutAll", NONE, 0);
        x.sheet(0, 8, 0);
        due("cutAll", 0, 0);
        row(0, 8, 3, 30, 31, 4);
        x.wear(3, 7);
        due("cutAll", 2, 0);
        due("count", 2, 1);
        due("threadIs", 0, 30, 0);
        due("threadIs", 1, 4, 0);
        due("threadIs", 0, 3, 1);
        due("cutAll", 0, 0);
        row(0, 32, 6, -1, 7);
        due("cutAll", 1, 0);
        row(0, 16, 9, 9);
        due("cutAll", 1, 0);
        row(0, 16, 10, 11);
        due("cutAll", 2, 0);
        due("count", 6, 1);
        due("told", 0, 3);
        due("told", 2, 1);
    }

    private static void judge() {
        begin(34);
        due("judge", BEYOND, 4);
        due("judge", BEYOND, -1);
        due("judge", NONE, 2);
        x.sheet(2, 8, 31);
        due("judge", 31, 2);
        x.sheet(2, 8, 32);
        due("judge", 31, 2);
        x.sheet(2, 8, 40);
        due("judge", 31, 2);
        x.wear(30, 2);
        due("judge", 30, 2);
        x.put(2, 30, 2);
        x.put(2, 7, 1);
        due("judge", 7, 2);
        x.wear(7, 1);
        due("judge", 31, 2);
        x.cut(7);
        due("judge", 7, 2);
        x.put(2, 7, 0);
        due("judge", 31, 2);
    }

    private static void image() {
        begin(36);
        due("restore", NONE);
        x.tie(3, 44, 2);
        x.cut(4);
        x.wear(5, 6);
        x.days(2);
        x.twine(70);
        x.speed(1, 9);
        x.seed(99);
        feedText("m+1");
        x.tie(6, 62, 3);
        x.text(0);
        feedText("2");
        x.text(1);
        feedText("t+");
        x.tell(1);
        x.tell(8);
        x.cut(0);
        row(0, 8, 1, 0);
        x.run(0, 0);
        x.twine(70);
        x.voice(0, 0, 0);
        promise = 35;
        due("image", 1);
        promise = 36;
        x.tie(3, 0, 0);
        x.tie(6, 0, 0);
        x.days(9);
        x.cut(0);
        row(0, 8, 1, 0);
        x.run(0, 1);
        x.days(51);
        x.twine(0);
        x.speed(1, 30);
        x.speed(0, 30);
        x.seed(5);
        x.untell(0);
        x.untell(1);
        x.feed(0, 8);
        x.check();
        x.tell(3);
        row(0, 8, 7, 7);
        x.sheet(1, 32, 1);
        x.voice(0, 1, 0);
        x.text(0);
        x.feed('h', 1);
        due("told", 0, 1);
        x.cut(99);
        for (int twice = 0; twice < 2; twice++) {
            due("restore", 2);
            due("knotIs", 4, 3, 0);
            due("knotIs", 4, 3, 1);
            due("knotIs", 2, 3, 2);
            due("knotIs", 0, 3, 3);
            due("knotIs", 2, 6, 3);
            due("knotIs", 3, 6, 4);
            due("threadIs", 0, 4, 0);
            due("threadIs", 8, 5, 1);
            due("threadIs", 2, 0, 2);
            due("threadIs", 0, 1, 2);
            due("then", 2, 7, 0, 2);
            due("count", 2, 0);
            due("count", 1, 1);
            due("count", 70, 3);
            due("count", 2, 5);
            due("count", 2, 6);
            due("count", 99, 8);
            due("count", 5, 9);
            due("count", 9, 10);
            // SHEETS, THE TRACE and what is told are as they were.
            due("put", 1, 1, 0, 0);
            due("count", 2, 7);
            due("body", 11, 0);
            due("told", 1, 1);
            // The waiting numbers 1 and 8, THE TAPE, and both TEXTS.
            due("check", 2);
            x.feed('a', 1);
            due("text", 1, 1);
            due("untell", 1, 0);
            due("days", 1, 1);
            // By t+a: 2, and 15 and 2 more.
            due("threadIs", 19, 15, 1);
        }
        due("restore", 2);
        due("days", 1, 1);
        due("threadIs", 4, 15, 1);
        promise = 35;
        due("image", 2);
        x.days(1);
        due("restore", 3);
        due("threadIs", 4, 15, 1);
        due("image", 3);
    }

    private static void tellAndCheck() {
        begin(37);
        for (int i = 1; i <= 24; i++) {
            due("tell", i, 0);
        }
        due("tell", FULL, 0);
        due("count", 24, 6);
        promise = 38;
        due("check", 0);
        due("count", 0, 6);
        due("check", 0);
        due("tell", 1, Integer.MIN_VALUE);
        due("check", 1);
        due("check", 0);
        x.cut(7);
        x.wear(3, 48);
        due("tell", 1, 1);
        due("tell", 2, 2);
        due("tell", 3, 2);
        due("check", 0);
        due("count", 0, 0);
        due("count", 1, 1);
        for (int i = 1; i <= 24; i++) {
            due("tell", i, i == 1 ? 1 : i == 24 ? 3 : 2);
        }
        due("check", 24);
        due("count", 0, 6);
    }

    private static void count() {
        begin(39);
        x.days(4);
        due("count", 4, 0);
        cutThreads(0, 1, 4);
        due("count", 3, 1);
        due("count", 28, 2);
        due("count", 112, 4);
        row(0, 8, 0, 1);
        x.run(0, 1);
        due("count", 2, 1);
        due("count", 28, 2);
        due("count", 97, 3);
        due("count", 112, 4);
        x.wear(0, 9);
        due("count", 121, 4);
        x.feed(0, 3);
        due("count", 3, 5);
        x.tell(0);
        due("count", 1, 6);
        x.voice(0, 2, 0);
        due("count", 3, 7);
        x.seed(-77);
        due("count", -77, 8);
        x.speed(0, 1);
        x.speed(1, 2);
        x.speed(2, 3);
        due("count", 1, 9);
        due("count", 2, 10);
        due("count", 3, 11);
        due("count", BEYOND, 12);
        due("count", BEYOND, -1);
        due("count", BEYOND, Integer.MIN_VALUE);
    }

    private static void told() {
        begin(40);
        due("told", BEYOND, 0);
        due("told", BEYOND, 7);
        due("told", BEYOND, -1);
        due("told", 3, 1);
        x.restore();
        due("told", 1, 2);
        x.cut(0);
        x.cut(0);
        x.wear(0, 0);
        due("told", 2, 3);
        for (int i = 0; i < 25; i++) {
            x.tell(0);
        }
        due("told", 1, 4);
        x.as(0, 1);
        due("told", 1, 5);
        x.voice(5, 3, 0);
        x.voice(5, 3, 0);
        due("told", 2, 6);
        x.swimsOut(5);
        due("told", 4, 1);
        due("told", 1, 2);
        // What only looks like an ERROR is none.
        x.seed(BEYOND);
        due("seed", BEYOND, 0);
        due("voice", NONE, 0, 0, NONE);
        x.text(0);
        due("told", 4, 1);
        due("told", 1, 2);
    }
}

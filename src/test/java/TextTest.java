/** The edges that the document's 'Terms' name for texts: above each test stand the words that it holds the class to. */
public final class TextTest extends Answers {
    private static final String PARTS = "0123456789xidmMlunk";

    private static void dueRule(String text, int fault) {
        due("rule " + text, rule(new HealBench(), text), fault == NONE ? 1 : -10 - fault);
    }

    private static void dueAim(String text, int fault) {
        due("aim " + text, aim(new HealBench(), text), fault == NONE ? 0 : -10 - fault);
    }

    // "THE TEXT that is typed has at most 48 characters"
    private static void longTexts() {
        String eleven = "x=0&".repeat(11);
        dueAim(eleven, 44);
        dueAim(eleven + "x", 45);
        dueAim(eleven + "x=", 46);
        dueAim(eleven + "x=0", NONE);
        dueAim(eleven + "x=0%", NONE);
        dueAim(eleven + "x=0+", 48);
        dueAim(eleven + "x=0!", 47);
        dueAim(eleven + "x=0%!", NONE);
        dueAim(eleven + "x=0+1", 48);
        dueRule(eleven + "x=0", 47);
        dueRule(eleven + "x=0>", 48);
        dueRule(eleven + "x=0>1", 48);
        String ten = "x=0&".repeat(10);
        dueRule(ten + "x=0>1+1", NONE);
        dueRule(ten + "x=0>1+1%", NONE);
        dueRule(ten + "x=0>1+1+", 48);
        dueRule(ten + "x=0>1+1>", 47);
        HealBench b = new HealBench();
        aim(b, eleven + "x=k");
        due("47 are read", b.goods(), 0);
        aim(b, eleven + "x=k%");
        due("48 are read", b.goods(), 1);
    }

    // "A RULE is a GUARD, then >, then a SUM"
    private static void ruleForm() {
        dueRule("x=0>1", NONE);
        dueRule(">1", 0);
        dueRule("x=01", 3);
        dueRule("x=0", 3);
        dueRule("x=0>", 4);
        dueRule("x=0>>1", 4);
        dueRule("x=0>1>1", 5);
        dueRule("1>x=0", 1);
        dueRule("(x=0)>1", NONE);
        dueRule("(x=0>1)", 4);
        dueAim("x=0", NONE);
        dueAim("x=0>1", 3);
    }

    // "A guard is one or more BOTHS with | between: one of them holds."
    private static void boths() {
        HealBench b = new HealBench();
        aim(b, "x=x");
        due("one that holds", b.goods(), 4);
        aim(b, "x=9");
        due("one that does not", b.goods(), 0);
        for (int holding = 0; holding < 13; holding++) {
            StringBuilder guard = new StringBuilder();
            for (int i = 0; i < 12; i++) {
                guard.append(i == 0 ? "" : "|").append(i == holding ? "x=x" : "x=9");
            }
            b = new HealBench();
            due("aim " + guard, aim(b, guard.toString()), 0);
            due("goods() by " + guard, b.goods(), holding < 12 ? 4 : 0);
        }
        b = new HealBench();
        aim(b, "x=0|x=x|i=i");
        due("more than one holds", b.goods(), 4);
    }

    // "A both is one or more TESTS with & between: all of them hold."
    private static void tests() {
        for (int failing = 0; failing < 13; failing++) {
            StringBuilder guard = new StringBuilder();
            for (int i = 0; i < 12; i++) {
                guard.append(i == 0 ? "" : "&").append(i == failing ? "x=9" : "x=x");
            }
            HealBench b = new HealBench();
            due("aim " + guard, aim(b, guard.toString()), 0);
            due("goods() by " + guard, b.goods(), failing < 12 ? 0 : 4);
        }
        HealBench b = new HealBench();
        dueHolds(b, 0, "0=0|0=0&0=1", true);
        dueHolds(b, 0, "0=1&0=0|0=0", true);
        dueHolds(b, 0, "0=1&0=1|0=0&0=1", false);
        dueHolds(b, 0, "(0=0|0=0)&0=1", false);
        dueHolds(b, 0, "0=1&(0=0|0=0)", false);
        dueHolds(b, 0, "0=1|0=0&0=0|0=1", true);
    }

    // "A test is ! and a test (it does not hold)"
    private static void nots() {
        HealBench b = new HealBench();
        for (int n = 0; n <= 8; n++) {
            dueHolds(b, 0, "!".repeat(n) + "0=0", n % 2 == 0);
            dueHolds(b, 0, "!".repeat(n) + "0=1", n % 2 == 1);
        }
        dueHolds(b, 0, "!0=1&0=1", false);
        dueHolds(b, 0, "!0=0|0=0", true);
        dueHolds(b, 0, "!(0=1&0=1)", true);
        dueHolds(b, 0, "!(0=0|0=0)", false);
    }

    // "A and a test (it holds for all neighbours, so also when there are none), E and a test (for some neighbour)"
    private static void allAndSome() {
        for (int ones = 0; ones < 16; ones++) {
            HealBench b = bench(2, "01020304", "00000");
            for (int a = 1; a <= 4; a++) {
                b.set(a, ones >> a - 1 & 1);
            }
            dueHolds(b, 0, "Ay=1", ones == 15);
            dueHolds(b, 0, "Ey=1", ones != 0);
            dueHolds(b, 0, "A!y=1", ones == 0);
            dueHolds(b, 0, "E!y=1", ones != 15);
            dueHolds(b, 0, "!Ay=1", ones != 15);
            dueHolds(b, 0, "!Ey=1", ones == 0);
        }
        HealBench b = bench(2, "12", "000");
        dueHolds(b, 0, "A0=1", true);
        dueHolds(b, 0, "Ay#y", true);
        dueHolds(b, 0, "E0=0", false);
        dueHolds(b, 0, "Ey=y", false);
        dueHolds(b, 1, "A0=1", false);
        dueHolds(b, 1, "E0=0", true);
        dueHolds(b, 1, "A0=1|0=0", true);
        dueHolds(b, 1, "E0=0&0=1", false);
        dueHolds(b, 1, "A(0=1|0=0)", true);
        b.edge(0, 1);
        dueHolds(b, 0, "A0=1", false);
        dueHolds(b, 0, "E0=0", true);
    }

    // "a sum, then =, # or <, then a sum: equal, not equal, less"
    private static void comparisons() {
        for (int left = -2; left <= 2; left++) {
            for (int right = -2; right <= 2; right++) {
                HealBench b = new HealBench();
                dueHolds(b, 0, sum(left) + "=" + sum(right), left == right);
                dueHolds(b, 0, sum(left) + "#" + sum(right), left != right);
                dueHolds(b, 0, sum(left) + "<" + sum(right), left < right);
            }
        }
        dueRule("x>0>1", 1);
        dueRule("x=0=0>1", 3);
        dueRule("x<=0>1", 2);
    }

    // "A sum is one or more PARTS with + or - between, from the left on, and perhaps % behind all"
    private static void sums() {
        HealBench b = bench(4, "", "00");
        String[] holding = {"9-1-1=7", "9-1+1=9", "1-2+1=0", "1-9<0", "9+9-9-9=0", "9+9%=2", "1+7%=0", "9-1-1%=3", "5%=1",
            "1=5%", "5%=9%", "4%<1", "9-9-9-9-9-9-9-9-9-9-9=0-9-9-9-9-9-9-9-9-9", "9+9+9+9+9+9+9+9+9+9+9=9+9+9+9+9+9+9+9+9+9+9"};
        for (String guard : holding) {
            dueHolds(b, 0, guard, true);
        }
        String[] failing = {"9-1-1=9", "9-1+1=7", "9+9%=9+1", "5=9%", "5%=9", "4=0", "5=1", "0-1=3"};
        b = bench(4, "", "00");
        for (String guard : failing) {
            dueHolds(b, 0, guard, false);
        }
    }

    // "what is left over modulo K, 0 .. K - 1"
    private static void leftOver() {
        for (int k = 2; k <= 4; k++) {
            for (int v = -20; v <= 20; v++) {
                HealBench b = new HealBench();
                b.graph(2, k);
                due(sum(v) + "% is " + Math.floorMod(v, k), holds(b, 1, sum(v) + "%=" + Math.floorMod(v, k)), true);
                due(sum(v) + " is not", holds(b, 1, sum(v) + "=" + Math.floorMod(v, k)), v >= 0 && v < k);
            }
        }
    }

    // "A part is a digit, or a letter for a number"; "x the node's value, i its number"
    private static void digitsAndOwn() {
        for (int digit = 0; digit <= 9; digit++) {
            dueHolds(new HealBench(), 0, digit + "=0" + "+1".repeat(digit), true);
        }
        HealBench b = bench(4, "", "31023");
        for (int a = 0; a < 5; a++) {
            dueHolds(b, a, "x=" + b.value(a), true);
            dueHolds(b, a, "i=" + a, true);
            dueHolds(b, a, "i=" + (a + 1), false);
        }
    }

    // "d how many neighbours it has"
    private static void degrees() {
        HealBench b = bench(2, "", "00000");
        for (int d = 0; d <= 4; d++) {
            dueHolds(b, 0, "d=" + d, true);
            for (int a = 1; a < 5; a++) {
                dueHolds(b, a, "d=" + (a <= d ? 1 : 0), true);
            }
            b.edge(d + 1, 0);
        }
    }

    // "m the least of their values, M the greatest (m is K, M is -1 when it has none)"
    private static void leastAndGreatest() {
        for (int k = 2; k <= 4; k++) {
            HealBench b = new HealBench();
            b.graph(3, k);
            b.edge(1, 2);
            dueHolds(b, 0, "m=" + k, true);
            dueHolds(b, 0, "m=k", true);
            dueHolds(b, 0, "M=0-1", true);
            dueHolds(b, 0, "M<0", true);
            dueHolds(b, 0, "M%=k-1", true);
            dueHolds(b, 0, "m%=0", true);
            b.edge(0, 1);
            dueHolds(b, 0, "m=0&M=0", true);
        }
        for (int p = 0; p < 4; p++) {
            for (int q = 0; q < 4; q++) {
                HealBench b = bench(4, "0102", "0" + p + q);
                dueHolds(b, 0, "m=" + Math.min(p, q), true);
                dueHolds(b, 0, "M=" + Math.max(p, q), true);
            }
        }
        HealBench b = bench(4, "01", "2130");
        dueHolds(b, 0, "m=1&M=1", true);
        dueHolds(b, 1, "m=2&M=2", true);
    }

    // "l and u the values of the nodes one less and one more (those of N - 1 and 0 being next to each other, too)"
    private static void lowerAndUpper() {
        for (int n = 2; n <= 5; n++) {
            for (int marked = 0; marked < n; marked++) {
                HealBench b = new HealBench();
                b.graph(n, 2);
                b.set(marked, 1);
                for (int a = 0; a < n; a++) {
                    dueHolds(b, a, "l=1", marked == (a + n - 1) % n);
                    dueHolds(b, a, "u=1", marked == (a + 1) % n);
                }
            }
        }
    }

    // "n for N, k for K"
    private static void sizes() {
        for (int n = 2; n <= 5; n++) {
            for (int k = 2; k <= 4; k++) {
                HealBench b = new HealBench();
                b.graph(n, k);
                dueHolds(b, n - 1, "n=" + n, true);
                dueHolds(b, 0, "k=" + k, true);
                dueHolds(b, 0, "k%=0", true);
            }
        }
    }

    // "under A or E also y the neighbour's value, and j its number"
    private static void ofNeighbours() {
        HealBench b = bench(4, "011213", "2301");
        dueHolds(b, 0, "E(x=2&i=0&d=1&m=3&M=3&l=1&u=3&y=3&j=1)", true);
        dueHolds(b, 1, "E(x=3&i=1&d=3&m=0&M=2&l=2&u=0&y=0&j=2)", true);
        dueHolds(b, 1, "A(j=0&y=2|j=2&y=0|j=3&y=1)", true);
        dueHolds(b, 1, "Ej=1", false);
        dueHolds(b, 1, "E!(!(y=1))&A(((j#1)))", true);
        dueHolds(b, 1, "Ey=2&Ey=1&Ej=2&!Ey=3", true);
        dueRule("y=0>0", 0);
        dueRule("x=j>0", 2);
        dueRule("x=0>y", 4);
        dueRule("Ay=0>y", 5);
        dueRule("Ey=0&y=0>0", 5);
        dueRule("Ey=0|j=0>0", 5);
        dueRule("E(y=0&x=j)&!j=0>0", 12);
        dueRule("(Ay=0&y=0)>0", 6);
        dueRule("!Ay=0&!(y=0)>0", 8);
        dueAim("y=0", 0);
        dueAim("Ay=0&j=0", 5);
    }

    // "An A or E may not stand under another one"
    private static void notUnderAnother() {
        for (String outer : new String[] {"A", "E"}) {
            for (String inner : new String[] {"A", "E"}) {
                dueRule(outer + inner + "y=0>0", 1);
                dueRule(outer + "!" + inner + "y=0>0", 2);
                dueRule(outer + "(" + inner + "y=0)>0", 2);
                dueRule(outer + "(x=0|y=0&" + inner + "y=0)>0", 10);
                dueRule("!(" + outer + "(!(" + inner + "y=0)))>0", 6);
                dueRule(outer + "y=0&" + inner + "y=0>0", NONE);
                dueRule(outer + "y=0|" + inner + "y=0>0", NONE);
                dueRule(outer + "(y=0)&!" + inner + "y=0>0", NONE);
                dueRule("(" + outer + "y=0&" + inner + "y=0)>0", NONE);
                dueAim(outer + inner + "y=0", 1);
            }
        }
    }

    // "at most 8 of !, A, E and ( are OPEN at a time (! A E until their test ends, ( until its ))"
    private static void open() {
        dueRule("!!!!!!!!x=0>1", NONE);
        dueRule("((((((((x=0))))))))>1", NONE);
        dueRule("!!!!!!!Ay=0>1", NONE);
        dueRule("!!!!!!!Ey=0>1", NONE);
        dueRule("A!!!!!!!y=0>1", NONE);
        dueRule("E(((((((y=0)))))))>1", NONE);
        dueRule("!(!(!(!Ex=0)))>1", NONE);
        for (String ninth : new String[] {"!", "A", "E", "("}) {
            dueRule("!!!!!!!!" + ninth + "x=0>1", 8);
            dueRule("((((((((" + ninth + "x=0", 8);
            dueRule("(!(!(!(!" + ninth + "x=0", 8);
            dueAim("!!!!!!!!" + ninth + "x=0", 8);
        }
        for (String ninth : new String[] {"!", "("}) {
            dueRule("A(((((((" + ninth + "x=0", 8);
            dueRule("!!!!!!!E" + ninth + "x=0", 8);
            dueRule("(!!!!!!E" + ninth + "x=0", 8);
        }
        dueRule("!!!!!!!!x=0&!!!!!!!!x=0|!!!!!!!!x=0>1", NONE);
        dueRule("((((((((x=0))))))))&((((((((x=0))))))))>1", NONE);
        dueRule("A!!!!!!!y=0&E!!!!!!!y=0>1", NONE);
        dueRule("!!!!!!!!x=0&!!!!!!!!!x=0>1", 20);
        dueRule("!(x=0)&!!!!!!!!x=0>1", NONE);
        dueRule("(!x=0&!!!!!!!x=0)>1", NONE);
        dueRule("(!x=0&!!!!!!!!x=0)>1", 13);
        dueRule("(!(x=0)&!!!!!!!x=0)>1", NONE);
        dueRule("(!(x=0)&!!!!!!!!x=0)>1", 15);
        dueRule("((((((((x=0)&!x=0)))))))>1", NONE);
        dueRule("((((((((x=0)&!!x=0", 14);
        dueRule("((((((((x=0&!x=0", 12);
        dueRule("((((((((x=0)))))))&!!!!!!!x=0)>1", NONE);
        dueRule("((((((((x=0)))))))&!!!!!!!!x=0)>1", 26);
    }

    /** Each character that can be typed, behind a text behind which just some can stand. */
    private static void dueFollow(String text, String standing, boolean isRule) {
        for (char c = 32; c <= 126; c++) {
            HealBench b = new HealBench();
            int answer = isRule ? rule(b, text + c) : aim(b, text + c);
            boolean stands = answer != -10 - text.length();
            due((isRule ? "rule " : "aim ") + text + c + ": it can stand", stands, standing.indexOf(c) >= 0);
            due("a place from 0 to the length", answer >= 0 || answer <= -10 && answer >= -11 - text.length(), true);
        }
    }

    private static void dueFollow(String text, String standing) {
        dueFollow(text, standing, true);
        dueFollow(text, standing.replace(">", ""), false);
    }

    // "The FAULT of a text is the first character that cannot stand where it is"
    private static void followers() {
        String neighbourParts = PARTS + "yj";
        dueFollow("", PARTS + "!AE(");
        dueFollow("x", "+-%=#<");
        dueFollow("0", "+-%=#<");
        dueFollow("x+", PARTS);
        dueFollow("x-1-", PARTS);
        dueFollow("x%", "=#<");
        dueFollow("x=", PARTS);
        dueFollow("x#", PARTS);
        dueFollow("x<", PARTS);
        dueFollow("x=0", "+-%&|>");
        dueFollow("x=0%", "&|>");
        dueFollow("x=0&", PARTS + "!AE(");
        dueFollow("x=0|", PARTS + "!AE(");
        dueFollow("(", PARTS + "!AE(");
        dueFollow("(x=0", "+-%&|)");
        dueFollow("(x=0%", "&|)");
        dueFollow("(x=0)", "&|>");
        dueFollow("((x=0)", "&|)");
        dueFollow("!", PARTS + "!AE(");
        dueFollow("!x=0", "+-%&|>");
        dueFollow("A", neighbourParts + "!(");
        dueFollow("E", neighbourParts + "!(");
        dueFollow("A!", neighbourParts + "!(");
        dueFollow("E(", neighbourParts + "!(");
        dueFollow("E(y=0&", neighbourParts + "!(");
        dueFollow("Ay", "+-%=#<");
        dueFollow("Ay-", neighbourParts);
        dueFollow("Ay=", neighbourParts);
        dueFollow("Ay=0", "+-%&|>");
        dueFollow("Ay=0&", PARTS + "!AE(");
        dueFollow("A(y=0)", "&|>");
        dueFollow("A(y=0)|", PARTS + "!AE(");
        dueFollow("!!!!!!!!", PARTS);
        dueFollow("!!!!!!!", PARTS + "!AE(");
        dueFollow("!!!!!!!A", neighbourParts);
        dueFollow("!!!!!!A", neighbourParts + "!(");
        dueFollow("x=0>", PARTS, true);
        dueFollow("Ay=0>", PARTS, true);
        dueFollow("x=0>1", "+-%", true);
        dueFollow("x=0>1+", PARTS, true);
        dueFollow("x=0>1-x", "+-%", true);
        dueFollow("x=0>1%", "", true);
    }

    // "its length, where it ends too early. Places are from 0."
    private static void endings() {
        String whole = "!(Ay+1=0|x#M%)&E(j<i)>x-1%";
        int sum = whole.indexOf('>') + 1;
        for (int length = 0; length <= whole.length(); length++) {
            boolean isWhole = length == sum + 1 || length >= sum + 3;
            dueRule(whole.substring(0, length), isWhole ? NONE : length);
        }
        String guard = whole.substring(0, sum - 1);
        for (int length = 0; length <= guard.length(); length++) {
            boolean isWhole = length == guard.indexOf('&') || length == guard.length();
            dueAim(guard.substring(0, length), isWhole ? NONE : length);
        }
        dueRule("y=y>y", 0);
        dueRule("x=y>y", 2);
        dueRule("x=!&", 2);
        dueRule("x=0>", 4);
    }

    public static void main(String[] args) {
        longTexts();
        ruleForm();
        boths();
        tests();
        nots();
        allAndSome();
        comparisons();
        sums();
        leftOver();
        digitsAndOwn();
        degrees();
        leastAndGreatest();
        lowerAndUpper();
        sizes();
        ofNeighbours();
        notUnderAnother();
        open();
        followers();
        endings();
        end();
    }
}

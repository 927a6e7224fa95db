/** Promise 6: how the text of a law is read. */
final class LawTest {
    private static final Due DUE = new Due();
    private static final ToadBank X = new ToadBank();

    public static void main(String[] args) {
        good();
        faultOneInRules();
        faultOneInSums();
        faultOneInCases();
        faultTwo();
        faultFour();
        faultFive();
        stays();
        refused();
        DUE.end();
    }

    private static void is(String text, int want) {
        DUE.is("law " + text, Due.law(X, text), want);
        DUE.is("tape behind " + text, X.count(6), 0);
    }

    private static void good() {
        is("f10(b=0)", 1);
        is("f10(b=0);w0(c>1);q5(m<6);i1(d>0);x(o>g)", 5);
        DUE.is("rules", X.count(5), 5);
        is("fb+c-o*g/e%d(m=1)", 1);
        is("f[1+[2*3]](b=0)", 1);
        is("fb(!b=0&(c=1|!(d=2&e=3))|g<99999)", 1);
        is("x(!!!!b=0)", 1);
        is("f00000(00000=0)", 1);
        is("x(b=0);x(b=0)", 2);
    }

    private static void faultOneInRules() {
        is("a", -1000);
        is("F1(b=0)", -1000);
        is(" f1(b=0)", -1000);
        is("(b=0)", -1000);
        is(";", -1000);
        is("f", -1001);
        is("f(b=0)", -1001);
        is("x", -1001);
        is("x1(b=0)", -1001);
        is("xb(b=0)", -1001);
        is("f1", -1002);
        is("f1;", -1002);
        is("f1b=0", -1002);
        is("f1(b=0", -1006);
        is("f1(b=0)x", -1007);
        is("f1(b=0))", -1007);
        is("f1(b=0) ", -1007);
        is("f1(b=0);", -1008);
        is("f1(b=0);;", -1008);
        is("f1(b=0);z", -1008);
        is("f1(b=0)" + (char) 0, -1007);
        is((char) 230 + "1(b=0)", -1000);
    }

    private static void faultOneInSums() {
        is("f+1(b=0)", -1001);
        is("f-1(b=0)", -1001);
        is("f1+(b=0)", -1003);
        is("f1++1(b=0)", -1003);
        is("f1*/1(b=0)", -1003);
        is("f1b(b=0)", -1002);
        is("f1[2](b=0)", -1002);
        is("fb1(b=0)", -1002);
        is("fbb(b=0)", -1002);
        is("f[](b=0)", -1002);
        is("f[1(b=0)", -1003);
        is("f[1)", -1003);
        is("f[1", -1003);
        is("f1](b=0)", -1002);
        is("f[1]](b=0)", -1004);
        is("f[1]2(b=0)", -1004);
        is("fa(b=0)", -1001);
        is("fx(b=0)", -1001);
        is("f1<2(b=0)", -1002);
        is("f1 +2(b=0)", -1002);
    }

    private static void faultOneInCases() {
        is("x()", -1002);
        is("x(b)", -1003);
        is("x(b=)", -1004);
        is("x(b=0=0)", -1005);
        is("x(b==0)", -1004);
        is("x(b=0&)", -1006);
        is("x(b=0|)", -1006);
        is("x(b=0&&b=0)", -1006);
        is("x(&b=0)", -1002);
        is("x(!)", -1003);
        is("x(b!=0)", -1003);
        is("x((b=0)", -1007);
        is("x((b=0)+1=0)", -1007);
        is("x((b)=0)", -1004);
        is("x((b=0)=1)", -1007);
        is("x(b=(0))", -1004);
        is("x([b=0])", -1004);
        is("x([b]=0)", 1);
        is("x(b=0(b=0))", -1005);
        is("x(b=0!b=0)", -1005);
        is("x(b=0;", -1005);
    }

    private static void faultTwo() {
        is("f99999(b=0)", 1);
        is("f999999(b=0)", -2006);
        is("f000001(b=0)", -2006);
        is("x(b=123456)", -2009);
        is("x(123456=b)", -2007);
        is("f[[123456]](b=0)", -2008);
    }

    private static String many(int n) {
        StringBuilder text = new StringBuilder("x(b=0)");
        for (int i = 1; i < n; i++) {
            text.append(";x(b=0)");
        }
        return text.toString();
    }

    private static void faultFour() {
        is(many(16), 16);
        is(many(17), -4112);
        is(many(16) + ";f", -4112);
        is(many(16) + ";b", -1112);
        is(many(16) + ";", -1112);
        is(many(16) + "x", -1111);
        is(many(34), -4112);
    }

    private static void faultFive() {
        is("x((((((b=0))))))", 1);
        is("x(((((((b=0)))))))", -5007);
        is("x(((((((", -5007);
        is("x(!!!!!b=0)", 1);
        is("x(!!!!!!b=0)", -5007);
        is("x(!(!(!b=0)))", 1);
        is("x(!(!(!(b=0))))", -5007);
        is("x(!(!(![b]=0)))", -5007);
        is("f[[[[[[1]]]]]](b=0)", 1);
        is("f[[[[[[[1]]]]]]](b=0)", -5007);
        is("x([[[[[1]]]]]=0)", 1);
        is("x([[[[[[1]]]]]]=0)", -5007);
        is("x(0=[[[[[[1]]]]]])", -5009);
        is("x(![[[[1]]]]=0)", 1);
        is("x(![[[[[1]]]]]=0)", -5007);
        // A ! is open till its test ends, no longer.
        is("x(!b=0&[[[[[1]]]]]=0)", 1);
        is("x(!!b=0|(((((b=0))))))", 1);
        is("x(!b=[[[[1]]]]|[[[[[1]]]]]=0)", 1);
        // The sum of a rule stands ahead of its bracket.
        is("i[[[[[[1]]]]]]((((((b=0))))))", 1);
        // What can't stand there at all is told as such.
        is("x((((((b(=0", -1008);
        is("x((((((b=0[", -1010);
    }

    private static void stays() {
        is("f1(b=0);x(b=1)", 2);
        is("f1(b=0);f1", -1010);
        DUE.is("rules stay", X.count(5), 2);
        ToadBank x = Due.town(0, 0);
        Due.law(x, "f3(b=0)");
        Due.law(x, "f5(b=0);f7(b=1);");
        x.months(1);
        DUE.is("the law before", x.bankIs(0, 0) * 10 + x.bankIs(1, 0), 30);
        Due.law(x, "f4(b=1)");
        x.months(1);
        DUE.is("in place of the one before", x.bankIs(0, 0) * 10 + x.bankIs(1, 0), 34);
    }

    private static void refused() {
        ToadBank x = new ToadBank();
        DUE.is("empty tape", x.law(1), -1);
        for (int i = 0; i < 13; i++) {
            x.feed(0x66302862, 0x3d30293b, 0x66302862, 0x3d30293b, 0x20202020);
        }
        DUE.is("0", x.law(0), -1);
        DUE.is("-1", x.law(-1), -1);
        DUE.is("241", x.law(241), -1);
        DUE.is("MIN", x.law(Integer.MIN_VALUE), -1);
        DUE.is("MAX", x.law(Integer.MAX_VALUE), -1);
        DUE.is("tape stays", x.count(6), 260);
        DUE.is("the first seven", x.law(7), 1);
        DUE.is("empty then", x.count(6), 0);
        x.feed(0x66302862, 0x3d302920, 0, 0, 0);
        DUE.is("not so many", x.law(21), -1);
        DUE.is("all of it", x.law(20), -1007);
        StringBuilder text = new StringBuilder("f1");
        for (int i = 0; i < 116; i++) {
            text.append("+1");
        }
        text.append("(b=b)x");
        DUE.is("length", text.length(), 240);
        DUE.is("240 bytes", Due.law(x, text.toString()), -1239);
        text.setCharAt(1, 'b');
        text.setLength(239);
        DUE.is("239 bytes", Due.law(x, text.toString()), 1);
        x.bank(5, 0);
        x.months(1);
        DUE.is("5 and 116 times 1", x.bankIs(5, 0), 121);
    }
}

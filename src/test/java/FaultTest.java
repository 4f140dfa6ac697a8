/** Texts written by hand, each with the FAULT and the place that are due: the word behind # is where it stands. */
final class FaultTest {
    private final Checks checks = new Checks();

    private FaultTest() {
    }

    public static void main(String[] args) {
        FaultTest test = new FaultTest();
        test.tokens();
        test.tooMuch();
        test.notThere();
        test.notNow();
        test.second();
        test.expressions();
        test.deepExpressions();
        test.good();
        test.checks.end();
    }

    private void fault(int due, String marked) {
        checks.fault(due, marked);
    }

    private void good(String text) {
        checks.good(text);
    }

    private void tokens() {
        fault(1, "#x");
        fault(1, "#;");
        fault(1, "#4 streets;");
        fault(1, "#Streets 4;");
        fault(1, "streets 4#,");
        fault(1, "streets#\t4;");
        fault(1, "streets 4;#\u00e9");
        fault(1, "streets#\0" + "4;");
        fault(1, "streets#");
        fault(1, "streets   #");
        fault(1, "streets 4  \n #");
        fault(1, "streets 4 #5;");
        fault(1, "streets #four;");
        fault(1, "#streetss 4;");
        fault(1, "#street 4;");
        fault(1, "#math 0 1;");
        fault(1, "path 0#;");
        fault(1, "path 0 1 #2;");
        fault(1, "path 0 1#");
        fault(1, "round#;");
        fault(1, "round 0 #x;");
        fault(1, "person#;");
        fault(1, "person 5#;");
        fault(1, "person 5 0 #person 5 0;");
        fault(1, "bishop 5 0#-1;");
        fault(1, "fog#;");
        fault(1, "fog 1#=2;");
        fault(1, "reserve#;");
        fault(1, "reserve 1 #2;");
        fault(1, "worth#;");
        fault(1, "worth #");
        fault(1, "streets 4;#;");
        fault(1, "#12345");
        fault(1, "streets 4 #12345");
    }

    private void tooMuch() {
        fault(2, "streets #9;");
        fault(2, "streets #1;");
        fault(2, "streets #0;");
        fault(2, "streets #00004;");
        fault(2, "path #12345 0;");
        fault(2, "path 0 #00001;");
        fault(2, "person #1000 0;");
        fault(2, "bishop #00000 0;");
        fault(2, "fog #10;");
        fault(2, "fog 1 2 #12;");
        fault(2, "reserve #100;");
        fault(2, "fog 1 2 3 4 5 6 7 8 #9;");
        fault(2, "fog 1 2 3 4 5 6 7 8 #99;");
        fault(2, "round 0 1 2 3 0 1 2 3 #0;");
        fault(2, "round 0 1 2 3 0 1 2 3 #77;");
        fault(1, "round 0 1 2 3 0 1 2 3 #x;");
        fault(2, "person 5 0 1 2 3 0 1 #2;");
        fault(2, "person 5 0 1 2 3 0 1 #9;");
        fault(1, "person 5 0 1 2 3 0 1#");
        fault(2, "person 1 0;".repeat(7) + "#person 1 0;");
        fault(2, "bishop 1 0;".repeat(7) + "#bishop");
        fault(2, Texts.paths(14) + "#path 0 0;");
        fault(2, Texts.paths(14) + "#path;");
    }

    private void notThere() {
        fault(3, "path #4 0;");
        fault(3, "path 0 #4;");
        fault(3, "path 0 #9999;");
        fault(3, "round 0 3 #4;");
        fault(3, "person 5 #4;");
        fault(3, "bishop 5 3 #5;");
        fault(3, "streets 2; round 1 #2;");
        fault(3, "streets 8; round 7 #8;");
        fault(3, "worth #x;");
        fault(3, "worth #streets;");
        fault(3, "worth #z;");
        fault(3, "worth #xwn;");
        fault(3, "worth #owm;");
        fault(3, "worth #or;");
        fault(3, "worth #and 1;");
        fault(3, "worth 1 or #or 2;");
        fault(3, "worth 1 + #not 2;");
        fault(3, "worth 1 < #not 2;");
        fault(3, "worth 1 * #hour;");
        fault(3, "worth not #nota;");
        fault(3, "worth (#person);");
    }

    private void notNow() {
        fault(4, "path 0 #0;");
        fault(4, "path 0 1; path 0 #1;");
        fault(4, "path 0 1; path 1 #0;");
        fault(4, "path 0 1; #streets 4;");
        fault(4, "round 0; #streets 4;");
        fault(4, "person 1 0; #streets 4;");
        fault(4, "streets 4; round 0; #streets 4;");
        fault(4, "path 1 #01;");
    }

    private void second() {
        fault(5, "streets 4; #streets 4;");
        fault(5, "streets 4; fog 1; reserve 2; worth 3; #streets 4;");
        fault(5, "round 0; #round 0;");
        fault(5, "fog 0; #fog;");
        fault(5, "reserve 0; #reserve 0;");
        fault(5, "worth 0; #worth 0;");
    }

    private void expressions() {
        fault(1, "worth 1 #2;");
        fault(1, "worth 1 #own;");
        fault(1, "worth 1 #not 2;");
        fault(1, "worth 1 #12345;");
        fault(1, "worth 1 < 2 #< 3;");
        fault(1, "worth 1 = 2 #= 3;");
        fault(1, "worth 1 < 2 #= 3;");
        fault(1, "worth 1 + #+ 2;");
        fault(1, "worth #- 2;");
        fault(1, "worth 1 +#;");
        fault(1, "worth 1 +#");
        fault(1, "worth 1 or#;");
        fault(1, "worth not#;");
        fault(1, "worth (1#;");
        fault(1, "worth (1#");
        fault(1, "worth 1#);");
        fault(1, "worth (#);");
        fault(1, "worth 1 #(2);");
        fault(2, "worth #10000;");
        fault(2, "worth 1 + #00000;");
        fault(2, "worth not not not not not not #not 1;");
        fault(2, "worth 1 and not not not not not not #not");
        fault(1, "worth not not not not not not#;");
    }

    private void deepExpressions() {
        fault(2, "worth ((((((#1))))));");
        fault(2, "worth ((((((#own))))));");
        fault(2, "worth ((((((#x))))));");
        fault(2, "worth ((((((#not 1))))));");
        fault(2, "worth ((((((#(1)))))));");
        fault(1, "worth ((((((#)))))));");
        fault(1, "worth ((((((#+1))))));");
        fault(1, "worth ((((((#");
        fault(1, "worth (((((#;");
        fault(2, "worth 1 + (2 * (3 < (not (5 or (6 and (#7))))));");
    }

    private void good() {
        good("");
        good(" \n ");
        good("streets4;path0 1;round0 1;person9 1;fog0;reserve0;worth own;");
        good("streets 0008; round 0007;");
        good("reserve 99; fog 9 9 9 9 9 9 9 9; worth 9999; round 0 1 2 3 3 2 1 0;");
        good("fog 1; reserve 1; worth 1; streets 3; path 2 0;");
        good("worth (((((1)))));");
        good("worth not not not not not not 1;");
        good("worth not not not not not not (not not not not not not 1);");
        good("worth (1 < 2) < 3 and (1 = 2) = 3 or 4;");
        good("worth 1*2/3+4-5<6*7 and not own or coins and theirs=knows or hours+street+lots+night;");
        good(Texts.paths(14));
        good("person 999 0 1 2 3 0 1;".repeat(3) + "bishop 0 0;".repeat(4));
    }
}

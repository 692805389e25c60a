/** Promises 4, 5 and 9: fault, text of RULES, rule; and what a RULE is worth. */
public final class RuleTest {
    public static void main(String[] args) {
        Due due = new Due();
        soundTexts(due);
        faults(due);
        within(due);
        taking(due);
        giving(due);
        truths(due);
        clauses(due);
        due.end("RuleTest");
    }

    private static void fault(Due due, String text, int want) {
        due.is("fault(1) of " + text, Due.fault(text, 1), want);
    }

    private static void soundTexts(Due due) {
        for (String text : new String[] {"y:0", "y:9999", " y : d ", "y:[d]", "y:d+a-b*o/l+t", "y:d=1?2", "y:!d=1?2",
            "y:(d=1)?2", "y:((d=1|a<2)&b>3)?[[1]]", "y:d=1?2;y:3", "y:1;y:2;y:d>1&a>1|!o=1?1", "y:0001",
            "y:d+1=a*2?1", "y:[d]=[a]?1", "y:!!(!d=1)&!(a=1)?1", "y : 1 + 2 ; y : 3"}) {
            fault(due, text, Due.NONE);
        }
    }

    private static void faults(Due due) {
        fault(due, "", 0);
        fault(due, "  ", 2);
        fault(due, "y", 1);
        fault(due, "y:", 2);
        fault(due, "y1", 1);
        fault(due, "x:1", 0);
        fault(due, ":1", 0);
        fault(due, "y:1;", 4);
        fault(due, "y:1; ", 5);
        fault(due, "y:1;;y:1", 4);
        fault(due, "y:1y:1", 3);
        fault(due, "y:1;1", 4);
        fault(due, "y:d?1", 3);
        fault(due, "y:d=1", 5);
        fault(due, "y:d=1;y:1", 5);
        fault(due, "y:d=1?", 6);
        fault(due, "y:d=1?2?3", 7);
        fault(due, "y:d=1?a=2", 7);
        fault(due, "y:d=1=1?1", 5);
        fault(due, "y:d&1", 3);
        fault(due, "y:d=1&", 6);
        fault(due, "y:d=1&a?1", 7);
        fault(due, "y:(d)=1?1", 4);
        fault(due, "y:(d=1", 6);
        fault(due, "y:(d=1?1", 6);
        fault(due, "y:(d=1)=1?1", 7);
        fault(due, "y:(d=1)", 7);
        fault(due, "y:(d=1)+1", 7);
        fault(due, "y:!1", 4);
        fault(due, "y:!1?1", 4);
        fault(due, "y:[d=1]?1", 4);
        fault(due, "y:[(1)]", 3);
        fault(due, "y:[1", 4);
        fault(due, "y:[]", 3);
        fault(due, "y:1]", 3);
        fault(due, "y:-1", 2);
        fault(due, "y:1+", 4);
        fault(due, "y:1++1", 4);
        fault(due, "y:1 2", 4);
        fault(due, "y:1d", 3);
        fault(due, "y:dd", 3);
        fault(due, "y:s", 2);
        fault(due, "y:12345", 6);
        fault(due, "y:00000", 6);
        fault(due, "y:1+12345=", 8);
        fault(due, "y:1!", 3);
        fault(due, "y:1=!1?1", 4);
        fault(due, "y:\u00b2", 2);
    }

    private static void within(Due due) {
        fault(due, "y:[[[[[[1]]]]]]", Due.NONE);
        fault(due, "y:[[[[[[[1]]]]]]]", 8);
        fault(due, "y:!!!!!!1=1?1", Due.NONE);
        fault(due, "y:!!!!!!!1=1?1", 8);
        fault(due, "y:!!!!!!(1=1)?1", 8);
        fault(due, "y:!!!!!![1]=1?1", 8);
        fault(due, "y:!!!!!!1=[1]?1", 10);
        fault(due, "y:!!!!!!1=1&[1]=1?1", Due.NONE);
        fault(due, "y:((((((1=1))))))?1", Due.NONE);
        fault(due, "y:(((((((1=1", 8);
        fault(due, "y:(!(![[1]]=1))?1", Due.NONE);
        fault(due, "y:(!(![[[1]]]=1))?1", 8);
        fault(due, "y:[[[[[[1]]]]]]+[[[[[[2]]]]]]", Due.NONE);
        fault(due, "y:[[[[[[1]]]]]]+[[[[[[[", 22);
        fault(due, "y:(1=1)?[[[[[[1]]]]]]", Due.NONE);
    }

    private static void taking(Due due) {
        SecondHas x = new SecondHas();
        for (int i = 0; i < 4; i++) {
            due.is("the number of a rule", Due.rule(x, "y:" + i), i);
            due.is("the tape is empty", x.count(2), 0);
            due.is("rules", x.count(1), i + 1);
            due.is("a fault", Due.rule(x, "y:"), Due.NONE);
            due.is("the tape stays", x.count(2), 2);
        }
        due.is("there are four", Due.rule(x, "y:1"), Due.NONE);
        due.is("the tape stays", x.count(2), 3);
        due.is("rules", x.count(1), 4);
        due.is("no fault", x.fault(1), Due.NONE);
        due.is("a land", Due.land(x, "s;s"), 2);
        due.is("rules stay", x.count(1), 4);
    }

    private static void giving(Due due) {
        SecondHas x = Due.of("s;s", "y:1", "y:2");
        due.is("give", x.rule(1, 1), true);
        due.is("given", Due.striver(x, 1, 4), 1);
        due.is("none to the other", Due.striver(x, 0, 4), Due.NONE);
        due.is("no such rule", x.rule(1, 2), false);
        due.is("no such rule", x.rule(1, -2), false);
        due.is("no such striver", x.rule(2, 0), false);
        due.is("no such striver", x.rule(-1, 0), false);
        due.is("as it was", Due.striver(x, 1, 4), 1);
        due.is("another", x.rule(1, 0), true);
        due.is("given", Due.striver(x, 1, 4), 0);
        due.is("take away", x.rule(1, Due.NONE), true);
        due.is("none", Due.striver(x, 1, 4), Due.NONE);
        due.is("no land", new SecondHas().rule(0, Due.NONE), false);
    }

    /** Of two strivers the first one runs by the rule, the other stays: its steps in the first second. */
    private static int steps(String rule) {
        SecondHas x = Due.of("sp9;s", rule);
        x.rule(0, 0);
        return x.step(99, 7, 0, 1);
    }

    private static void truth(Due due, String condition, boolean want) {
        due.is(condition, steps("y:" + condition + "?1") == 1, want);
    }

    private static void truths(Due due) {
        truth(due, "1=1", true);
        truth(due, "1=2", false);
        truth(due, "1<2", true);
        truth(due, "2<2", false);
        truth(due, "2>1", true);
        truth(due, "2>2", false);
        truth(due, "!1=2", true);
        truth(due, "!1=1", false);
        truth(due, "!1<2", false);
        truth(due, "!2>1", false);
        truth(due, "!!1=2", false);
        truth(due, "!!1=1", true);
        truth(due, "!1=2&1=1", true);
        truth(due, "1=1&1<2", true);
        truth(due, "1<2&2>1", true);
        truth(due, "1=1&2>1", true);
        truth(due, "1=1|(1=2)&1=2", true);
        truth(due, "1=2|(1=1|1=2)&1=1", true);
        truth(due, "1=1|1=2&(1=1&1=2)", true);
        truth(due, "1=2|1=1", true);
        truth(due, "1=1|1=1|1=2", true);
        truth(due, "1=2|1=2|1=1", true);
        truth(due, "1=1&1=2", false);
        truth(due, "1=1|1=1&1=2", true);
        truth(due, "(1=1|1=1)&1=2", false);
        truth(due, "1=2&1=1|1=1", true);
        truth(due, "!1=2&1=2", false);
        truth(due, "!(1=2&1=2)", true);
        truth(due, "1+2*3=7", true);
        truth(due, "[1+2]*3=9", true);
        truth(due, "7-2-1=4", true);
        truth(due, "7-2*3+1=2", true);
        truth(due, "8/2/2=2", true);
        truth(due, "8/[2/2]=8", true);
        truth(due, "7/2*2=6", true);
        truth(due, "[1-8]/2=0-3", true);
        truth(due, "7/[0-2]=0-3", true);
        truth(due, "5/0=0", true);
        truth(due, "1+5/0=1", true);
        truth(due, "9999*9999=1000*1000", true);
        truth(due, "9999*9999-1=1000*1000-1", true);
        truth(due, "1000*1000+1=1000*1000", true);
        truth(due, "0-9999*9999=0-1000*1000", true);
        truth(due, "0-1000*1000-1+1=1-1000*1000", true);
        truth(due, "1000*1000*[1000*1000]=1000*1000", true);
        truth(due, "999*1001=1000*1000-1", true);
        truth(due, "d=99", true);
        truth(due, "a=0&b=0&o=0", true);
        truth(due, "l=7", true);
        truth(due, "t=0", true);
        truth(due, "0012=12", true);
    }

    private static void clauses(Due due) {
        due.is("a number", steps("y:4"), 4);
        due.is("above pace", steps("y:10"), 9);
        due.is("below 0", steps("y:1-2"), 0);
        due.is("the first that holds", steps("y:1=2?1;y:1=1?2;y:1=1?3;y:4"), 2);
        due.is("one without condition", steps("y:1=2?1;y:2;y:1=1?3"), 2);
        due.is("none holds", steps("y:1=2?1;y:1=2?2"), 0);
        due.is("a rule as long as a tape can hold", steps("y:1" + "+0".repeat(78)), 1);
        due.is("none given", Due.of("s;s", "y:1").step(9, 9, 0, 9), 0);
    }
}

/** Promise 3 and Terms 1: every fault, at its place, with its kind; and texts that have none. */
public final class FaultsTest {
    private static final String HEAD = "sketch 4;";

    private static void fault(int kind, String marked) { Tester.fault(kind, marked); }

    private static void well(int statements, String text) { Tester.well(statements, text); }

    private static String times(int n, String text) { return text.repeat(n); }

    public static void main(String[] args) {
        tokens();
        grammar();
        names();
        bounds();
        tooMany();
        ofOnePlace();
        Tester.end();
    }

    private static void tokens() {
        well(0, "sketch 4;spec 1;");
        well(0, "sketch4;spec1;");
        well(0, "\n sketch\n4 ;\n spec 1\n; \n");
        well(0, "sketch 00004;spec 99999;");
        well(0, HEAD + "in abcdef 1;spec abcdef;");
        fault(1, "@");
        fault(1, "   @");
        fault(1, "sketch 4;@\tspec 1;");
        fault(1, "sketch 4;@\rspec 1;");
        fault(1, "sketch 4;spec 1;@\u0000");
        fault(1, "sketch 4;spec 1;@\u00e4");
        fault(1, "sketch 4;spec @A;");
        fault(1, "sketch 4;spec 1 @> 0;");
        fault(1, "sketch @000004;spec 1;");
        fault(1, "sketch 4;spec @100000;");
        fault(1, "sketch 4;in @abcdefg 1;spec 1;");
        fault(1, "@sketchh 4;spec 1;");
        // A place ahead of a byte that begins no token counts first.
        fault(2, "sketch 4;spec @q ?;");
        fault(1, "sketch 4;@; spec ?;");
    }

    private static void grammar() {
        fault(1, "@spec 1;");
        fault(1, "sketch @;");
        fault(1, "sketch 4@");
        fault(1, "sketch 4 @spec 1;");
        fault(1, "sketch 4;@");
        fault(1, "sketch 4;spec @;");
        fault(1, "sketch 4;spec 1@");
        fault(1, "sketch 4;spec 1;@;");
        fault(1, "sketch 4;spec 1;@spec 1;");
        fault(1, "sketch 4;spec 1; @in a 1;");
        fault(1, HEAD + "in @3;spec 1;");
        fault(1, HEAD + "in a @;spec 1;");
        fault(1, HEAD + "in a 2 @rank 2;spec 1;");
        fault(1, HEAD + "in @spec 2;spec 1;");
        fault(1, HEAD + "hole a 2 rank @;spec 1;");
        fault(1, HEAD + "hole a 2 rank 2 @rank 2;spec 1;");
        fault(1, HEAD + "var a @2;spec 1;");
        fault(1, HEAD + "var a;a=1;@var b;spec 1;");
        fault(1, HEAD + "must 1;@in b 1;spec 1;");
        fault(1, HEAD + "var a;a@;spec 1;");
        fault(1, HEAD + "var a;a=@;spec 1;");
        fault(1, HEAD + "var a;a=1@spec 1;");
        fault(1, HEAD + "must @;spec 1;");
        fault(1, HEAD + "if 1 @;spec 1;");
        fault(1, HEAD + "if @{}spec 1;");
        fault(1, HEAD + "if 1{@spec 1;");
        fault(1, HEAD + "if 1{}else @if 1{}spec 1;");
        fault(1, HEAD + "@else{}spec 1;");
        fault(1, HEAD + "if 1{}else{}@else{}spec 1;");
        fault(1, HEAD + "loop @x{}spec 1;");
        fault(1, HEAD + "loop @{}spec 1;");
        fault(1, HEAD + "loop 2 @most 2{}spec 1;");
        fault(1, HEAD + "while 1 @{}spec 1;");
        fault(1, HEAD + "while 1 most @{}spec 1;");
        fault(1, HEAD + "let a @1{}spec 1;");
        fault(1, HEAD + "let a=1@;spec 1;");
        fault(1, HEAD + "let @1=1{}spec 1;");
        fault(1, HEAD + "@}spec 1;");
        fault(1, HEAD + "@{}spec 1;");
        fault(1, HEAD + "spec 1=2@=3;");
        fault(1, HEAD + "spec 1<2@<3;");
        fault(1, HEAD + "spec 1<2@=3;");
        fault(1, HEAD + "spec 1 @2;");
        fault(1, HEAD + "spec (1@;");
        fault(1, HEAD + "spec 1@);");
        fault(1, HEAD + "spec (@);");
        fault(1, HEAD + "spec 1+@;");
        fault(1, HEAD + "spec 1+@*2;");
        fault(1, HEAD + "spec @rank;");
        fault(1, HEAD + "spec 1@~1;");
        well(0, HEAD + "spec 1=2&3=4|5<6^(7=8)=9;");
        well(0, HEAD + "spec 1--1+-1-~-~1;");
        well(7, HEAD + "var a;if a{a=1;}else{must 1;}loop 9{}while a most 1{let b=a{b=b;}}spec a;");
    }

    private static void names() {
        fault(2, HEAD + "spec @a;");
        fault(2, HEAD + "@a=1;spec 1;");
        fault(2, HEAD + "in a 1;@a=1;spec 1;");
        fault(2, HEAD + "hole a 1;@a=1;spec 1;");
        fault(2, HEAD + "let a=@a{}spec 1;");
        fault(2, HEAD + "let a=1{a=a;}@a=1;spec 1;");
        fault(2, HEAD + "let a=1{}spec @a;");
        fault(2, HEAD + "var a;a=@aa;spec 1;");
        // The name is at the least place, whatever comes behind it.
        fault(2, HEAD + "@a;spec 1;");
        fault(3, HEAD + "in a 1;in @a 1;spec 1;");
        fault(3, HEAD + "hole a 1;var @a;spec 1;");
        fault(3, HEAD + "var a;hole @a 9;spec 1;");
        fault(3, HEAD + "var a;let @a=1{}spec 1;");
        fault(3, HEAD + "let a=1{let @a=1{}}spec 1;");
        well(2, HEAD + "let a=1{}let a=2{}spec 1;");
        well(3, HEAD + "let a=1{let b=a{a=b;}}spec 1;");
    }

    private static void bounds() {
        fault(4, "sketch @0;spec 1;");
        fault(4, "sketch @17;spec 1;");
        well(0, "sketch 1;spec 1;");
        well(0, "sketch 16;spec 1;");
        fault(4, "sketch 16;in a @0;spec 1;");
        fault(4, "sketch 16;in a @7;spec 1;");
        fault(4, "sketch 16;hole a @0;spec 1;");
        fault(4, "sketch 16;hole a @7;spec 1;");
        well(0, "sketch 16;in a 6;hole b 6;spec 1;");
        fault(4, "sketch 3;in a @4;spec 1;");
        fault(4, "sketch 3;hole a @4;spec 1;");
        well(0, "sketch 3;in a 3;hole b 3;spec 1;");
        fault(4, HEAD + "hole a 1 rank @10;spec 1;");
        well(0, HEAD + "hole a 1 rank 0;hole b 1 rank 9;spec 1;");
        fault(4, HEAD + "loop @0{}spec 1;");
        fault(4, HEAD + "loop @10{}spec 1;");
        fault(4, HEAD + "while 1 most @0{}spec 1;");
        fault(4, HEAD + "while 1 most @10{}spec 1;");
        well(2, HEAD + "loop 1{}loop 9{}spec 1;");
        well(2, HEAD + "while 0 most 1{}while 0 most 9{}spec 1;");
    }

    private static void tooMany() {
        fault(5, HEAD + "in a 1;in b 1;in c 1;@in d 1;spec 1;");
        fault(5, HEAD + "hole a 1;hole b 1;hole c 1;hole d 1;hole e 1;@hole f 1;spec 1;");
        fault(5, HEAD + "var a;var b;var c;var d;@var e;spec 1;");
        fault(5, HEAD + "in a 4;in b @4;spec 1;");
        fault(5, HEAD + "hole a 4;in x 3;hole b 3;hole c @1;spec 1;");
        well(0, HEAD + "in a 4;in b 3;hole c 4;hole d 3;spec 1;");
        well(0, HEAD + "in a 1;in b 1;in c 1;hole d 1;hole e 1;hole f 1;hole g 1;hole h 1;var i;var j;var k;var l;spec 1;");
        well(24, HEAD + times(24, "must 1;") + "spec 1;");
        fault(5, HEAD + times(24, "must 1;") + "@must 1;spec 1;");
        fault(5, HEAD + "var a;" + times(23, "must 1;") + "loop 2{@a=1;}spec 1;");
        fault(5, HEAD + "loop 1{" + times(23, "must 1;") + "}@must 1;spec 1;");
        well(3, HEAD + "let a=1{let b=1{let c=1{}}}spec 1;");
        fault(5, HEAD + "let a=1{let b=1{let c=1{@let d=1{}}}}spec 1;");
        well(5, HEAD + "let a=1{let b=1{let c=1{}let d=1{}}let e=1{}}spec 1;");
        well(4, HEAD + "if 1{if 1{if 1{if 1{}}}}spec 1;");
        fault(5, HEAD + "if 1{if 1{if 1{if 1{if 1@{}}}}}spec 1;");
        fault(5, HEAD + "if 1{loop 1{while 1 most 1{if 1{}else{if 1@{}}}}}spec 1;");
        fault(5, HEAD + "let a=1{if 1{if 1{if 1{loop 2@{}}}}}spec 1;");
        well(0, HEAD + "spec ~~~~~~1;");
        fault(5, HEAD + "spec ~~~~~~@~1;");
        fault(5, HEAD + "spec ------@-1;");
        well(0, HEAD + "spec ((((((1))))));");
        fault(5, HEAD + "spec ((((((@(1)))))));");
        fault(5, HEAD + "spec ~(-(~(@(1))));");
        well(0, HEAD + "spec ~(-(~(1)))+~~~~~~1-(((((-1)))));");
        fault(5, HEAD + "spec ((((((1+@-1))))));");
        well(0, HEAD + "spec ((((((1-1-1))))));");
    }

    private static void ofOnePlace() {
        // Of one place the first kind counts: a name not there is ahead of a statement too many.
        fault(2, HEAD + times(24, "must 1;") + "@q=1;spec 1;");
        // Bits out of their bounds, or beyond the width, are ahead of bits too many together.
        fault(4, HEAD + "in a 4;in b @7;spec 1;");
        fault(4, "sketch 3;in a 3;in b 3;in c @4;spec 1;");
        // A wrong token is ahead of all.
        fault(1, HEAD + "in a 4;in b 3;in c @c;spec 1;");
        fault(1, HEAD + "if 1{if 1{if 1{if 1{if 1 @(1){}}}}}spec 1;");
        // Of two places the least counts, whatever the kinds.
        fault(5, HEAD + "var a;var b;var c;var d;@var a;spec q;");
        fault(4, HEAD + "hole a @9;hole a 1;spec 1;");
        fault(3, HEAD + "hole a 1;hole @a 9;spec 1;");
    }
}

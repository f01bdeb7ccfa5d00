/** Promises 10 to 12: write, written and again: each kind, brackets, blanks, and what changes nothing. */
public final class Promise10To12WriteTest {
    public static void main(String[] args) {
        items();
        everyNode();
        brackets();
        bracketsOfEachBinding();
        blanks();
        noSuch();
        written();
        again();
        Check.end();
    }

    private static void design(String text, String want) {
        Subject reader = Check.reader(text);
        Check.due("written of " + text, Check.write(reader, 0, 0), want);
        Check.due("again", reader.again(), want.length());
        Check.due("read again of " + want, reader.read(1, -1), -1);
        Check.due("same of " + want, reader.same(), true);
    }

    private static void items() {
        design("", "");
        design(" level A ; level B > A ; level C > A , B ;", "level A;level B>A;level C>A,B;");
        design("const c = ( 1 ) ; mode m [ 2 ] = 0 ;", "const c=1;mode m[2]=0;");
        design("in a [ 1 ] : L | M ; reg r [ 8 ] = 255 : L ;", "in a[1]:L|M;reg r[8]=255:L;");
        design("wire w = a ; out o : L = w ;", "wire w=a;out o:L=w;");
        design("fun f ( a [ 1 ] ) [ 1 ] = a ;", "fun f(a[1])[1]=a;");
        design("fun f [ P , Q ] ( a [ P ] , b [ Q ] , c [ 1 ] ) [ P + Q ] = { a , b } ;",
            "fun f[P,Q](a[P],b[Q],c[1])[P+Q]={a,b};");
        design("in a[1]:if ( m == 1 ) A else if ( m == 2 ) B | C else D ;", "in a[1]:if(m==1)A else if(m==2)B|C else D;");
        design("in a[1]:if(m==1)if(m==2)A else B else C;", "in a[1]:if(m==1)if(m==2)A else B else C;");
        design("next { } next { a <= b ; if ( a ) { } if ( a ) { } else { a <= a ; } }",
            "next{}next{a<=b;if(a){}if(a){}else{a<=a;}}");
        design("next{case ( a ) { 0 : { } 1 + 1 : { a <= b ; } }case(a){b:{}default : { } } }",
            "next{case(a){0:{}1+1:{a<=b;}}case(a){b:{}default:{}}}");
        design("wire w = a [ 1 ] + a [ 2 : 1 ] + f ( a ) + f [ 1 ] ( a ) + f [ 1 , 2 ] ( a , b ) ;",
            "wire w=a[1]+a[2:1]+f(a)+f[1](a)+f[1,2](a,b);");
        design("wire w = num ( 8 , 0 ) + zext ( 8 , a ) + sext ( 8 , a ) + any ( a ) + all ( a ) + odd ( a ) ;",
            "wire w=num(8,0)+zext(8,a)+sext(8,a)+any(a)+all(a)+odd(a);");
    }

    private static void everyNode() {
        Subject reader = Check.reader("fun f(a[(1)])[2]=(a|b)&(c?d:e)+g(~(h-i));");
        String[] wants = {"fun f(a[1])[2]=(a|b)&(c?d:e)+g(~(h-i));", "fun f(a[1])[2]=(a|b)&(c?d:e)+g(~(h-i));", "f", "", "a[1]", "a", "1", "2",
            "(a|b)&(c?d:e)+g(~(h-i))", "a|b", "a", "|b", "b", "&(c?d:e)+g(~(h-i))", "(c?d:e)+g(~(h-i))", "c?d:e", "c", "d", "e",
            "+g(~(h-i))", "g(~(h-i))", "g", "", "~(h-i)", "h-i", "h", "-i", "i"};
        nodes(reader, wants);
        reader = Check.reader("fun f[P](a[1])[1]=f[P,2](a*(b*c),(d?e:g)?h:i)+(j-(k-l));");
        wants = new String[] {"fun f[P](a[1])[1]=f[P,2](a*(b*c),(d?e:g)?h:i)+(j-(k-l));",
            "fun f[P](a[1])[1]=f[P,2](a*(b*c),(d?e:g)?h:i)+(j-(k-l));", "f", "[P]", "P", "a[1]", "a", "1", "1",
            "f[P,2](a*(b*c),(d?e:g)?h:i)+(j-(k-l))", "f[P,2](a*(b*c),(d?e:g)?h:i)", "f", "[P,2]", "P", "2", "a*(b*c)", "a", "*(b*c)", "b*c", "b",
            "*c", "c", "(d?e:g)?h:i", "d?e:g", "d", "e", "g", "h", "i", "+(j-(k-l))", "j-(k-l)", "j", "-(k-l)", "k-l", "k", "-l", "l"};
        nodes(reader, wants);
        reader = Check.reader("next{case(a){1+2:{}default:{if(b){c<=d;}else{}}}}in a[1]:if(m==1)A|B else C;");
        wants = new String[] {"next{case(a){1+2:{}default:{if(b){c<=d;}else{}}}}in a[1]:if(m==1)A|B else C;",
            "next{case(a){1+2:{}default:{if(b){c<=d;}else{}}}}", "{case(a){1+2:{}default:{if(b){c<=d;}else{}}}}",
            "case(a){1+2:{}default:{if(b){c<=d;}else{}}}", "a", "1+2:{}", "1+2", "1", "+2", "2", "{}",
            "default:{if(b){c<=d;}else{}}", "{if(b){c<=d;}else{}}", "if(b){c<=d;}else{}", "b", "{c<=d;}", "c<=d;", "c", "d", "{}",
            "in a[1]:if(m==1)A|B else C;", "a", "1", "if(m==1)A|B else C", "m", "1", "A|B", "A", "B", "C", "C"};
        nodes(reader, wants);
    }

    private static void nodes(Subject reader, String[] wants) {
        Check.due("nodes of " + wants[0], reader.nodes(0), wants.length);
        for (int k = 0; k < wants.length; k++) {
            Check.due("node " + k + " of " + wants[0], Check.write(reader, 0, k), wants[k]);
        }
    }

    private static void expr(String text, String want) {
        design("wire w=" + text + ";", "wire w=" + want + ";");
    }

    private static void brackets() {
        expr("(((a)))", "a");
        expr("(a|b)|c", "(a|b)|c");
        expr("a|(b|c)", "a|(b|c)");
        expr("((a|b)|(c))", "(a|b)|c");
        expr("(a+b)-(c-d)", "(a+b)-(c-d)");
        expr("-((a))", "-a");
        expr("-(-(~(!a)))", "--~!a");
        expr("-(a[1])*-(f(b))", "-a[1]*-f(b)");
        expr("(-a)*(-b)", "-a*-b");
        expr("-(a*b)", "-(a*b)");
        expr("!(a?b:c)", "!(a?b:c)");
        expr("~{(a),(a?b:c),(a+b)}", "~{a,a?b:c,a+b}");
        expr("(a)?(b):(c)", "a?b:c");
        expr("(a|b)?(c|d):(e|f)", "a|b?c|d:e|f");
        expr("(a?b:c)?d:e", "(a?b:c)?d:e");
        expr("a?(b?c:d):(e?f:g)", "a?b?c:d:e?f:g");
        expr("a+(b?c:d)", "a+(b?c:d)");
        expr("(b?c:d)+a", "(b?c:d)+a");
        expr("f((a?b:c),(a|b))", "f(a?b:c,a|b)");
        expr("any((a|b))&all((a?b:c))&odd(-(a))", "any(a|b)&all(a?b:c)&odd(-a)");
        expr("zext(((1)+2),(a|b))+sext((1+2),(a?b:c))", "zext(1+2,a|b)+sext(1+2,a?b:c)");
        expr("num((1),(2*(3)))", "num(1,2*3)");
        expr("a[(1+2)]+a[((1)):(2)]+f[(1),(2-1)](b)", "a[1+2]+a[1:2]+f[1,2-1](b)");
        design("const c=(1+2)*3-(4-5)+(6*7)*(8/9)%(1);", "const c=(1+2)*3-(4-5)+(6*7)*(8/9)%1;");
        design("const c=(1*2)+(3/4)-(5%6);", "const c=1*2+3/4-5%6;");
        design("const c=(1+2)+3;const d=1+(2+3);const e=(1)*(2);", "const c=(1+2)+3;const d=1+(2+3);const e=1*2;");
        design("next{if((a|b)){}case((a)){(1+2):{}}a<=(b<=c);}", "next{if(a|b){}case(a){1+2:{}}a<=b<=c;}");
        design("in a[(1)]:if(m==((1)+2))L else L;", "in a[1]:if(m==1+2)L else L;");
    }

    /** In brackets before and behind each operator: they stay but where what is in them binds tighter. */
    private static void bracketsOfEachBinding() {
        String[] signs = {"|", "^", "&", "==", "!=", "<", "<=", ">", ">=", "<<", ">>", "+", "-", "*"};
        int[] binding = {1, 2, 3, 4, 4, 5, 5, 5, 5, 6, 6, 7, 7, 8};
        for (int i = 0; i < signs.length; i++) {
            for (int j = 0; j < signs.length; j++) {
                String inner = "a" + signs[i] + "b";
                String kept = binding[i] > binding[j] ? inner : "(" + inner + ")";
                expr("(" + inner + ")" + signs[j] + "c", kept + signs[j] + "c");
                expr("c" + signs[j] + "(" + inner + ")", "c" + signs[j] + kept);
                expr("c" + signs[j] + "d" + signs[j] + "(" + inner + ")", "c" + signs[j] + "d" + signs[j] + kept);
            }
        }
    }

    private static void blanks() {
        design("level\tA;wire\nb=c//\n;//", "level A;wire b=c;");
        design("in a[1]:if(m==1)L//\nelse//\nM;", "in a[1]:if(m==1)L else M;");
        design("in _[1]:if(m==1)_ else if(m==2)_0 else _1;", "in _[1]:if(m==1)_ else if(m==2)_0 else _1;");
        design("next{if(a){}else{}}", "next{if(a){}else{}}");
        design("const c=1000000000+2147483647+10+0;", "const c=1000000000+2147483647+10+0;");
    }

    private static void noSuch() {
        Subject reader = Check.reader("wire a=b;");
        Check.due("write", reader.write(0, 3), 1);
        int[] noNodes = {-1, 4, 5, 12010, 20000, Integer.MIN_VALUE, Integer.MAX_VALUE};
        for (int k : noNodes) {
            Check.due("write(0, " + k + ")", reader.write(0, k), -1);
        }
        int[] noTrees = {-1, 2, Integer.MIN_VALUE, Integer.MAX_VALUE};
        for (int tree : noTrees) {
            Check.due("write(" + tree + ", 0)", reader.write(tree, 0), -1);
        }
        Check.due("no node of the other tree", reader.write(1, 1), -1);
        Check.due("it changed nothing", Check.written(reader), "b");
        Check.due("nor for again", reader.again(), 1);
    }

    private static void written() {
        Subject reader = Check.reader("wire a=b;level Q;");
        Check.due("nothing is written by read", reader.written(0), -1);
        reader.write(0, 0);
        Check.due("written(16)", reader.written(16), ';');
        int[] none = {-1, -2, 17, 18, 7999, 8000, Integer.MIN_VALUE, Integer.MAX_VALUE};
        for (int i : none) {
            Check.due("written(" + i + ")", reader.written(i), -1);
        }
        reader.write(0, 3);
        Check.due("a shorter one takes its place", Check.written(reader), "b");
        Check.due("read", Check.read(reader, 0, "level A;"), -1);
        Check.due("it stays when the tree goes", Check.written(reader), "b");
        Check.due("read", Check.read(reader, 0, "fun f(a[1])[1]=a;"), -1);
        Check.due("CONSTANTS that are none", reader.write(0, 3), 0);
        Check.due("written is nothing", reader.written(0), -1);
        Check.due("a design without items", reader.write(1, 0), 0);
    }

    private static void again() {
        Subject reader = new Subject();
        Check.feed(reader, "level A;");
        Check.due("nothing was written", reader.again(), 0);
        Check.due("all bytes are gone", reader.read(0, 1), -2);
        Check.due("read", Check.read(reader, 0, "wire a=( b );"), -1);
        reader.write(0, 0);
        Check.feed(reader, "xxxxxxxxxxxxxxxxxxxxxxxxxxxxx");
        Check.due("in place of all that was fed", reader.again(), 9);
        Check.due("no more than that", reader.read(1, 10), -2);
        Check.due("read", reader.read(1, 9), -1);
        Check.due("tree", Check.tree(reader, 1, 1), "9@0(21@5 21=1@7)");
        Check.due("it is gone", reader.read(1, 1), -2);
        Check.due("it can be fed again", reader.again(), 9);
        Check.due("twice is once", reader.again(), 9);
        Check.due("more behind it", Check.feed(reader, "level A;"), 29);
        Check.due("read", reader.read(1, -1), -1);
        Check.due("both", Check.write(reader, 1, 0), "wire a=b;level A;");
        reader.write(0, 3);
        Check.due("a part", reader.again(), 1);
        Check.due("is no design", reader.read(0, -1), 0);
        Check.due("names stay", reader.names(), 3);
    }
}

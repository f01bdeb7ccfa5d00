/** Promise 13: same. */
public final class Promise13SameTest {
    public static void main(String[] args) {
        alike("", " // x", true);
        alike("wire a=b;", " wire\na = ( b ) ;", true);
        alike("wire a=b|c&d;", "wire a=(b|(c&d));", true);
        alike("wire a=b;", "wire a=c;", false);
        alike("wire a=b;", "wire b=a;", false);
        alike("wire a=b;", "wire a=b;wire a=b;", false);
        alike("const c=1;", "const c=2;", false);
        alike("const c=1;", "const c=a;", false);
        alike("const c=0;", "const c=c;", false);
        alike("const c=1+2;", "const c=1-2;", false);
        alike("wire a=b|c|d;", "wire a=(b|c)|d;", false);
        alike("wire a=(b|c)|d;", "wire a=b|(c|d);", false);
        alike("wire a={b,{c,d}};", "wire a={{b,c},d};", false);
        alike("wire a={b,{c},d};", "wire a={b,{c,d}};", false);
        alike("wire a=-b;", "wire a=~b;", false);
        alike("wire a=f(b);", "wire a=f[1](b);", false);
        alike("next{if(a){}else{}}", "next{if(a){}}", false);
        alike("next{if(a){b<=c;}}", "next{if(a){}b<=c;}", false);
        alike("level A;level B;", "level A>B;", false);
        alike("level A;@", "level A;wire", true);
        alike("level A;@", "level B;", false);
        changes();
        Check.end();
    }

    private static void alike(String one, String other, boolean want) {
        Subject reader = new Subject();
        Check.read(reader, 0, one);
        Check.read(reader, 1, other);
        Check.due("same of " + one + " and " + other, reader.same(), want);
        reader = new Subject();
        Check.read(reader, 1, one);
        Check.read(reader, 0, other);
        Check.due("same of " + other + " and " + one, reader.same(), want);
    }

    private static void changes() {
        Subject reader = Check.reader("wire a=b;");
        Check.due("with the empty one", reader.same(), false);
        Check.read(reader, 1, "wire a=b+c;wire d=e;");
        Check.due("with another one", reader.same(), false);
        Check.read(reader, 1, "\nwire a=b;");
        Check.due("with its like, in place of a longer one", reader.same(), true);
        reader.read(1, 0);
        Check.due("with nothing", reader.same(), false);
        reader.read(0, -1);
        Check.due("both nothing", reader.same(), true);
    }
}

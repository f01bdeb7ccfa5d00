/** Promise 3: the place of the fault, for each place of the grammar at which a text can go wrong. */
public final class Promise03FaultsTest {
    public static void main(String[] args) {
        // a ` stands in front of the token, the byte or the end where the fault lies
        items();
        functions();
        labels();
        blocks();
        sums();
        exprs();
        treesWithFaults();
        Check.end();
    }

    private static void fault(String marked) {
        int place = marked.indexOf('`');
        String text = marked.replace("`", "");
        Check.due("read of " + marked, Check.read(new Subject(), 0, text), place);
    }

    private static void items() {
        String[] texts = {"`x", "`;", "`1", "`(", "`if", "`default", "`{}", "`else{}", "level`", "level `;", "level `1;", "level `>A;",
            "level A`", "level A`,B;", "level A`=B;", "level A`>>B;", "level A>`", "level A>`;", "level A>`,B;", "level A>B`", "level A>B`|C;",
            "level A>B`>C;", "level A>B,`;", "level A>B `C;", "level A;`;", "level A `level B;",
            "const`", "const `=1;", "const c`", "const c`:1;", "const c`[1]=1;", "const c=`", "const c=`;", "const c=1`", "const c=1`]", "const c=1`:",
            "mode`", "mode m`=0;", "mode m[`]=0;", "mode m[1`", "mode m[1`=0;", "mode m[1]`;", "mode m[1]`:A;", "mode m[1]=`;", "mode m[1]=0`",
            "mode m[1]=0`:A;", "mode m[1]`==0;",
            "in`", "in a`:L;", "in a[1]`;", "in a[1]`=0:L;", "in a[1]:`;", "in a[1]:L`", "in a[1]:L`=a;",
            "reg`", "reg r`=0:L;", "reg r[1]`:L;", "reg r[1]=0`;", "reg r[1]=`:L;", "reg r[1]=0:`;", "reg r[1]=0:L`=a;", "reg r[1]=0:L`",
            "wire`", "wire w`;", "wire w`[1]=a;", "wire w`:L=a;", "wire w=`", "wire w=`;", "wire w=a`", "wire w=a`)", "wire w=a`=b;",
            "out`", "out o`=a;", "out o`[1]:L=a;", "out o:`=a;", "out o:L`;", "out o:L`==a;", "out o:L=`;", "out o:L=a`", "out o:L=a`:",
            "next`", "next`;", "next{`", "next{}`;", "next{}`else{}", "wire w=a; `@", "wire w=a; `wirewirewirewirewirewirewirewire w=a;"};
        for (String text : texts) {
            fault(text);
        }
    }

    private static void functions() {
        String[] texts = {"fun`", "fun `(a[1])[1]=a;", "fun f`", "fun f`=a;", "fun f[`](a[1])[1]=a;", "fun f[`1](a[1])[1]=a;",
            "fun f[P`(a[1])[1]=a;", "fun f[P`;Q]", "fun f[P,`](a[1])[1]=a;", "fun f[P`+1](a[1])[1]=a;", "fun f[P]`", "fun f[P]`[1]=a;",
            "fun f[P]`=a;", "fun f(`)[1]=a;", "fun f(a`)[1]=a;", "fun f(a`,b[1])[1]=a;", "fun f(a[`])[1]=a;", "fun f(a[1`)[1]=a;",
            "fun f(a[1]`;", "fun f(a[1],`)[1]=a;", "fun f(a[1])`=a;", "fun f(a[1])[`]=a;", "fun f(a[1])[1]`;", "fun f(a[1])[1]`:a;",
            "fun f(a[1])[1]=`;", "fun f(a[1])[1]=`1;", "fun f(a[1])[1]=a`", "fun f(a[1])[1]=a`,", "fun f(`1[1])[1]=a;"};
        for (String text : texts) {
            fault(text);
        }
    }

    private static void labels() {
        String[] texts = {"in a[1]:L|`;", "in a[1]:L`,M;", "in a[1]:`|L;", "in a[1]:`(L);", "in a[1]:`1;", "in a[1]:L `M;", "in a[1]:if`",
            "in a[1]:if `m", "in a[1]:if(`)", "in a[1]:if(`1==m)", "in a[1]:if(m`)", "in a[1]:if(m`=1)", "in a[1]:if(m`!=1)", "in a[1]:if(m==`)",
            "in a[1]:if(m==1`;", "in a[1]:if(m==1`==1)", "in a[1]:if(m==`~m)", "in a[1]:if(m==1)`;", "in a[1]:if(m==1)`else L;",
            "in a[1]:if(m==1)L`;", "in a[1]:if(m==1)L|`else", "in a[1]:if(m==1)L else`;", "in a[1]:if(m==1)L else M `else N;",
            "in a[1]:if(m==1)if(m==2)A else B`;", "in a[1]:if(m==1)L else `{}", "in a[1]:`else L;"};
        for (String text : texts) {
            fault(text);
        }
    }

    private static void blocks() {
        String[] texts = {"next{`;}", "next{`1}", "next{`{}}", "next{`else{}}", "next{`default:{}}", "next{`wire w=a;}", "next{a`;}",
            "next{a`=b;}", "next{a`<b;}", "next{a`[1]<=b;}", "next{a<=`;}", "next{a<=b`}", "next{a<=b;`", "next{a<=b`,c;}",
            "next{if`}", "next{if(`)", "next{if(a`{", "next{if(a)`;", "next{if(a)`a<=b;}", "next{if(a){}`", "next{if(a){}else `if(b){}}",
            "next{if(a){}else`", "next{if(a){}else{}`else{}}", "next{if(a){`", "next{case`{", "next{case(`)", "next{case(a)`0", "next{case(a){`}",
            "next{case(a){`default", "next{case(a){0`}", "next{case(a){0`{", "next{case(a){0:`}", "next{case(a){0:`a<=b;", "next{case(a){0:{}`",
            "next{case(a){0:{}`;", "next{case(a){0:{}a`<=b;}}", "next{case(a){0:{}`,1:{}}}", "next{case(a){0`,1:{}}}", "next{case(a){0:{}default`{}}}",
            "next{case(a){0:{}default:`}}", "next{case(a){0:{}default:{}`1:{}}}", "next{case(a){0:{}default:{}`default:{}}}",
            "next{case(a){0:{}default:{}}`", "next{case(a){0:{}`else{}}}", "next{case(a){`-1:{}}}", "next{case(a){`num(1,1):{}}}"};
        for (String text : texts) {
            fault(text);
        }
    }

    private static void sums() {
        String[] texts = {"const c=`-1;", "const c=1+`;", "const c=1+`+2;", "const c=1 `2;", "const c=a `b;", "const c=a`[1];", "const c=a`(1);",
            "const c=(`);", "const c=(1`;", "const c=(1`,2);", "const c=(1)`);", "const c=1`<<2;", "const c=1`|2;", "const c=1`&2;", "const c=1`^2;",
            "const c=1`==2;", "const c=1`!=2;", "const c=1`<2;", "const c=1`<=2;", "const c=1`>2;", "const c=1`>=2;", "const c=1`>>2;",
            "const c=1`?2:3;", "const c=`~1;", "const c=`!1;", "const c=`{1};", "const c=`num(1,1);", "const c=1*`;", "const c=1/`;", "const c=1%`;",
            "const c=1-`;", "const c=1*`/2;", "const c=`*1;", "const c=1`~2;"};
        for (String text : texts) {
            fault(text);
        }
    }

    private static void exprs() {
        String[] texts = {"wire w=`1;", "wire w=a+`1;", "wire w=a`/b;", "wire w=a`%b;", "wire w=a `b;", "wire w=a`!b;", "wire w=a`~b;", "wire w=a|`;",
            "wire w=a|`|b;", "wire w=a&`&b;", "wire w=a<<`=b;", "wire w=-`;", "wire w=~`", "wire w=!`1;", "wire w=--`+a;", "wire w=(`);",
            "wire w=(a`;", "wire w=(a`,b);", "wire w=(`)", "wire w={`};", "wire w={a`;", "wire w={a,`};", "wire w={a`)", "wire w={a}`}",
            "wire w=a?`;", "wire w=a?b`;", "wire w=a?b`,c;", "wire w=a?b:`;", "wire w=a?b:c`:d;", "wire w=a`:b;", "wire w=a?`:b;", "wire w=a?b:c?d`;",
            "wire w=a[`];", "wire w=a[1`;", "wire w=a[1`)", "wire w=a[`~b];", "wire w=a[1:`];", "wire w=a[1:2`;", "wire w=a[1:2`,3];",
            "wire w=a[1:2`:3];", "wire w=a[1:2]`(b);", "wire w=a[1]`[2];", "wire w=a[1] `b;", "wire w=a[1,`];", "wire w=a[1,2`:3];",
            "wire w=a[1,2]`;", "wire w=a[1,2]`+b;", "wire w=a[1](`);", "wire w=a[1](b`;", "wire w=a[1](b)`(c);", "wire w=a[1](b,`);",
            "wire w=a(`);", "wire w=a(`1);", "wire w=a(b`;", "wire w=a(b,`);", "wire w=a(b)`[1];", "wire w=a(b)`(c);", "wire w=(a)`(b);",
            "wire w=(a)`[1];", "wire w=a[b`[1]];", "wire w=a[b`(1)];", "wire w=num`;", "wire w=num`[1](a);", "wire w=num(`)", "wire w=num(1`);",
            "wire w=num(1,`);", "wire w=num(1,2`,3);", "wire w=num(1,2`;", "wire w=num(1,`-2);", "wire w=num(1,a`[1]);", "wire w=zext(`)",
            "wire w=zext(1`);", "wire w=zext(1,`1);", "wire w=zext(1,a`,b);", "wire w=zext(1,a`;", "wire w=zext(`~a,b);", "wire w=sext(1,`);",
            "wire w=sext`;", "wire w=any`;", "wire w=any(`);", "wire w=any(`1);", "wire w=any(a`,b);", "wire w=any(a`;", "wire w=all(`)",
            "wire w=odd(`)", "wire w=odd `a", "wire w=`)", "wire w=`]", "wire w=`else;", "wire w=`if(a)b;", "wire w=a`@;", "wire w=a+`01;"};
        for (String text : texts) {
            fault(text);
        }
    }

    private static void treesWithFaults() {
        Subject reader = new Subject();
        Check.due("read", Check.read(reader, 0, "level A;wire a=b+;level C;"), 17);
        Check.due("the items before", Check.tree(reader, 0, 0), "0@-1(1@0(21@6))");
        Check.due("read", Check.read(reader, 0, "level A;level B;}"), 16);
        Check.due("the items before", Check.tree(reader, 0, 0), "0@-1(1@0(21@6) 1@8(21=1@14))");
        Check.due("read", Check.read(reader, 0, "next{}else{}"), 6);
        Check.due("the items before", Check.tree(reader, 0, 0), "0@-1(11@0(12@4))");
        Check.due("read", Check.read(reader, 0, "level A;next{a<=(b"), 18);
        Check.due("size of the design", reader.node(0, 0, 3), 3);
        Check.due("parts of the design", reader.node(0, 0, 4), 1);
        Check.due("no node behind", reader.node(0, 3, 0), -2);
        Check.due("it is written", Check.write(reader, 0, 0), "level A;");
        // many rows stand open at the fault, and are none in the next text
        Check.due("read", Check.read(reader, 0, "wire a=b|c^d&e==f<g<<h+i*(j|k^l&;"), 32);
        Check.due("read", Check.read(reader, 0, "wire a=b*c|d;"), -1);
        Check.due("its tree", Check.tree(reader, 0, 3).substring(0, 9), "22@7(22@7");
    }
}
